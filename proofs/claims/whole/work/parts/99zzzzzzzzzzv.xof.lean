/-! what the reference is offered, exactly: rows in order -/
def nfR (A : rn_L) (sg : Nat → Bool) (r : List Nat) : Prop := ∃ m P, mk A m P ∧ r = pkR A sg m P
/-- S' is S with the rows of what O names -/
def adS (S S' : List Nat → Prop) (O : rn_L → (Nat → Bool) → Prop) : Prop := (∀ r, S r → S' r) ∧ (∀ r, S' r → S r ∨ ∃ A sg, O A sg ∧ nfR A sg r) ∧ ∀ A sg, O A sg → ∃ r, S' r ∧ nfR A sg r
theorem adS_tr {S S1 S2 : List Nat → Prop} {O O1 : rn_L → (Nat → Bool) → Prop} (h : adS S S1 O) (h1 : adS S1 S2 O1) : adS S S2 (fun A sg => O A sg ∨ O1 A sg) := by
  refine ⟨fun r hr => h1.1 r (h.1 r hr), fun r hr => ?_, fun A sg hO => ?_⟩
  · rcases h1.2.1 r hr with h9 | ⟨A, sg, h8, h9⟩
    · rcases h.2.1 r h9 with h9 | ⟨A, sg, h8, h9⟩
      · exact Or.inl h9
      · exact Or.inr ⟨A, sg, Or.inl h8, h9⟩
    · exact Or.inr ⟨A, sg, Or.inr h8, h9⟩
  · rcases hO with h9 | h9
    · obtain ⟨r, r1, r2⟩ := h.2.2 A sg h9
      exact ⟨r, h1.1 r r1, r2⟩
    · exact h1.2.2 A sg h9
theorem adS_rf {S : List Nat → Prop} : adS S S (fun _ _ => False) := ⟨fun r h => h, fun r h => Or.inl h, fun A sg h => h.elim⟩
theorem adS_eq {S S' : List Nat → Prop} {O O' : rn_L → (Nat → Bool) → Prop} (h : adS S S' O) (e : ∀ A sg, O A sg ↔ O' A sg) : adS S S' O' := ⟨h.1, fun r hr => (h.2.1 r hr).imp id (fun ⟨A, sg, h8, h9⟩ => ⟨A, sg, (e A sg).mp h8, h9⟩), fun A sg h9 => h.2.2 A sg ((e A sg).mpr h9)⟩
/-- what takes offers -/
def snkF (Φ : ow_MS → (List Nat → Prop) → Nat → Prop) : Prop := (∀ (P : Nat → Prop) z z1 S n, fr P z z1 → (∀ g, P g → 31 ≤ g ∧ g ≤ 34 ∨ 1000 ≤ g) → Φ z S n → Φ z1 S n) ∧ (∀ z S n A sg, n < 2700 → Φ z S n → rn_At z 3000 A [] → rn_sg z 3000 A.flatten sg → wkF A.flatten → A.flatten.length ≤ 24 → A.length ≤ 6 → Te (fun K => qe_X13_offer K z) (fun z1 => (∃ S', adS S S' (fun A' sg' => A' = A ∧ sg' = sg) ∧ Φ z1 S' (n + 1)) ∧ fr frO z z1)) ∧ ∀ z S n n', n ≤ n' → Φ z S n → Φ z S n'
theorem lsr_c {S T : List Nat} : lsr S T = true ↔ cmpC (vOf S, S) (vOf T, T) < 0 := by
  unfold lsr cmpC
  show (if vOf S = vOf T then lxb S T else decide (vOf S < vOf T)) = true ↔ (if vOf S = vOf T then lexD S T else ((vOf S : Nat) : Int) - ((vOf T : Nat) : Int)) < 0
  by_cases e : vOf S = vOf T
  · rw [if_pos e, if_pos e]
    exact lxb_lex S T
  · rw [if_neg e, if_neg e, decide_eq_true_iff]
    omega
theorem lsr_tr {S T U : List Nat} (h1 : lsr S T = true) (h2 : lsr T U = true) : lsr S U = true := by
  rw [lsr_c] at h1 h2 ⊢
  have h3 := cmpC_tr (Int.le_of_lt h1) (Int.le_of_lt h2)
  have h4 : cmpC (vOf S, S) (vOf U, U) ≠ 0 := fun e => by
    have e2 := cmpC_0 e
    have e3 : S = U := congrArg Prod.snd e2
    rw [e3] at h1
    have := cmpC_sym (A := (vOf U, U)) (B := (vOf T, T))
    omega
  omega
theorem lsr_irr {S : List Nat} : lsr S S = false := by
  cases e : lsr S S with
  | false => rfl
  | true =>
    rw [lsr_c, cmpC_rf] at e
    omega
theorem lsr_tri {S T : List Nat} (h : lsr S T = false) (hne : T ≠ S) : lsr T S = true := by
  rw [lsr_c]
  have h1 : ¬ cmpC (vOf S, S) (vOf T, T) < 0 := fun h9 => by
    rw [← lsr_c, h] at h9
    cases h9
  have h2 := cmpC_sym (A := (vOf T, T)) (B := (vOf S, S))
  have h3 : cmpC (vOf S, S) (vOf T, T) ≠ 0 := fun e => hne (congrArg Prod.snd (cmpC_0 e)).symm
  omega
/-- the list of rows that moves() keeps -/
def lsW (z : ow_MS) (Ms : List (List Nat)) : Prop := Ms.length ≤ 2700 ∧ z.1 22 = nI Ms.length ∧ (∀ (k : Nat) r, Ms[k]? = some r → ∃ j, j < Ms.length ∧ z.2.1 21 k = nI j ∧ rc_At z 20 (32 * j) r) ∧ (∀ j, j < Ms.length → dRow z 20 (32 * j)) ∧ Ms.Pairwise (fun a b => lsr a b = true)
theorem pw_get {Ms : List (List Nat)} (h : Ms.Pairwise (fun a b => lsr a b = true)) {i j : Nat} {a b : List Nat} (ha : Ms[i]? = some a) (hb : Ms[j]? = some b) (hij : i < j) : lsr a b = true := by
  obtain ⟨h1, h2⟩ := List.getElem?_eq_some_iff.mp ha
  obtain ⟨h3, h4⟩ := List.getElem?_eq_some_iff.mp hb
  have := List.pairwise_iff_getElem.mp h i j h1 h3 hij
  rw [h2, h4] at this
  exact this
theorem rc_cp {z z1 : ow_MS} {h o : Nat} {F : List Nat} (hv : rc_At z 27 0 F) (hc : ∀ i, i < F.length + 1 → z1.2.1 h (o + i) = z.2.1 27 i) : rc_At z1 h o F := by
  refine ⟨hv.1, hv.2.1, ?_, fun i t hi => ?_⟩
  · have := hc 0 (by omega)
    rw [Nat.add_zero] at this
    rw [this]
    exact hv.2.2.1
  · have := (List.getElem?_eq_some_iff.mp hi).1
    rw [hc (i + 1) (by omega)]
    have := hv.2.2.2 i t hi
    rw [Nat.zero_add] at this
    exact this
theorem rc_eq {z z1 : ow_MS} {h o : Nat} {F : List Nat} (hi : ∀ i, o ≤ i → i < o + 32 → z1.2.1 h i = z.2.1 h i) (hv : rc_At z h o F) : rc_At z1 h o F := by
  have hl := hv.1
  refine ⟨hv.1, hv.2.1, by rw [hi o (by omega) (by omega)]; exact hv.2.2.1, fun k t hk => ?_⟩
  have := (List.getElem?_eq_some_iff.mp hk).1
  rw [hi _ (by omega) (by omega)]
  exact hv.2.2.2 k t hk
theorem rc_uni {z : ow_MS} {h o : Nat} {S T : List Nat} (h1 : rc_At z h o S) (h2 : rc_At z h o T) : S = T := by
  have b1 := h1.1
  have b2 := h2.1
  have hl : S.length = T.length := nI_inj9 (by omega) (by omega) (h1.2.2.1.symm.trans h2.2.2.1)
  refine List.ext_getElem? (fun k => ?_)
  by_cases hk : k < S.length
  · obtain ⟨s, s1, s2, s3⟩ := rc_get h1 hk
    obtain ⟨t, t1, t2, t3⟩ := rc_get (k := k) h2 (by omega)
    rw [s1, t1, nI_inj9 (a := s) (b := t) (by omega) (by omega) (s3.symm.trans t3)]
  · rw [List.getElem?_eq_none (by omega), List.getElem?_eq_none (by omega)]
/-- a row put into a sorted list -/
def insR (Ms : List (List Nat)) (lo : Nat) (F : List Nat) : List (List Nat) := Ms.take lo ++ F :: Ms.drop lo
theorem insR_len {Ms : List (List Nat)} {lo : Nat} {F : List Nat} (h : lo ≤ Ms.length) : (insR Ms lo F).length = Ms.length + 1 := by
  unfold insR
  rw [List.length_append, List.length_take, List.length_cons, List.length_drop]
  omega
theorem insR_at {Ms : List (List Nat)} {lo k : Nat} {F : List Nat} (h : lo ≤ Ms.length) : (insR Ms lo F)[k]? = if k < lo then Ms[k]? else if k = lo then some F else Ms[k - 1]? := by
  unfold insR
  have hl : (Ms.take lo).length = lo := by rw [List.length_take]; omega
  by_cases h1 : k < lo
  · rw [if_pos h1, List.getElem?_append_left (by omega), List.getElem?_take, if_pos h1]
  · rw [if_neg h1, List.getElem?_append_right (by omega), hl]
    by_cases h2 : k = lo
    · rw [if_pos h2, h2, Nat.sub_self]
      rfl
    · rw [if_neg h2]
      obtain ⟨d, rfl⟩ : ∃ d, k = lo + d + 1 := ⟨k - lo - 1, by omega⟩
      rw [show lo + d + 1 - lo = d + 1 by omega, List.getElem?_cons_succ, List.getElem?_drop, show lo + d + 1 - 1 = lo + d by omega]
theorem insR_mem {Ms : List (List Nat)} {lo : Nat} {F r : List Nat} : r ∈ insR Ms lo F ↔ r = F ∨ r ∈ Ms := by
  unfold insR
  rw [List.mem_append, List.mem_cons]
  constructor
  · rintro (h | h | h)
    · exact Or.inr (List.mem_of_mem_take h)
    · exact Or.inl h
    · exact Or.inr (List.mem_of_mem_drop h)
  · rintro (h | h)
    · exact Or.inr (Or.inl h)
    · rw [← List.take_append_drop lo Ms] at h
      rcases List.mem_append.mp h with h9 | h9
      · exact Or.inl h9
      · exact Or.inr (Or.inr h9)
theorem insR_pw {Ms : List (List Nat)} {lo : Nat} {F : List Nat} (h : Ms.Pairwise (fun a b => lsr a b = true)) (hl : lo ≤ Ms.length) (h1 : ∀ k r, k < lo → Ms[k]? = some r → lsr r F = true) (h2 : ∀ k r, lo ≤ k → Ms[k]? = some r → lsr F r = true) : (insR Ms lo F).Pairwise (fun a b => lsr a b = true) := by
  rw [List.pairwise_iff_getElem]
  intro i j hi hj hij
  have ei := List.getElem?_eq_getElem hi
  have ej := List.getElem?_eq_getElem hj
  rw [insR_at hl] at ei ej
  by_cases a1 : i < lo
  · rw [if_pos a1] at ei
    by_cases b1 : j < lo
    · rw [if_pos b1] at ej
      exact pw_get h ei ej hij
    · rw [if_neg b1] at ej
      by_cases b2 : j = lo
      · rw [if_pos b2] at ej
        rw [← Option.some.inj ej]
        exact h1 i _ a1 ei
      · rw [if_neg b2] at ej
        exact pw_get h ei ej (by omega)
  · rw [if_neg a1] at ei
    rw [if_neg (by omega), if_neg (by omega)] at ej
    by_cases a2 : i = lo
    · rw [if_pos a2] at ei
      rw [← Option.some.inj ei]
      exact h2 (j - 1) _ (by omega) ej
    · rw [if_neg a2] at ei
      exact pw_get h ei ej (by omega)
theorem xm_offerList {z : ow_MS} {Ms : List (List Nat)} {F : List Nat} (hL : Ms.length < 2700) (hP : lsW z Ms) (hF : rc_At z 27 0 F) (hD : dRow z 27 0) : Te (fun K => qe_X13_offerList K z) (fun z1 => (∃ Ms', lsW z1 Ms' ∧ Ms'.length ≤ Ms.length + 1 ∧ ∀ r, r ∈ Ms' ↔ r = F ∨ r ∈ Ms) ∧ fr (fun g => 20 ≤ g ∧ g ≤ 22) z z1) := by
  obtain ⟨-, h22, ho, hR, hpw⟩ := id hP
  have hl := hF.1
  let Q : ow_MS → Prop := fun z1 => (∃ Ms', lsW z1 Ms' ∧ Ms'.length ≤ Ms.length + 1 ∧ ∀ r, r ∈ Ms' ↔ r = F ∨ r ∈ Ms) ∧ fr (fun g => 20 ≤ g ∧ g ≤ 22) z z1
  have c5 : ∀ (lo : Nat) (x1 x2 : Int32), lo ≤ Ms.length → (∀ k r, k < lo → Ms[k]? = some r → lsr r F = true) → (∀ k r, lo ≤ k → Ms[k]? = some r → lsr F r = true) → ∀ (d k : Nat) (z1 : ow_MS), k + d = F.length + 1 → fr (fun g => 20 ≤ g ∧ g ≤ 21) z z1 → (∀ i, i < lo → z1.2.1 21 i = z.2.1 21 i) → z1.2.1 21 lo = nI Ms.length → (∀ i, lo < i → i ≤ Ms.length → z1.2.1 21 i = z.2.1 21 (i - 1)) → (∀ i, i < k → z1.2.1 20 (32 * Ms.length + i) = z.2.1 27 i) → (∀ i, i < 32 * Ms.length → z1.2.1 20 i = z.2.1 20 i) → Tt (fun K i => q_X13_offerList K i 5 x1 x2 (nI k) z1) Q := by
    intro lo x1 x2 hlo s1' s2 d
    induction d with
    | zero =>
      intro k z1 hk hf o1 o2 o3 hc hi
      have e22 : z1.1 22 = nI Ms.length := by rw [(hf 22 (by omega)).1]; exact h22
      refine u_X13_offerList_5 ?_; unfold qm_X13_offerList_5
      refine w_rdI ml27 nI_0.symm (by omega) (x := nI F.length) (by rw [(hf 27 (by omega)).2.1]; exact hF.2.2.1) (w_ltT (by omega) (by omega) (w_rdF e22 (w_wrF ?_)))
      rw [nI_1]
      have rowF : rc_At z1 20 (32 * Ms.length) F := rc_cp hF (fun i hi9 => hc i (by omega))
      have rowO : ∀ j r, j < Ms.length → rc_At z 20 (32 * j) r → rc_At z1 20 (32 * j) r := fun j r hj h9 => rc_eq (fun i h1 h2 => hi i (by omega)) h9
      refine w_some ⟨⟨insR Ms lo F, ⟨by rw [insR_len hlo]; omega, by rw [insR_len hlo]; exact po_usF_at, fun k9 r hk9 => ?_, fun j hj => ?_, insR_pw hpw hlo s1' s2⟩, by rw [insR_len hlo]; exact Nat.le_refl _, fun r => insR_mem⟩, fr_F2 (fr_mono (fun g hg => by omega) hf) (by omega)⟩
      · rw [insR_at hlo] at hk9
        rw [insR_len hlo]
        by_cases a1 : k9 < lo
        · rw [if_pos a1] at hk9
          obtain ⟨j, j1, j2, j3⟩ := ho k9 r hk9
          exact ⟨j, by omega, by show z1.2.1 21 k9 = _; rw [o1 k9 a1]; exact j2, rowO j r j1 j3⟩
        · rw [if_neg a1] at hk9
          by_cases a2 : k9 = lo
          · rw [if_pos a2] at hk9
            rw [← Option.some.inj hk9, a2]
            exact ⟨Ms.length, by omega, o2, rowF⟩
          · rw [if_neg a2] at hk9
            obtain ⟨j, j1, j2, j3⟩ := ho (k9 - 1) r hk9
            have hk8 := (List.getElem?_eq_some_iff.mp hk9).1
            exact ⟨j, by omega, by show z1.2.1 21 k9 = _; rw [o3 k9 (by omega) (by omega)]; exact j2, rowO j r j1 j3⟩
      · rw [insR_len hlo] at hj
        by_cases hjL : j = Ms.length
        · rw [hjL]
          obtain ⟨A, sg, hv⟩ := hD
          have eF : tk sg A = F := rc_uni hv.1 hF
          exact dRow_cp hv (fun i hi9 => hc i (by rw [eF] at hi9; omega))
        · exact dRow_eq (fun i h1 h2 => hi i (by omega)) (hR j (by omega))
    | succ d ih =>
      intro k z1 hk hf o1 o2 o3 hc hi
      have e22 : z1.1 22 = nI Ms.length := by rw [(hf 22 (by omega)).1]; exact h22
      refine u_X13_offerList_5 ?_; unfold qm_X13_offerList_5
      refine w_rdI ml27 nI_0.symm (by omega) (x := nI F.length) (by rw [(hf 27 (by omega)).2.1]; exact hF.2.2.1) (w_ltF (by omega) (by omega) (w_rdF e22 (w_rdI ml27 rfl (by omega) (by rw [(hf 27 (by omega)).2.1]) ?_)))
      rw [show (32 : Int32) * nI Ms.length = nI (32 * Ms.length) from pk_mul 32 Ms.length, nI_add, nI_1]
      refine w_wrI ml20 rfl (by omega) (ih (k + 1) _ (by omega) (fr_I2 hf (by omega)) (fun i hi9 => rd_ot (by omega) (o1 i hi9)) (rd_ot (by omega) o2) (fun i h1 h2 => rd_ot (by omega) (o3 i h1 h2)) (fun i hi9 => ?_) (fun i hi9 => rd_ne (by omega) (hi i hi9)))
      by_cases hik : i = k
      · rw [hik, po_usI_at]
      · exact rd_ne (by omega) (hc i (by omega))
  have c4 : ∀ (lo : Nat) (x2 : Int32), lo ≤ Ms.length → (∀ k r, k < lo → Ms[k]? = some r → lsr r F = true) → (∀ k r, lo ≤ k → Ms[k]? = some r → lsr F r = true) → ∀ (d k : Nat) (z1 : ow_MS), lo + d = k → k ≤ Ms.length → fr (fun g => g = 21) z z1 → (∀ i, i < k → z1.2.1 21 i = z.2.1 21 i) → (∀ i, k < i → i ≤ Ms.length → z1.2.1 21 i = z.2.1 21 (i - 1)) → Tt (fun K i => q_X13_offerList K i 4 (nI lo) x2 (nI k) z1) Q := by
    intro lo x2 hlo s1' s2 d
    induction d with
    | zero =>
      intro k z1 hk hkL hf o1 o3
      have e22 : z1.1 22 = nI Ms.length := by rw [(hf 22 (by omega)).1]; exact h22
      refine u_X13_offerList_4 ?_; unfold qm_X13_offerList_4
      refine w_leT (by omega) (by omega) (w_rdF e22 (w_wrI ml21 rfl (by omega) (c5 lo _ _ hlo s1' s2 (F.length + 1) 0 _ (by omega) (fr_I2 (fr_mono (fun g hg => by omega) hf) (by omega)) (fun i hi => rd_ne (by omega) (o1 i (by omega))) po_usI_at (fun i h1 h2 => rd_ne (by omega) (o3 i (by omega) h2)) (fun i hi => by omega) (fun i hi => ?_))))
      rw [po_usI_ot (by omega), (hf 20 (by omega)).2.1]
    | succ d ih =>
      intro k z1 hk hkL hf o1 o3
      refine u_X13_offerList_4 ?_; unfold qm_X13_offerList_4
      rw [show nI k - 1 = nI (k - 1) from pk_sub (b := 1) (by omega), show nI k + -1 = nI (k - 1) from by
        obtain ⟨k9, rfl⟩ : ∃ k9, k = k9 + 1 := ⟨k - 1, by omega⟩
        rw [pk_m1]
        rfl]
      refine w_leF (by omega) (by omega) (w_rdI ml21 rfl (by omega) (o1 (k - 1) (by omega)) (w_wrI ml21 rfl (by omega) (ih (k - 1) _ (by omega) (by omega) (fr_I2 hf rfl) (fun i hi => rd_ne (by omega) (o1 i (by omega))) (fun i h1 h2 => ?_))))
      by_cases hik : i = k
      · rw [hik, po_usI_at]
      · exact rd_ne hik (o3 i (by omega) h2)
  have c3 : ∀ (lo : Nat) (x2 : Int32), lo ≤ Ms.length → (∀ k r, k < lo → Ms[k]? = some r → lsr r F = true) → (∀ k r, lo ≤ k → Ms[k]? = some r → lsr F r = true) → Tt (fun K i => q_X13_offerList K i 3 (nI lo) x2 0 z) Q := by
    intro lo x2 hlo s1' s2
    refine u_X13_offerList_3 ?_; unfold qm_X13_offerList_3
    exact w_rdF h22 (c4 lo x2 hlo s1' s2 (Ms.length - lo) Ms.length z (by omega) (Nat.le_refl _) fr_rf (fun i _ => rfl) (fun i h1 h2 => by omega))
  -- the search ends
  have fin : ∀ (lo hi : Nat), lo = hi → hi ≤ Ms.length → (∀ k r, k < lo → Ms[k]? = some r → lsr r F = true) → (∀ k r, hi ≤ k → Ms[k]? = some r → lsr r F = false) → Tt (fun K i => rdF z 22 fun v2 => (if v2 ≤ nI lo then q_X13_offerList K i 3 (nI lo) (nI hi) 0 z else rdI mX z 21 (nI lo) fun v3 => cs1 (qe_X13_isSame K 27 0 20 (32 * v3) z) fun v5 z4 => (if v5 = 0 then q_X13_offerList K i 3 (nI lo) (nI hi) 0 z4 else some z4))) Q := by
    intro lo hi hlh hhL s1' s2
    subst hlh
    refine w_rdF h22 (w_le (by omega) (by omega) (fun h9 => c3 _ _ (by omega) s1' (fun k r hk e => ?_)) (fun h9 => ?_))
    · have := (List.getElem?_eq_some_iff.mp e).1
      omega
    · obtain ⟨r, hr⟩ : ∃ r, Ms[lo]? = some r := ⟨_, List.getElem?_eq_getElem h9⟩
      obtain ⟨j, hj, e, hw⟩ := ho lo r hr
      refine w_rdI ml21 rfl (by omega) e ?_
      rw [show (32 : Int32) * nI j = nI (32 * j) from pk_mul 32 j]
      refine w_cs1 (tr_same (o := 0) ml27 ml20 (by omega) (by omega) (by omega) (by omega) hF hw) (fun a z1 e => ?_)
      cases e
      by_cases eF : F = r
      · rw [decide_eq_true eF]
        refine w_ifF (by decide) (w_some ⟨⟨Ms, hP, by omega, fun q => ⟨Or.inr, fun h8 => h8.elim (fun h7 => ?_) id⟩⟩, fr_rf⟩)
        rw [h7, eF]
        exact List.mem_of_getElem? hr
      · rw [decide_eq_false eF]
        refine w_ifT rfl (c3 _ _ (by omega) s1' (fun k q hk ek => ?_))
        by_cases ekl : k = lo
        · rw [ekl, hr] at ek
          cases ek
          exact lsr_tri (s2 lo _ (Nat.le_refl _) hr) eF
        · have h7 := lsr_tri (s2 lo _ (Nat.le_refl _) hr) eF
          exact lsr_tr h7 (pw_get hpw hr ek (by omega))
  have srch : ∀ (u lo hi : Nat), hi - lo ≤ u → lo ≤ hi → hi ≤ Ms.length → (∀ k r, k < lo → Ms[k]? = some r → lsr r F = true) → (∀ k r, hi ≤ k → Ms[k]? = some r → lsr r F = false) → Tt (fun K i => q_X13_offerList K i 1 (nI lo) (nI hi) 0 z) Q := by
    intro u
    induction u with
    | zero =>
      intro lo hi hu hlh hhL s1' s2
      refine u_X13_offerList_1 ?_; unfold qm_X13_offerList_1
      exact w_leT (by omega) (by omega) (fin lo hi (by omega) hhL s1' s2)
    | succ u ih =>
      intro lo hi hu hlh hhL s1' s2
      refine u_X13_offerList_1 ?_; unfold qm_X13_offerList_1
      refine w_le (by omega) (by omega) (fun hle => fin lo hi (by omega) hhL s1' s2) (fun hlt => w_nzI (by decide) ?_)
      rw [nI_add, show nI (lo + hi) / 2 = nI ((lo + hi) / 2) from pk_div (d := 2) (by omega) (by omega) (by omega)]
      obtain ⟨r, hr⟩ : ∃ r, Ms[(lo + hi) / 2]? = some r := ⟨_, List.getElem?_eq_getElem (by omega)⟩
      obtain ⟨j, hj, e, hw⟩ := ho _ r hr
      have hwl := hw.1
      refine w_rdI ml21 rfl (by omega) e ?_
      rw [show (32 : Int32) * nI j = nI (32 * j) from pk_mul 32 j]
      refine w_cs1 (tr_lesser (p := 0) ml20 ml27 (by omega) (by omega) (by omega) (by omega) hw hF) (fun a z1 e => ?_)
      cases e
      cases el : lsr r F with
      | false =>
        refine w_ifT rfl ?_
        refine u_X13_offerList_2 ?_; unfold qm_X13_offerList_2
        refine ih lo ((lo + hi) / 2) (by omega) (by omega) (by omega) s1' (fun k q hk ek => ?_)
        by_cases ekm : k = (lo + hi) / 2
        · rw [ekm, hr] at ek
          cases ek
          exact el
        · cases e9 : lsr q F with
          | false => rfl
          | true =>
            have := lsr_tr (pw_get hpw hr ek (by omega)) e9
            rw [el] at this
            cases this
      | true =>
        refine w_ifF (by decide) ?_
        refine u_X13_offerList_2 ?_; unfold qm_X13_offerList_2
        rw [nI_1]
        refine ih ((lo + hi) / 2 + 1) hi (by omega) (by omega) (by omega) (fun k q hk ek => ?_) s2
        by_cases ekm : k = (lo + hi) / 2
        · rw [ekm, hr] at ek
          cases ek
          exact el
        · exact lsr_tr (pw_get hpw ek hr (by omega)) el
  refine e_X13_offerList ?_
  refine u_X13_offerList_0 ?_; unfold qm_X13_offerList_0
  exact w_rdF h22 (srch Ms.length 0 Ms.length (by omega) (by omega) (Nat.le_refl _) (fun k r hk => by omega) (fun k r hk e => by
    have := (List.getElem?_eq_some_iff.mp e).1
    omega))
