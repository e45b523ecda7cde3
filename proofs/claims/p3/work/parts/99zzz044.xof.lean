section
/-! 99zzzzzzzzzzv.xof -/
/-! what the reference is offered, exactly: rows in order -/
def nfR (A : rn_L) (sg : Nat → Bool) (r : List Nat) : Prop := ∃ m P, mk A m P ∧ r = pkR A sg m P
/-- S' is S with the rows of what O names -/
def adS (S S' : List Nat → Prop) (O : rn_L → (Nat → Bool) → Prop) : Prop := (∀ r, S r → S' r) ∧ (∀ r, S' r → S r ∨ ∃ A sg, O A sg ∧ nfR A sg r) ∧ ∀ A sg, O A sg → ∃ r, S' r ∧ nfR A sg r
theorem adS_tr {S S1 S2 : List Nat → Prop} {O O1 : rn_L → (Nat → Bool) → Prop} (h : adS S S1 O) (h1 : adS S1 S2 O1) : adS S S2 (fun A sg => O A sg ∨ O1 A sg) := by
  refine ⟨fun r hr => h1.1 r (h.1 r hr), fun r hr => ?_, fun A sg hO => ?_⟩
  · rcases h1.2.1 r hr with h9 | ⟨A, sg, h8, h9⟩
    · rcases h.2.1 r h9 with h9 | ⟨A, sg, h8, h9⟩
      · exact Or.inl h9
      · exact Or.inr ⟨A, sg, Or.inl h8, h9⟩
    · exact Or.inr ⟨A, sg, Or.inr h8, h9⟩
  · rcases hO with h9 | h9
    · obtain ⟨r, r1, r2⟩ := h.2.2 A sg h9
      exact ⟨r, h1.1 r r1, r2⟩
    · exact h1.2.2 A sg h9
theorem adS_rf {S : List Nat → Prop} : adS S S (fun _ _ => False) := ⟨fun r h => h, fun r h => Or.inl h, fun A sg h => h.elim⟩
theorem adS_eq {S S' : List Nat → Prop} {O O' : rn_L → (Nat → Bool) → Prop} (h : adS S S' O) (e : ∀ A sg, O A sg ↔ O' A sg) : adS S S' O' := ⟨h.1, fun r hr => (h.2.1 r hr).imp id (fun ⟨A, sg, h8, h9⟩ => ⟨A, sg, (e A sg).mp h8, h9⟩), fun A sg h9 => h.2.2 A sg ((e A sg).mpr h9)⟩
/-- what takes offers -/
def snkF (Φ : ow_MS → (List Nat → Prop) → Nat → Prop) : Prop := (∀ (P : Nat → Prop) z z1 S n, fr P z z1 → (∀ g, P g → 31 ≤ g ∧ g ≤ 34 ∨ 1000 ≤ g) → Φ z S n → Φ z1 S n) ∧ (∀ z S n A sg, n < 2700 → Φ z S n → rn_At z 3000 A [] → rn_sg z 3000 A.flatten sg → wkF A.flatten → A.flatten.length ≤ 24 → A.length ≤ 6 → Te (fun K => qe_X13_offer K z) (fun z1 => (∃ S', adS S S' (fun A' sg' => A' = A ∧ sg' = sg) ∧ Φ z1 S' (n + 1)) ∧ fr frO z z1)) ∧ ∀ z S n n', n ≤ n' → Φ z S n → Φ z S n'
theorem lsr_c {S T : List Nat} : lsr S T = true ↔ cmpC (vOf S, S) (vOf T, T) < 0 := by
  unfold lsr cmpC
  show (if vOf S = vOf T then lxb S T else decide (vOf S < vOf T)) = true ↔ (if vOf S = vOf T then lexD S T else ((vOf S : Nat) : Int) - ((vOf T : Nat) : Int)) < 0
  by_cases e : vOf S = vOf T
  · rw [if_pos e, if_pos e]
    exact lxb_lex S T
  · rw [if_neg e, if_neg e, decide_eq_true_iff]
    omega
theorem lsr_tr {S T U : List Nat} (h1 : lsr S T = true) (h2 : lsr T U = true) : lsr S U = true := by
  rw [lsr_c] at h1 h2 ⊢
  have h3 := cmpC_tr (Int.le_of_lt h1) (Int.le_of_lt h2)
  have h4 : cmpC (vOf S, S) (vOf U, U) ≠ 0 := fun e => by
    have e2 := cmpC_0 e
    have e3 : S = U := congrArg Prod.snd e2
    rw [e3] at h1
    have := cmpC_sym (A := (vOf U, U)) (B := (vOf T, T))
    omega
  omega
theorem lsr_irr {S : List Nat} : lsr S S = false := by
  cases e : lsr S S with
  | false => rfl
  | true =>
    rw [lsr_c, cmpC_rf] at e
    omega
theorem lsr_tri {S T : List Nat} (h : lsr S T = false) (hne : T ≠ S) : lsr T S = true := by
  rw [lsr_c]
  have h1 : ¬ cmpC (vOf S, S) (vOf T, T) < 0 := fun h9 => by
    rw [← lsr_c, h] at h9
    cases h9
  have h2 := cmpC_sym (A := (vOf T, T)) (B := (vOf S, S))
  have h3 : cmpC (vOf S, S) (vOf T, T) ≠ 0 := fun e => hne (congrArg Prod.snd (cmpC_0 e)).symm
  omega
/-- the list of rows that moves() keeps -/
def lsW (z : ow_MS) (Ms : List (List Nat)) : Prop := Ms.length ≤ 2700 ∧ z.1 22 = nI Ms.length ∧ (∀ (k : Nat) r, Ms[k]? = some r → ∃ j, j < Ms.length ∧ z.2.1 21 k = nI j ∧ rc_At z 20 (32 * j) r) ∧ (∀ j, j < Ms.length → dRow z 20 (32 * j)) ∧ Ms.Pairwise (fun a b => lsr a b = true)
theorem pw_get {Ms : List (List Nat)} (h : Ms.Pairwise (fun a b => lsr a b = true)) {i j : Nat} {a b : List Nat} (ha : Ms[i]? = some a) (hb : Ms[j]? = some b) (hij : i < j) : lsr a b = true := by
  obtain ⟨h1, h2⟩ := List.getElem?_eq_some_iff.mp ha
  obtain ⟨h3, h4⟩ := List.getElem?_eq_some_iff.mp hb
  have := List.pairwise_iff_getElem.mp h i j h1 h3 hij
  rw [h2, h4] at this
  exact this
theorem rc_cp {z z1 : ow_MS} {h o : Nat} {F : List Nat} (hv : rc_At z 27 0 F) (hc : ∀ i, i < F.length + 1 → z1.2.1 h (o + i) = z.2.1 27 i) : rc_At z1 h o F := by
  refine ⟨hv.1, hv.2.1, ?_, fun i t hi => ?_⟩
  · have := hc 0 (by omega)
    rw [Nat.add_zero] at this
    rw [this]
    exact hv.2.2.1
  · have := (List.getElem?_eq_some_iff.mp hi).1
    rw [hc (i + 1) (by omega)]
    have := hv.2.2.2 i t hi
    rw [Nat.zero_add] at this
    exact this
theorem rc_eq {z z1 : ow_MS} {h o : Nat} {F : List Nat} (hi : ∀ i, o ≤ i → i < o + 32 → z1.2.1 h i = z.2.1 h i) (hv : rc_At z h o F) : rc_At z1 h o F := by
  have hl := hv.1
  refine ⟨hv.1, hv.2.1, by rw [hi o (by omega) (by omega)]; exact hv.2.2.1, fun k t hk => ?_⟩
  have := (List.getElem?_eq_some_iff.mp hk).1
  rw [hi _ (by omega) (by omega)]
  exact hv.2.2.2 k t hk
theorem rc_uni {z : ow_MS} {h o : Nat} {S T : List Nat} (h1 : rc_At z h o S) (h2 : rc_At z h o T) : S = T := by
  have b1 := h1.1
  have b2 := h2.1
  have hl : S.length = T.length := nI_inj9 (by omega) (by omega) (h1.2.2.1.symm.trans h2.2.2.1)
  refine List.ext_getElem? (fun k => ?_)
  by_cases hk : k < S.length
  · obtain ⟨s, s1, s2, s3⟩ := rc_get h1 hk
    obtain ⟨t, t1, t2, t3⟩ := rc_get (k := k) h2 (by omega)
    rw [s1, t1, nI_inj9 (a := s) (b := t) (by omega) (by omega) (s3.symm.trans t3)]
  · rw [List.getElem?_eq_none (by omega), List.getElem?_eq_none (by omega)]
/-- a row put into a sorted list -/
def insR (Ms : List (List Nat)) (lo : Nat) (F : List Nat) : List (List Nat) := Ms.take lo ++ F :: Ms.drop lo
theorem insR_len {Ms : List (List Nat)} {lo : Nat} {F : List Nat} (h : lo ≤ Ms.length) : (insR Ms lo F).length = Ms.length + 1 := by
  unfold insR
  rw [List.length_append, List.length_take, List.length_cons, List.length_drop]
  omega
theorem insR_at {Ms : List (List Nat)} {lo k : Nat} {F : List Nat} (h : lo ≤ Ms.length) : (insR Ms lo F)[k]? = if k < lo then Ms[k]? else if k = lo then some F else Ms[k - 1]? := by
  unfold insR
  have hl : (Ms.take lo).length = lo := by rw [List.length_take]; omega
  by_cases h1 : k < lo
  · rw [if_pos h1, List.getElem?_append_left (by omega), List.getElem?_take, if_pos h1]
  · rw [if_neg h1, List.getElem?_append_right (by omega), hl]
    by_cases h2 : k = lo
    · rw [if_pos h2, h2, Nat.sub_self]
      rfl
    · rw [if_neg h2]
      obtain ⟨d, rfl⟩ : ∃ d, k = lo + d + 1 := ⟨k - lo - 1, by omega⟩
      rw [show lo + d + 1 - lo = d + 1 by omega, List.getElem?_cons_succ, List.getElem?_drop, show lo + d + 1 - 1 = lo + d by omega]
theorem insR_mem {Ms : List (List Nat)} {lo : Nat} {F r : List Nat} : r ∈ insR Ms lo F ↔ r = F ∨ r ∈ Ms := by
  unfold insR
  rw [List.mem_append, List.mem_cons]
  constructor
  · rintro (h | h | h)
    · exact Or.inr (List.mem_of_mem_take h)
    · exact Or.inl h
    · exact Or.inr (List.mem_of_mem_drop h)
  · rintro (h | h)
    · exact Or.inr (Or.inl h)
    · rw [← List.take_append_drop lo Ms] at h
      rcases List.mem_append.mp h with h9 | h9
      · exact Or.inl h9
      · exact Or.inr (Or.inr h9)
theorem insR_pw {Ms : List (List Nat)} {lo : Nat} {F : List Nat} (h : Ms.Pairwise (fun a b => lsr a b = true)) (hl : lo ≤ Ms.length) (h1 : ∀ k r, k < lo → Ms[k]? = some r → lsr r F = true) (h2 : ∀ k r, lo ≤ k → Ms[k]? = some r → lsr F r = true) : (insR Ms lo F).Pairwise (fun a b => lsr a b = true) := by
  rw [List.pairwise_iff_getElem]
  intro i j hi hj hij
  have ei := List.getElem?_eq_getElem hi
  have ej := List.getElem?_eq_getElem hj
  rw [insR_at hl] at ei ej
  by_cases a1 : i < lo
  · rw [if_pos a1] at ei
    by_cases b1 : j < lo
    · rw [if_pos b1] at ej
      exact pw_get h ei ej hij
    · rw [if_neg b1] at ej
      by_cases b2 : j = lo
      · rw [if_pos b2] at ej
        rw [← Option.some.inj ej]
        exact h1 i _ a1 ei
      · rw [if_neg b2] at ej
        exact pw_get h ei ej (by omega)
  · rw [if_neg a1] at ei
    rw [if_neg (by omega), if_neg (by omega)] at ej
    by_cases a2 : i = lo
    · rw [if_pos a2] at ei
      rw [← Option.some.inj ei]
      exact h2 (j - 1) _ (by omega) ej
    · rw [if_neg a2] at ei
      exact pw_get h ei ej (by omega)
theorem xm_offerList {z : ow_MS} {Ms : List (List Nat)} {F : List Nat} (hL : Ms.length < 2700) (hP : lsW z Ms) (hF : rc_At z 27 0 F) (hD : dRow z 27 0) : Te (fun K => qe_X13_offerList K z) (fun z1 => (∃ Ms', lsW z1 Ms' ∧ Ms'.length ≤ Ms.length + 1 ∧ ∀ r, r ∈ Ms' ↔ r = F ∨ r ∈ Ms) ∧ fr (fun g => 20 ≤ g ∧ g ≤ 22) z z1) := by
  obtain ⟨-, h22, ho, hR, hpw⟩ := id hP
  have hl := hF.1
  let Q : ow_MS → Prop := fun z1 => (∃ Ms', lsW z1 Ms' ∧ Ms'.length ≤ Ms.length + 1 ∧ ∀ r, r ∈ Ms' ↔ r = F ∨ r ∈ Ms) ∧ fr (fun g => 20 ≤ g ∧ g ≤ 22) z z1
  have c5 : ∀ (lo : Nat) (x1 x2 : Int32), lo ≤ Ms.length → (∀ k r, k < lo → Ms[k]? = some r → lsr r F = true) → (∀ k r, lo ≤ k → Ms[k]? = some r → lsr F r = true) → ∀ (d k : Nat) (z1 : ow_MS), k + d = F.length + 1 → fr (fun g => 20 ≤ g ∧ g ≤ 21) z z1 → (∀ i, i < lo → z1.2.1 21 i = z.2.1 21 i) → z1.2.1 21 lo = nI Ms.length → (∀ i, lo < i → i ≤ Ms.length → z1.2.1 21 i = z.2.1 21 (i - 1)) → (∀ i, i < k → z1.2.1 20 (32 * Ms.length + i) = z.2.1 27 i) → (∀ i, i < 32 * Ms.length → z1.2.1 20 i = z.2.1 20 i) → Tt (fun K i => q_X13_offerList K i 5 x1 x2 (nI k) z1) Q := by
    intro lo x1 x2 hlo s1' s2 d
    induction d with
    | zero =>
      intro k z1 hk hf o1 o2 o3 hc hi
      have e22 : z1.1 22 = nI Ms.length := by rw [(hf 22 (by omega)).1]; exact h22
      refine u_X13_offerList_5 ?_; unfold qm_X13_offerList_5
      refine w_rdI ml27 nI_0.symm (by omega) (x := nI F.length) (by rw [(hf 27 (by omega)).2.1]; exact hF.2.2.1) (w_ltT (by omega) (by omega) (w_rdF e22 (w_wrF ?_)))
      rw [nI_1]
      have rowF : rc_At z1 20 (32 * Ms.length) F := rc_cp hF (fun i hi9 => hc i (by omega))
      have rowO : ∀ j r, j < Ms.length → rc_At z 20 (32 * j) r → rc_At z1 20 (32 * j) r := fun j r hj h9 => rc_eq (fun i h1 h2 => hi i (by omega)) h9
      refine w_some ⟨⟨insR Ms lo F, ⟨by rw [insR_len hlo]; omega, by rw [insR_len hlo]; exact po_usF_at, fun k9 r hk9 => ?_, fun j hj => ?_, insR_pw hpw hlo s1' s2⟩, by rw [insR_len hlo]; exact Nat.le_refl _, fun r => insR_mem⟩, fr_F2 (fr_mono (fun g hg => by omega) hf) (by omega)⟩
      · rw [insR_at hlo] at hk9
        rw [insR_len hlo]
        by_cases a1 : k9 < lo
        · rw [if_pos a1] at hk9
          obtain ⟨j, j1, j2, j3⟩ := ho k9 r hk9
          exact ⟨j, by omega, by show z1.2.1 21 k9 = _; rw [o1 k9 a1]; exact j2, rowO j r j1 j3⟩
        · rw [if_neg a1] at hk9
          by_cases a2 : k9 = lo
          · rw [if_pos a2] at hk9
            rw [← Option.some.inj hk9, a2]
            exact ⟨Ms.length, by omega, o2, rowF⟩
          · rw [if_neg a2] at hk9
            obtain ⟨j, j1, j2, j3⟩ := ho (k9 - 1) r hk9
            have hk8 := (List.getElem?_eq_some_iff.mp hk9).1
            exact ⟨j, by omega, by show z1.2.1 21 k9 = _; rw [o3 k9 (by omega) (by omega)]; exact j2, rowO j r j1 j3⟩
      · rw [insR_len hlo] at hj
        by_cases hjL : j = Ms.length
        · rw [hjL]
          obtain ⟨A, sg, hv⟩ := hD
          have eF : tk sg A = F := rc_uni hv.1 hF
          exact dRow_cp hv (fun i hi9 => hc i (by rw [eF] at hi9; omega))
        · exact dRow_eq (fun i h1 h2 => hi i (by omega)) (hR j (by omega))
    | succ d ih =>
      intro k z1 hk hf o1 o2 o3 hc hi
      have e22 : z1.1 22 = nI Ms.length := by rw [(hf 22 (by omega)).1]; exact h22
      refine u_X13_offerList_5 ?_; unfold qm_X13_offerList_5
      refine w_rdI ml27 nI_0.symm (by omega) (x := nI F.length) (by rw [(hf 27 (by omega)).2.1]; exact hF.2.2.1) (w_ltF (by omega) (by omega) (w_rdF e22 (w_rdI ml27 rfl (by omega) (by rw [(hf 27 (by omega)).2.1]) ?_)))
      rw [show (32 : Int32) * nI Ms.length = nI (32 * Ms.length) from pk_mul 32 Ms.length, nI_add, nI_1]
      refine w_wrI ml20 rfl (by omega) (ih (k + 1) _ (by omega) (fr_I2 hf (by omega)) (fun i hi9 => rd_ot (by omega) (o1 i hi9)) (rd_ot (by omega) o2) (fun i h1 h2 => rd_ot (by omega) (o3 i h1 h2)) (fun i hi9 => ?_) (fun i hi9 => rd_ne (by omega) (hi i hi9)))
      by_cases hik : i = k
      · rw [hik, po_usI_at]
      · exact rd_ne (by omega) (hc i (by omega))
  have c4 : ∀ (lo : Nat) (x2 : Int32), lo ≤ Ms.length → (∀ k r, k < lo → Ms[k]? = some r → lsr r F = true) → (∀ k r, lo ≤ k → Ms[k]? = some r → lsr F r = true) → ∀ (d k : Nat) (z1 : ow_MS), lo + d = k → k ≤ Ms.length → fr (fun g => g = 21) z z1 → (∀ i, i < k → z1.2.1 21 i = z.2.1 21 i) → (∀ i, k < i → i ≤ Ms.length → z1.2.1 21 i = z.2.1 21 (i - 1)) → Tt (fun K i => q_X13_offerList K i 4 (nI lo) x2 (nI k) z1) Q := by
    intro lo x2 hlo s1' s2 d
    induction d with
    | zero =>
      intro k z1 hk hkL hf o1 o3
      have e22 : z1.1 22 = nI Ms.length := by rw [(hf 22 (by omega)).1]; exact h22
      refine u_X13_offerList_4 ?_; unfold qm_X13_offerList_4
      refine w_leT (by omega) (by omega) (w_rdF e22 (w_wrI ml21 rfl (by omega) (c5 lo _ _ hlo s1' s2 (F.length + 1) 0 _ (by omega) (fr_I2 (fr_mono (fun g hg => by omega) hf) (by omega)) (fun i hi => rd_ne (by omega) (o1 i (by omega))) po_usI_at (fun i h1 h2 => rd_ne (by omega) (o3 i (by omega) h2)) (fun i hi => by omega) (fun i hi => ?_))))
      rw [po_usI_ot (by omega), (hf 20 (by omega)).2.1]
    | succ d ih =>
      intro k z1 hk hkL hf o1 o3
      refine u_X13_offerList_4 ?_; unfold qm_X13_offerList_4
      rw [show nI k - 1 = nI (k - 1) from pk_sub (b := 1) (by omega), show nI k + -1 = nI (k - 1) from by
        obtain ⟨k9, rfl⟩ : ∃ k9, k = k9 + 1 := ⟨k - 1, by omega⟩
        rw [pk_m1]
        rfl]
      refine w_leF (by omega) (by omega) (w_rdI ml21 rfl (by omega) (o1 (k - 1) (by omega)) (w_wrI ml21 rfl (by omega) (ih (k - 1) _ (by omega) (by omega) (fr_I2 hf rfl) (fun i hi => rd_ne (by omega) (o1 i (by omega))) (fun i h1 h2 => ?_))))
      by_cases hik : i = k
      · rw [hik, po_usI_at]
      · exact rd_ne hik (o3 i (by omega) h2)
  have c3 : ∀ (lo : Nat) (x2 : Int32), lo ≤ Ms.length → (∀ k r, k < lo → Ms[k]? = some r → lsr r F = true) → (∀ k r, lo ≤ k → Ms[k]? = some r → lsr F r = true) → Tt (fun K i => q_X13_offerList K i 3 (nI lo) x2 0 z) Q := by
    intro lo x2 hlo s1' s2
    refine u_X13_offerList_3 ?_; unfold qm_X13_offerList_3
    exact w_rdF h22 (c4 lo x2 hlo s1' s2 (Ms.length - lo) Ms.length z (by omega) (Nat.le_refl _) fr_rf (fun i _ => rfl) (fun i h1 h2 => by omega))
  -- the search ends
  have fin : ∀ (lo hi : Nat), lo = hi → hi ≤ Ms.length → (∀ k r, k < lo → Ms[k]? = some r → lsr r F = true) → (∀ k r, hi ≤ k → Ms[k]? = some r → lsr r F = false) → Tt (fun K i => rdF z 22 fun v2 => (if v2 ≤ nI lo then q_X13_offerList K i 3 (nI lo) (nI hi) 0 z else rdI mX z 21 (nI lo) fun v3 => cs1 (qe_X13_isSame K 27 0 20 (32 * v3) z) fun v5 z4 => (if v5 = 0 then q_X13_offerList K i 3 (nI lo) (nI hi) 0 z4 else some z4))) Q := by
    intro lo hi hlh hhL s1' s2
    subst hlh
    refine w_rdF h22 (w_le (by omega) (by omega) (fun h9 => c3 _ _ (by omega) s1' (fun k r hk e => ?_)) (fun h9 => ?_))
    · have := (List.getElem?_eq_some_iff.mp e).1
      omega
    · obtain ⟨r, hr⟩ : ∃ r, Ms[lo]? = some r := ⟨_, List.getElem?_eq_getElem h9⟩
      obtain ⟨j, hj, e, hw⟩ := ho lo r hr
      refine w_rdI ml21 rfl (by omega) e ?_
      rw [show (32 : Int32) * nI j = nI (32 * j) from pk_mul 32 j]
      refine w_cs1 (tr_same (o := 0) ml27 ml20 (by omega) (by omega) (by omega) (by omega) hF hw) (fun a z1 e => ?_)
      cases e
      by_cases eF : F = r
      · rw [decide_eq_true eF]
        refine w_ifF (by decide) (w_some ⟨⟨Ms, hP, by omega, fun q => ⟨Or.inr, fun h8 => h8.elim (fun h7 => ?_) id⟩⟩, fr_rf⟩)
        rw [h7, eF]
        exact List.mem_of_getElem? hr
      · rw [decide_eq_false eF]
        refine w_ifT rfl (c3 _ _ (by omega) s1' (fun k q hk ek => ?_))
        by_cases ekl : k = lo
        · rw [ekl, hr] at ek
          cases ek
          exact lsr_tri (s2 lo _ (Nat.le_refl _) hr) eF
        · have h7 := lsr_tri (s2 lo _ (Nat.le_refl _) hr) eF
          exact lsr_tr h7 (pw_get hpw hr ek (by omega))
  have srch : ∀ (u lo hi : Nat), hi - lo ≤ u → lo ≤ hi → hi ≤ Ms.length → (∀ k r, k < lo → Ms[k]? = some r → lsr r F = true) → (∀ k r, hi ≤ k → Ms[k]? = some r → lsr r F = false) → Tt (fun K i => q_X13_offerList K i 1 (nI lo) (nI hi) 0 z) Q := by
    intro u
    induction u with
    | zero =>
      intro lo hi hu hlh hhL s1' s2
      refine u_X13_offerList_1 ?_; unfold qm_X13_offerList_1
      exact w_leT (by omega) (by omega) (fin lo hi (by omega) hhL s1' s2)
    | succ u ih =>
      intro lo hi hu hlh hhL s1' s2
      refine u_X13_offerList_1 ?_; unfold qm_X13_offerList_1
      refine w_le (by omega) (by omega) (fun hle => fin lo hi (by omega) hhL s1' s2) (fun hlt => w_nzI (by decide) ?_)
      rw [nI_add, show nI (lo + hi) / 2 = nI ((lo + hi) / 2) from pk_div (d := 2) (by omega) (by omega) (by omega)]
      obtain ⟨r, hr⟩ : ∃ r, Ms[(lo + hi) / 2]? = some r := ⟨_, List.getElem?_eq_getElem (by omega)⟩
      obtain ⟨j, hj, e, hw⟩ := ho _ r hr
      have hwl := hw.1
      refine w_rdI ml21 rfl (by omega) e ?_
      rw [show (32 : Int32) * nI j = nI (32 * j) from pk_mul 32 j]
      refine w_cs1 (tr_lesser (p := 0) ml20 ml27 (by omega) (by omega) (by omega) (by omega) hw hF) (fun a z1 e => ?_)
      cases e
      cases el : lsr r F with
      | false =>
        refine w_ifT rfl ?_
        refine u_X13_offerList_2 ?_; unfold qm_X13_offerList_2
        refine ih lo ((lo + hi) / 2) (by omega) (by omega) (by omega) s1' (fun k q hk ek => ?_)
        by_cases ekm : k = (lo + hi) / 2
        · rw [ekm, hr] at ek
          cases ek
          exact el
        · cases e9 : lsr q F with
          | false => rfl
          | true =>
            have := lsr_tr (pw_get hpw hr ek (by omega)) e9
            rw [el] at this
            cases this
      | true =>
        refine w_ifF (by decide) ?_
        refine u_X13_offerList_2 ?_; unfold qm_X13_offerList_2
        rw [nI_1]
        refine ih ((lo + hi) / 2 + 1) hi (by omega) (by omega) (by omega) (fun k q hk ek => ?_) s2
        by_cases ekm : k = (lo + hi) / 2
        · rw [ekm, hr] at ek
          cases ek
          exact el
        · exact lsr_tr (pw_get hpw ek hr (by omega)) el
  refine e_X13_offerList ?_
  refine u_X13_offerList_0 ?_; unfold qm_X13_offerList_0
  exact w_rdF h22 (srch Ms.length 0 Ms.length (by omega) (by omega) (Nat.le_refl _) (fun k r hk => by omega) (fun k r hk e => by
    have := (List.getElem?_eq_some_iff.mp e).1
    omega))
end
section
/-! 99zzzzzzzzzzw.xof2 -/
/-! the list takes offers; without: a crossing, or two, taken out -/
def snk0 (X : (Nat → Nat → Int32) → Prop) (z : ow_MS) (S : List Nat → Prop) (n : Nat) : Prop := gI X z ∧ z.1 30 = 0 ∧ ∃ Ms, lsW z Ms ∧ (∀ r, S r ↔ r ∈ Ms) ∧ Ms.length ≤ n
theorem lsW_fr {P : Nat → Prop} {z z1 : ow_MS} {Ms : List (List Nat)} (hf : fr P z z1) (hP : ¬ P 20 ∧ ¬ P 21 ∧ ¬ P 22) (h : lsW z Ms) : lsW z1 Ms := by
  obtain ⟨h1, h2, h3, h4, h5⟩ := h
  refine ⟨h1, by rw [(hf 22 hP.2.2).1]; exact h2, fun k r hk => ?_, fun j hj => dRow_fr hf hP.1 (h4 j hj), h5⟩
  obtain ⟨j, j1, j2, j3⟩ := h3 k r hk
  exact ⟨j, j1, by rw [(hf 21 hP.2.1).2.1]; exact j2, rc_fr hf hP.1 j3⟩
theorem snk0_ok {X : (Nat → Nat → Int32) → Prop} : snkF (snk0 X) := by
  refine ⟨fun P z z1 S n hf hP h => ?_, fun z S n A sg hn h hA hG hF h24 h6 => ?_, fun z S n n' hn h => ?_⟩
  · obtain ⟨h1, h2, Ms, h3, h4, h5⟩ := h
    refine ⟨gI_fr hf (fun g hg => by have := hP g hg; unfold per; omega) h1, by rw [(hf 30 (fun h9 => by have := hP _ h9; omega)).1]; exact h2, Ms, lsW_fr hf ⟨fun h9 => by have := hP _ h9; omega, fun h9 => by have := hP _ h9; omega, fun h9 => by have := hP _ h9; omega⟩ h3, h4, h5⟩
  · obtain ⟨h1, h2, Ms, h3, h4, h5⟩ := h
    refine e_X13_offer ?_; unfold qm_X13_offer_0
    refine w_cs0 (tr_pack (o := 0) pn3 (by omega) ml27 (by omega) (by omega) (by omega) (by omega) hF hA hG) (fun z1 ⟨m, P, g1, g2, g3, g4, _, _⟩ => ?_)
    have i1 : gI X z1 := gI_fr g3 (fun g hg => by unfold frQ at hg; unfold per; omega) h1
    have i2 : z1.1 30 = 0 := by rw [(g3 30 (by unfold frQ; omega)).1]; exact h2
    have i3 : lsW z1 Ms := lsW_fr g3 (by unfold frQ; omega) h3
    refine w_rdF i2 (w_ifF (by decide) (w_ifT rfl (w_cs0 (xm_offerList (by omega) i3 g2 (dRow_pack hF g1 h24 h6 g2)) (fun z2 ⟨⟨Ms', k1, k2, k3⟩, k4⟩ => w_some ⟨⟨fun r => r = pkR A sg m P ∨ S r, ⟨fun r hr => Or.inr hr, fun r hr => ?_, fun A' sg' ⟨e1, e2⟩ => ?_⟩, ?_, ?_, Ms', k1, fun r => ?_, by omega⟩, ?_⟩))))
    · rcases hr with hr | hr
      · exact Or.inr ⟨A, sg, ⟨rfl, rfl⟩, m, P, g1, hr⟩
      · exact Or.inl hr
    · rw [e1, e2]
      exact ⟨_, Or.inl rfl, m, P, g1, rfl⟩
    · obtain ⟨j1, j2, j3, j4, j5, j6, j7⟩ := i1
      refine ⟨gTape_fr k4 (by omega) j1, gRows_fr k4 (by omega) j2, ⟨Ms'.length, k1.1, k1.2.1, fun k hk => ?_, k1.2.2.2.1⟩, gSum_fr k4 (by omega) (by omega) (by omega) j4, gCash_fr k4 (by omega) (by omega) (by omega) (by omega) (by omega) j5, gBrs_fr k4 (by omega) (by omega) (by omega) j6, gX_fr k4 (fun g hg => by omega) j7⟩
      obtain ⟨j, q1, q2, -⟩ := k1.2.2.1 k _ (List.getElem?_eq_getElem hk)
      exact ⟨j, q1, q2⟩
    · rw [(k4 30 (by omega)).1]
      exact i2
    · show (r = pkR A sg m P ∨ S r) ↔ _
      rw [k3, h4]
    · exact fr_tr (fr_mono (fun g hg => by unfold frQ at hg; unfold frO; omega) g3) (fr_mono (fun g hg => Or.inl (by omega)) k4)
  · obtain ⟨h1, h2, Ms, h3, h4, h5⟩ := h
    exact ⟨h1, h2, Ms, h3, h4, by omega⟩
/-- two crossings taken out of a list -/
def woA (x y : Nat) (A : rn_L) : rn_L := A.map (fun L => L.filter (fun p => decide (p.1 ≠ x) && decide (p.1 ≠ y)))
theorem woA_fl (x y : Nat) : ∀ A : rn_L, (woA x y A).flatten = A.flatten.filter (fun p => decide (p.1 ≠ x) && decide (p.1 ≠ y))
  | [] => rfl
  | L :: A => by
    have := woA_fl x y A
    show L.filter _ ++ (woA x y A).flatten = _
    rw [this, List.flatten_cons, List.filter_append]
theorem woA_wk {x y : Nat} {A : rn_L} (h : wkF A.flatten) : wkF (woA x y A).flatten := by
  rw [woA_fl]
  refine ⟨h.1.filter _, fun p hp => ?_⟩
  obtain ⟨h1, h2⟩ := List.mem_filter.mp hp
  obtain ⟨a, b, c⟩ := h.2 p h1
  exact ⟨a, b, List.mem_filter.mpr ⟨c, h2⟩⟩
section XWO
variable {Φ : ow_MS → (List Nat → Prop) → Nat → Prop} {n L : Nat} {z : ow_MS} {A : rn_L} {sg : Nat → Bool} {S : List Nat → Prop}
theorem xr_without {x y : Nat} (hΦ : snkF Φ) (hn : mw_net n) (hn3 : n ≠ 3000) (hx : x < 40) (hy : y < 40) (hL : L < 2700) (hO : oNet z n A sg) (h : Φ z S L) : Te (fun K => qe_X13_without K n (nI x) (nI y) z) (fun z1 => (∃ S', adS S S' (fun A' sg' => A' = woA x y A ∧ sg' = sg) ∧ Φ z1 S' (L + 1)) ∧ fr frB z z1) := by
  have hmn := net_mod hn
  have hl := hO.len
  have hC := hO.2.2.2
  let Q : ow_MS → Prop := fun z1 => (∃ S', adS S S' (fun A' sg' => A' = woA x y A ∧ sg' = sg) ∧ Φ z1 S' (L + 1)) ∧ fr frB z z1
  refine e_X13_without ?_
  refine u_X13_without_0 ?_; unfold qm_X13_without_0
  refine w_cs0 (tn_clear pn3) (fun z3 ⟨b3, f3⟩ => w_cs0 (tn_signs pn3 hn (fun e => hn3 e.symm)) (fun z4 ⟨f4, s4⟩ => ?_))
  let I : ow_MS → Prop := fun y => fr (fun g => 3001 ≤ g ∧ g ≤ 3006) z y ∧ ∀ x, x < 40 → y.2.1 3006 x = z.2.1 (n + 6) x
  have oI : ∀ {y : ow_MS}, I y → oNet y n A sg := fun hI => oNet_fr hI.1 (fun g hg => by omega) hO
  have stI : ∀ {P : Nat → Prop} {y y2 : ow_MS}, I y → fr P y y2 → (∀ g, P g → 3001 ≤ g ∧ g ≤ 3005) → I y2 := fun hI hf hP => ⟨fr_tr hI.1 (fr_mono (fun g hg => by have := hP g hg; omega) hf), fun x hx => by rw [(hf 3006 (fun h9 => by have := hP _ h9; omega)).2.1]; exact hI.2 x hx⟩
  have lenT : ∀ (c : Nat), (woA x y (A.take c)).flatten.length ≤ rn_b A c := fun c => by
    rw [woA_fl]
    exact List.length_filter_le _ _
  have out : ∀ (k c : Nat) (y1 : ow_MS), c + k = A.length → I y1 → rn_At y1 3000 (woA x y (A.take c)) [] → Tt (fun K i => q_X13_without K i 1 (nI x) (nI y) (nI c) 0 n y1) Q := by
    intro k
    induction k with
    | zero =>
      intro c y1 hc hI hb
      have hce : c = A.length := by omega
      rw [hce, List.take_length] at hb
      have hlw : (woA x y A).flatten.length ≤ A.flatten.length := by
        rw [woA_fl]
        exact List.length_filter_le _ _
      have sgY : rn_sg y1 3000 (woA x y A).flatten sg := fun p hp => by
        rw [woA_fl] at hp
        have hp1 := (List.mem_filter.mp hp).1
        have h40 := (hO.wk.2 p hp1).1
        show y1.2.1 3006 p.1 = _
        rw [hI.2 _ h40]
        exact hO.2.1 p hp1
      refine u_X13_without_1 ?_; unfold qm_X13_without_1
      refine w_rdF (lk_C (oI hI).1) (w_leT (by omega) (by omega) (w_cs0 (hΦ.2.1 y1 S L (woA x y A) sg hL (hΦ.1 _ _ _ _ _ hI.1 (fun g hg => by omega) h) hb sgY (woA_wk hO.wk) (by omega) (by unfold woA; rw [List.length_map]; omega)) (fun y2 ⟨g1, g2⟩ => w_some ⟨g1, fr_tr (fr_mono (fun g hg => Or.inr (by omega)) hI.1) (fr_mono (fun g hg => by unfold frO at hg; unfold frB; omega) g2)⟩)))
    | succ k ih =>
      intro c y1 hc hI hb
      have hcA : c < A.length := by omega
      have m1 := rn_b_mono A c
      have m2 := rn_b_le A (c + 1)
      have hlT := lenT c
      have inn : ∀ (k i : Nat) (y1 : ow_MS), i + k = rn_b A (c + 1) → rn_b A c ≤ i → I y1 → rn_At y1 3000 (woA x y (A.take c)) (((A.getD c []).take (i - rn_b A c)).filter (fun p => decide (p.1 ≠ x) && decide (p.1 ≠ y))) → Tt (fun K i9 => q_X13_without K i9 2 (nI x) (nI y) (nI c) (nI i) n y1) Q := by
        intro k
        induction k with
        | zero =>
          intro i y1 hi hlo hI hb
          have hie : i = rn_b A (c + 1) := by omega
          rw [hie] at hb ⊢
          rw [cmp_all hcA] at hb
          refine u_X13_without_2 ?_; unfold qm_X13_without_2
          rw [nI_1]
          refine w_rdI (pl3 hn) rfl (by omega) (lk_b (oI hI).1 (by omega)) (w_leT (by omega) (Nat.le_refl _) (w_cs0 (tn_end pn3 hb (by unfold woA; rw [List.length_map, List.length_take]; omega)) (fun y2 ⟨g1, g2⟩ => ih (c + 1) y2 (by omega) (stI hI g2 (fun g hg => by omega)) ?_)))
          rw [tk_snoc hcA]
          unfold woA at g1 ⊢
          rw [List.map_append]
          exact g1
        | succ k ihk =>
          intro i y1 hi hlo hI hb
          have hil : i < A.flatten.length := by omega
          have hat := cmp_at hcA hlo (show i < rn_b A (c + 1) by omega)
          have hc12 := (hO.cx hil).1
          have e4 := (lk_cu (oI hI).1 hil).1
          have skip : (crs A i = x ∨ crs A i = y) → Tt (fun K i9 => q_X13_without K i9 3 (nI x) (nI y) (nI c) (nI i) n y1) Q := by
            intro hxy
            refine u_X13_without_3 ?_; unfold qm_X13_without_3
            rw [nI_1]
            refine ihk (i + 1) y1 (by omega) (by omega) hI ?_
            rw [show i + 1 - rn_b A c = (i - rn_b A c) + 1 by omega, take_s hat, List.filter_append]
            have : [vAt A i].filter (fun p => decide (p.1 ≠ x) && decide (p.1 ≠ y)) = [] := by
              have e9 : (decide ((vAt A i).1 ≠ x) && decide ((vAt A i).1 ≠ y)) = false := by
                rcases hxy with h9 | h9
                · have h9 : (vAt A i).1 = x := h9
                  rw [h9, decide_eq_false (fun h8 => h8 rfl)]
                  rfl
                · have h9 : (vAt A i).1 = y := h9
                  rw [h9, decide_eq_false (p := y ≠ y) (fun h8 => h8 rfl), Bool.and_false]
              rw [List.filter_cons, e9]
              rfl
            rw [this, List.append_nil]
            exact hb
          refine u_X13_without_2 ?_; unfold qm_X13_without_2
          rw [nI_1]
          refine w_rdI (pl3 hn) rfl (by omega) (lk_b (oI hI).1 (by omega)) (w_leF (by omega) (by omega) (w_rdI (pl4 hn) rfl (by omega) e4 (w_eqN (by omega) (by omega) (fun h9 => skip (Or.inl h9)) (fun h9 => w_rdI (pl4 hn) rfl (by omega) e4 (w_eqN (by omega) (by omega) (fun h8 => skip (Or.inr h8)) (fun h8 => w_rdI (pl4 hn) rfl (by omega) e4 (w_rdI (pl5 hn) rfl (by omega) (lk_cu (oI hI).1 hil).2 (w_cs0 (tn_add (x := crs A i) (u := uns A i) pn3 hb ?_) (fun y2 ⟨g1, g2⟩ => ?_)))))))))
          · rw [List.length_append]
            have q1 : (((A.getD c []).take (i - rn_b A c)).filter (fun p => decide (p.1 ≠ x) && decide (p.1 ≠ y))).length ≤ i - rn_b A c := Nat.le_trans (List.length_filter_le _ _) (by rw [List.length_take]; omega)
            omega
          · refine u_X13_without_3 ?_; unfold qm_X13_without_3
            rw [nI_1]
            refine ihk (i + 1) y2 (by omega) (by omega) (stI hI g2 (fun g hg => by omega)) ?_
            rw [show i + 1 - rn_b A c = (i - rn_b A c) + 1 by omega, take_s hat, List.filter_append]
            have : [vAt A i].filter (fun p => decide (p.1 ≠ x) && decide (p.1 ≠ y)) = [(crs A i, uns A i)] := by
              have e9 : (decide ((vAt A i).1 ≠ x) && decide ((vAt A i).1 ≠ y)) = true := by
                rw [decide_eq_true (show (vAt A i).1 ≠ x from h9), decide_eq_true (show (vAt A i).1 ≠ y from h8)]
                rfl
              rw [List.filter_cons, e9]
              rfl
            rw [this]
            exact g1
      refine u_X13_without_1 ?_; unfold qm_X13_without_1
      refine w_rdF (lk_C (oI hI).1) (w_leF (by omega) (by omega) (w_rdI (pl3 hn) rfl (by omega) (lk_b (oI hI).1 (by omega)) (inn (rn_b A (c + 1) - rn_b A c) (rn_b A c) y1 (by omega) (Nat.le_refl _) hI ?_)))
      rw [Nat.sub_self, List.take_zero]
      exact hb
  refine out A.length 0 z4 (by omega) ⟨fr_tr (fr_mono (fun g hg => by omega) f3) (fr_mono (fun g hg => by omega) f4), fun x hx => ?_⟩ (fr_At f4 (fun g hg => by omega) b3)
  rw [show z4.2.1 3006 x = z3.2.1 (n + 6) x from s4 x hx, (f3 (n + 6) (by omega)).2.1]
end XWO
end
section
/-! 99zzzzzzzzzzx.xk02 -/
/-! exact: moves of kinds 0 and 2 of the reference -/
def O0 (A : rn_L) (sg : Nat → Bool) (k : Nat) (A' : rn_L) (sg' : Nat → Bool) : Prop := sg' = sg ∧ ∃ v, v < k ∧ rn_nx A v = mtf A v ∧ A' = woA (crs A v) (crs A v) A
def tw2 (A : rn_L) (sg : Nat → Bool) (v : Nat) : Prop := uns A v = 0 ∧ uns A (rn_nx A v) = 0 ∧ crs A v ≠ crs A (rn_nx A v) ∧ sg (crs A v) ≠ sg (crs A (rn_nx A v)) ∧ (rn_nx A (mtf A v) = mtf A (rn_nx A v) ∨ rn_nx A (mtf A (rn_nx A v)) = mtf A v)
def O2 (A : rn_L) (sg : Nat → Bool) (k : Nat) (A' : rn_L) (sg' : Nat → Bool) : Prop := sg' = sg ∧ ∃ v, v < k ∧ tw2 A sg v ∧ A' = woA (crs A v) (crs A (rn_nx A v)) A
section XK0
variable {Φ : ow_MS → (List Nat → Prop) → Nat → Prop} {n L : Nat} {z : ow_MS} {A : rn_L} {sg : Nat → Bool} {S : List Nat → Prop}
theorem sg_ne {b c : Bool} : ((if b = true then (-1 : Int32) else 1) = (if c = true then -1 else 1)) ↔ b = c := by
  cases b <;> cases c <;> decide
theorem exs_s {P : Nat → Prop} {v : Nat} : (∃ i, i < v + 1 ∧ P i) ↔ (∃ i, i < v ∧ P i) ∨ P v := by
  constructor
  · rintro ⟨i, h1, h2⟩
    by_cases e : i = v
    · rw [e] at h2
      exact Or.inr h2
    · exact Or.inl ⟨i, by omega, h2⟩
  · rintro (⟨i, h1, h2⟩ | h)
    · exact ⟨i, by omega, h2⟩
    · exact ⟨v, by omega, h⟩
theorem xr_k0 (hΦ : snkF Φ) (hn : mw_net n) (hn3 : n ≠ 3000) (hL : L + 24 ≤ 2700) (hO : oNet z n A sg) (h : Φ z S L) : Te (fun K => qe_X13_tryMoves K n (nI 0) z) (fun z1 => (∃ S', adS S S' (O0 A sg A.flatten.length) ∧ Φ z1 S' (L + 24)) ∧ fr frC z z1) := by
  have hl := hO.len
  have hd := wkF_ok hO.wk
  let Q : ow_MS → Prop := fun z1 => (∃ S', adS S S' (O0 A sg A.flatten.length) ∧ Φ z1 S' (L + 24)) ∧ fr frC z z1
  have l1 : ∀ (k v : Nat) (y : ow_MS), v + k = A.flatten.length → fr frC z y → (∃ S1, adS S S1 (O0 A sg v) ∧ Φ y S1 (L + v)) → Tt (fun K i => q_X13_tryMoves K i 1 (nI 0) (nI v) n y) Q := by
    intro k
    induction k with
    | zero =>
      intro v y hv hf ⟨S1, a1, a2⟩
      have hve : v = A.flatten.length := by omega
      rw [hve] at a1
      have o2 := oNet_C hn hn3 hf hO
      refine u_X13_tryMoves_1 ?_; unfold qm_X13_tryMoves_1
      exact w_rdF o2.1.V (w_leT (by omega) (by omega) (w_some ⟨⟨S1, a1, hΦ.2.2 _ _ _ _ (by omega) a2⟩, hf⟩))
    | succ k ih =>
      intro v y hv hf ⟨S1, a1, a2⟩
      have o2 := oNet_C hn hn3 hf hO
      have hvl : v < A.flatten.length := by omega
      have hnl := rn_nx_lt (A := A) hvl
      have hm1 := mtf_lt hd hvl
      have x1 := (o2.cx hvl).1
      have c2 : ∀ (y2 : ow_MS), fr frC z y2 → (∃ S2, adS S S2 (O0 A sg (v + 1)) ∧ Φ y2 S2 (L + (v + 1))) → Tt (fun K i => q_X13_tryMoves K i 2 (nI 0) (nI v) n y2) Q := by
        intro y2 hf2 ho2
        refine u_X13_tryMoves_2 ?_; unfold qm_X13_tryMoves_2
        rw [nI_1]
        exact ih (v + 1) y2 (by omega) hf2 ho2
      refine u_X13_tryMoves_1 ?_; unfold qm_X13_tryMoves_1
      refine w_rdF o2.1.V (w_leF (by omega) hvl (w_rdI (pl9 hn) rfl (by omega) (lk_n o2.1 hvl) (w_rdI (pl7 hn) rfl (by omega) (lk_m hd o2.1 hvl) (w_eqN (by omega) (by omega) (fun h9 => w_rdI (pl4 hn) rfl (by omega) (lk_cu o2.1 hvl).1 (w_rdI (pl4 hn) rfl (by omega) (lk_cu o2.1 hvl).1 (w_cs0 (xr_without hΦ hn hn3 (by omega) (by omega) (by omega) o2 a2) (fun y2 ⟨⟨S2, k0, k1⟩, k2⟩ => c2 y2 (fr_tr hf (fr_mono (fun g hg => by unfold frB at hg; unfold frC; omega) k2)) ⟨S2, adS_eq (adS_tr a1 k0) (fun A' sg' => ?_), hΦ.2.2 _ _ _ _ (by omega) k1⟩)))) (fun h9 => c2 y hf ⟨S1, adS_eq a1 (fun A' sg' => ?_), hΦ.2.2 _ _ _ _ (by omega) a2⟩)))))
      · unfold O0
        rw [exs_s]
        constructor
        · rintro (⟨e, h8⟩ | ⟨e1, e2⟩)
          · exact ⟨e, Or.inl h8⟩
          · exact ⟨e2, Or.inr ⟨h9, e1⟩⟩
        · rintro ⟨e, h8 | ⟨-, h8⟩⟩
          · exact Or.inl ⟨e, h8⟩
          · exact Or.inr ⟨h8, e⟩
      · unfold O0
        rw [exs_s]
        constructor
        · rintro ⟨e, h8⟩
          exact ⟨e, Or.inl h8⟩
        · rintro ⟨e, h8 | ⟨h8, -⟩⟩
          · exact ⟨e, h8⟩
          · exact absurd h8 h9
  refine e_X13_tryMoves ?_
  refine u_X13_tryMoves_0 ?_; unfold qm_X13_tryMoves_0
  refine w_ifF (by decide) (w_ifT rfl (l1 _ 0 z (Nat.zero_add _) fr_rf ⟨S, ?_, h⟩))
  refine adS_eq adS_rf (fun A' sg' => ⟨fun h9 => h9.elim, fun ⟨_, i, h9, _⟩ => absurd h9 (Nat.not_lt_zero _)⟩)
theorem xr_twoGo (hΦ : snkF Φ) (hn : mw_net n) (hn3 : n ≠ 3000) (hL : L + 24 ≤ 2700) (hO : oNet z n A sg) (h : Φ z S L) : Te (fun K => qe_X13_twoGo K n z) (fun z1 => (∃ S', adS S S' (O2 A sg A.flatten.length) ∧ Φ z1 S' (L + 24)) ∧ fr frC z z1) := by
  have hl := hO.len
  have hd := wkF_ok hO.wk
  let Q : ow_MS → Prop := fun z1 => (∃ S', adS S S' (O2 A sg A.flatten.length) ∧ Φ z1 S' (L + 24)) ∧ fr frC z z1
  have key : ∀ (k v : Nat) (y : ow_MS), v + k = A.flatten.length → fr frC z y → (∃ S1, adS S S1 (O2 A sg v) ∧ Φ y S1 (L + v)) → Tt (fun K i => q_X13_twoGo K i 1 (nI v) 0 0 0 n y) Q := by
    intro k
    induction k with
    | zero =>
      intro v y hv hf ⟨S1, a1, a2⟩
      have hve : v = A.flatten.length := by omega
      rw [hve] at a1
      have o2 := oNet_C hn hn3 hf hO
      refine u_X13_twoGo_1 ?_; unfold qm_X13_twoGo_1
      exact w_rdF o2.1.V (w_leT (by omega) (by omega) (w_some ⟨⟨S1, a1, hΦ.2.2 _ _ _ _ (by omega) a2⟩, hf⟩))
    | succ k ih =>
      intro v y hv hf ⟨S1, a1, a2⟩
      have o2 := oNet_C hn hn3 hf hO
      have hvl : v < A.flatten.length := by omega
      have hnl := rn_nx_lt (A := A) hvl
      have hm1 := mtf_lt hd hvl
      have hm2 := mtf_lt hd hnl
      have hnm1 := rn_nx_lt (A := A) hm1
      have hnm2 := rn_nx_lt (A := A) hm2
      obtain ⟨x1, xu, -⟩ := o2.cx hvl
      obtain ⟨x2, xu2, -⟩ := o2.cx hnl
      have u1 : uns A v < 2 := (hO.wk.2 _ (vAt_mem hvl)).2.1
      have u2 : uns A (rn_nx A v) < 2 := (hO.wk.2 _ (vAt_mem hnl)).2.1
      have c3 : ∀ (y2 : ow_MS) (a b c : Int32), fr frC z y2 → (∃ S2, adS S S2 (O2 A sg (v + 1)) ∧ Φ y2 S2 (L + (v + 1))) → Tt (fun K i => q_X13_twoGo K i 3 (nI v) a b c n y2) Q := by
        intro y2 a b c hf2 ho2
        refine u_X13_twoGo_3 ?_; unfold qm_X13_twoGo_3
        rw [nI_1]
        exact ih (v + 1) y2 (by omega) hf2 ho2
      have c2 : tw2 A sg v → ∀ (a b : Int32), Tt (fun K i => q_X13_twoGo K i 2 (nI v) (nI (rn_nx A v)) a b n y) Q := by
        intro htw a b
        refine u_X13_twoGo_2 ?_; unfold qm_X13_twoGo_2
        refine w_rdI (pl4 hn) rfl (by omega) (lk_cu o2.1 hvl).1 (w_rdI (pl4 hn) rfl (by omega) (lk_cu o2.1 hnl).1 (w_cs0 (xr_without hΦ hn hn3 (by omega) (by omega) (by omega) o2 a2) (fun y2 ⟨⟨S2, k0, k1⟩, k2⟩ => c3 y2 _ _ _ (fr_tr hf (fr_mono (fun g hg => by unfold frB at hg; unfold frC; omega) k2)) ⟨S2, adS_eq (adS_tr a1 k0) (fun A' sg' => ?_), hΦ.2.2 _ _ _ _ (by omega) k1⟩)))
        unfold O2
        rw [exs_s]
        constructor
        · rintro (⟨e, h8⟩ | ⟨e1, e2⟩)
          · exact ⟨e, Or.inl h8⟩
          · exact ⟨e2, Or.inr ⟨htw, e1⟩⟩
        · rintro ⟨e, h8 | ⟨-, h8⟩⟩
          · exact Or.inl ⟨e, h8⟩
          · exact Or.inr ⟨h8, e⟩
      have c33 : ¬ tw2 A sg v → ∀ a b c : Int32, Tt (fun K i => q_X13_twoGo K i 3 (nI v) a b c n y) Q := fun hno a b c => c3 y a b c hf ⟨S1, adS_eq a1 (fun A' sg' => by
        unfold O2
        rw [exs_s]
        constructor
        · rintro ⟨e, h8⟩
          exact ⟨e, Or.inl h8⟩
        · rintro ⟨e, h8 | ⟨h8, -⟩⟩
          · exact ⟨e, h8⟩
          · exact absurd h8 hno), hΦ.2.2 _ _ _ _ (by omega) a2⟩
      have e4 := (lk_cu o2.1 hvl).1
      have e4n := (lk_cu o2.1 hnl).1
      have e6 : y.2.1 (n + 6) (crs A v) = if sg (crs A v) = true then -1 else 1 := o2.2.1 _ (vAt_mem hvl)
      have e6n : y.2.1 (n + 6) (crs A (rn_nx A v)) = if sg (crs A (rn_nx A v)) = true then -1 else 1 := o2.2.1 _ (vAt_mem hnl)
      refine u_X13_twoGo_1 ?_; unfold qm_X13_twoGo_1
      exact w_rdF o2.1.V (w_leF (by omega) hvl (w_rdI (pl9 hn) rfl (by omega) (lk_n o2.1 hvl) (w_rdI (pl5 hn) rfl (by omega) (lk_cu o2.1 hvl).2 (w_eqN (b := 0) (by omega) (by omega) (fun h1 => w_rdI (pl5 hn) rfl (by omega) (lk_cu o2.1 hnl).2 (w_eqN (b := 0) (by omega) (by omega) (fun h2 => w_rdI (pl4 hn) rfl (by omega) e4 (w_rdI (pl4 hn) rfl (by omega) e4n (w_eqN (by omega) (by omega) (fun h3 => c33 (fun h9 => h9.2.2.1 h3) _ _ _) (fun h3 => w_rdI (pl4 hn) rfl (by omega) e4 (w_rdI (pl6 hn) rfl (by omega) e6 (w_rdI (pl4 hn) rfl (by omega) e4n (w_rdI (pl6 hn) rfl (by omega) e6n (w_if (fun h4 => c33 (fun h9 => h9.2.2.2.1 (sg_ne.mp h4)) _ _ _) (fun h4 => w_rdI (pl7 hn) rfl (by omega) (lk_m hd o2.1 hvl) (w_rdI (pl7 hn) rfl (by omega) (lk_m hd o2.1 hnl) (w_rdI (pl9 hn) rfl (by omega) (lk_n o2.1 hm1) (w_eqN (by omega) (by omega) (fun h5 => c2 ⟨h1, h2, h3, fun h8 => h4 (sg_ne.mpr h8), Or.inl h5⟩ _ _) (fun h5 => w_rdI (pl9 hn) rfl (by omega) (lk_n o2.1 hm2) (w_eqN (by omega) (by omega) (fun h6 => c2 ⟨h1, h2, h3, fun h8 => h4 (sg_ne.mpr h8), Or.inr h6⟩ _ _) (fun h6 => c33 (fun h9 => h9.2.2.2.2.elim h5 h6) _ _ _)))))))))))))) ) (fun h2 => c33 (fun h9 => h2 h9.2.1) _ _ _))) (fun h1 => c33 (fun h9 => h1 h9.1) _ _ _)))))
  refine e_X13_twoGo ?_
  refine u_X13_twoGo_0 ?_; unfold qm_X13_twoGo_0
  refine key _ 0 z (Nat.zero_add _) fr_rf ⟨S, ?_, h⟩
  exact adS_eq adS_rf (fun A' sg' => ⟨fun h9 => h9.elim, fun ⟨_, i, h9, _⟩ => absurd h9 (Nat.not_lt_zero _)⟩)
end XK0
end
section
/-! 99zzzzzzzzzzy.xbld -/
/-! exact: build: visits put into gaps -/
/-- what is put into the gaps g and h -/
def insG (g h : Nat) (P0 P1 : List vT) (gp : Nat) : List vT := (if gp = g then P0 else []) ++ (if gp = h then P1 else [])
def bldC (A : rn_L) (f : Nat → List vT) (c : Nat) : List vT := (if rn_b A c = rn_b A (c + 1) then f (A.flatten.length + c) else []) ++ (List.range' (rn_b A c) (rn_b A (c + 1) - rn_b A c)).flatMap (fun v => vAt A v :: f v)
def bldA (A : rn_L) (f : Nat → List vT) : rn_L := (List.range A.length).map (bldC A f)
/-- how many came so far -/
def wgB (V c i g : Nat) : Nat := if g < i ∨ V ≤ g ∧ g - V < c then 2 else 0
section XBL
variable {n : Nat} {z : ow_MS} {A : rn_L} {sg : Nat → Bool}
theorem insG_len {g h gp : Nat} {P0 P1 : List vT} (h0 : P0.length = 2) (h1 : P1.length ≤ 2) : (insG g h P0 P1 gp).length ≤ (if gp = g then 2 else 0) + (if gp = h then 2 else 0) := by
  unfold insG
  rw [List.length_append]
  have a1 : (if gp = g then P0 else []).length ≤ if gp = g then 2 else 0 := by
    split
    · omega
    · exact Nat.le_refl _
  have a2 : (if gp = h then P1 else []).length ≤ if gp = h then 2 else 0 := by
    split
    · omega
    · exact Nat.le_refl _
  omega
theorem xr_putAt {g h gp : Nat} {x3 : Int32} {A1 : rn_L} {B : List vT} {p0 p1 p2 p3 : vT} (hgp : gp < 100) (hg : g < 100) (hx3 : ∀ k, k < 100 → (nI k = x3 ↔ k = h)) (hlen : (A1.flatten ++ B).length + (if gp = g then 2 else 0) + (if gp = h then 2 else 0) ≤ 39) (c0 : z.2.1 31 0 = nI p0.1 ∧ z.2.1 32 0 = nI p0.2 ∧ z.2.1 31 1 = nI p1.1 ∧ z.2.1 32 1 = nI p1.2) (c1 : h < 100 → z.2.1 31 2 = nI p2.1 ∧ z.2.1 32 2 = nI p2.2 ∧ z.2.1 31 3 = nI p3.1 ∧ z.2.1 32 3 = nI p3.2) (hA : rn_At z 3000 A1 B) : Te (fun K => qe_X13_putAt K (nI gp) (nI g) x3 z) (fun z1 => rn_At z1 3000 A1 (B ++ insG g h [p0, p1] [p2, p3] gp) ∧ fr (fun g => g = 3001 ∨ g = 3004 ∨ g = 3005) z z1) := by
  have fin : ∀ (z1 : ow_MS) (B1 : List vT), fr (fun g => g = 3001 ∨ g = 3004 ∨ g = 3005) z z1 → (A1.flatten ++ B1).length + (if gp = h then 2 else 0) ≤ 39 → B1 = B ++ (if gp = g then [p0, p1] else []) → rn_At z1 3000 A1 B1 → Tt (fun K k => q_X13_putAt K k 1 (nI gp) (nI g) x3 z1) (fun z1 => rn_At z1 3000 A1 (B ++ insG g h [p0, p1] [p2, p3] gp) ∧ fr (fun g => g = 3001 ∨ g = 3004 ∨ g = 3005) z z1) := by
    intro z1 B1 hf hl hB1 hb1
    rw [List.length_append] at hl
    refine u_X13_putAt_1 ?_; unfold qm_X13_putAt_1
    refine w_if (fun h9 => ?_) (fun h9 => w_some ⟨?_, hf⟩)
    · have hgh := (hx3 gp hgp).mp h9
      obtain ⟨d1, d2, d3, d4⟩ := c1 (by omega)
      have e31 := (hf 31 (by omega)).2.1
      have e32 := (hf 32 (by omega)).2.1
      rw [if_pos hgh] at hl
      refine w_rdI ml31 (show (2 : Int32) = nI 2 from rfl) (by omega) (by rw [e31]; exact d1) (w_rdI ml32 (show (2 : Int32) = nI 2 from rfl) (by omega) (by rw [e32]; exact d2) (w_cs0 (tn_add (x := p2.1) (u := p2.2) pn3 hb1 (by rw [List.length_append]; omega)) (fun z2 ⟨g1, g2⟩ => ?_)))
      have e31' := (g2 31 (by omega)).2.1
      have e32' := (g2 32 (by omega)).2.1
      refine w_rdI ml31 (show (3 : Int32) = nI 3 from rfl) (by omega) (by rw [e31', e31]; exact d3) (w_rdI ml32 (show (3 : Int32) = nI 3 from rfl) (by omega) (by rw [e32', e32]; exact d4) (w_cs0 (tn_add (x := p3.1) (u := p3.2) pn3 g1 (by rw [List.length_append, List.length_append]; show _ + (_ + 1) < 40; omega)) (fun z3 ⟨k1, k2⟩ => w_some ⟨?_, fr_tr hf (fr_tr (fr_mono (fun g hg => by omega) g2) (fr_mono (fun g hg => by omega) k2))⟩)))
      have e9 : B ++ insG g h [p0, p1] [p2, p3] gp = B1 ++ [(p2.1, p2.2)] ++ [(p3.1, p3.2)] := by
        unfold insG
        rw [if_pos hgh, hB1]
        simp
      rw [e9]
      exact k1
    · have e9 : B ++ insG g h [p0, p1] [p2, p3] gp = B1 := by
        unfold insG
        rw [if_neg (fun h8 => h9 ((hx3 gp hgp).mpr h8)), hB1, List.append_nil]
      rw [e9]
      exact hb1
  obtain ⟨d1, d2, d3, d4⟩ := c0
  rw [List.length_append] at hlen
  refine e_X13_putAt ?_
  refine u_X13_putAt_0 ?_; unfold qm_X13_putAt_0
  refine w_eqN (by omega) (by omega) (fun h9 => ?_) (fun h9 => fin z B fr_rf (by rw [if_neg h9] at hlen; rw [List.length_append]; omega) (by rw [if_neg h9, List.append_nil]) hA)
  rw [if_pos h9] at hlen
  refine w_rdI ml31 nI_0.symm (by omega) d1 (w_rdI ml32 nI_0.symm (by omega) d2 (w_cs0 (tn_add (x := p0.1) (u := p0.2) pn3 hA (by rw [List.length_append]; omega)) (fun z2 ⟨g1, g2⟩ => ?_)))
  have e31 := (g2 31 (by omega)).2.1
  have e32 := (g2 32 (by omega)).2.1
  refine w_rdI ml31 (show (1 : Int32) = nI 1 from rfl) (by omega) (by rw [e31]; exact d3) (w_rdI ml32 (show (1 : Int32) = nI 1 from rfl) (by omega) (by rw [e32]; exact d4) (w_cs0 (tn_add (x := p1.1) (u := p1.2) pn3 g1 (by rw [List.length_append, List.length_append]; show _ + (_ + 1) < 40; omega)) (fun z3 ⟨k1, k2⟩ => fin z3 _ (fr_tr (fr_mono (fun g hg => by omega) g2) (fr_mono (fun g hg => by omega) k2)) ?_ ?_ k1)))
  · rw [List.length_append, List.length_append, List.length_append]
    show A1.flatten.length + (B.length + 1 + 1) + _ ≤ 39
    omega
  · rw [if_pos h9]
    simp
theorem range_s' {a i : Nat} (h : a ≤ i) : List.range' a (i + 1 - a) = List.range' a (i - a) ++ [i] := by
  rw [show i + 1 - a = (i - a) + 1 by omega, List.range'_concat]
  congr 2
  omega
theorem xr_build {g h : Nat} {x3 : Int32} {p0 p1 p2 p3 : vT} (hn : mw_net n) (hn3 : n ≠ 3000) (hO : oNet z n A sg) (hg : g < 100) (hh : h < 100 ∨ h = 1000) (hx3 : ∀ k, k < 100 → (nI k = x3 ↔ k = h)) (c0 : z.2.1 31 0 = nI p0.1 ∧ z.2.1 32 0 = nI p0.2 ∧ z.2.1 31 1 = nI p1.1 ∧ z.2.1 32 1 = nI p1.2) (c1 : h < 100 → z.2.1 31 2 = nI p2.1 ∧ z.2.1 32 2 = nI p2.2 ∧ z.2.1 31 3 = nI p3.1 ∧ z.2.1 32 3 = nI p3.2) : Te (fun K => qe_X13_build K n (nI g) x3 z) (fun z1 => rn_At z1 3000 (bldA A (insG g h [p0, p1] [p2, p3])) [] ∧ fr (fun g => 3001 ≤ g ∧ g ≤ 3006) z z1 ∧ (∀ x, x < A.flatten.length / 2 → z1.2.1 3006 x = z.2.1 (n + 6) x)) := by
  have hmn := net_mod hn
  have hl := hO.len
  have hC := hO.2.2.2
  obtain ⟨V, hV⟩ : ∃ V, V = A.flatten.length := ⟨_, rfl⟩
  obtain ⟨f, hf0⟩ : ∃ f, f = insG g h [p0, p1] [p2, p3] := ⟨_, rfl⟩
  have fl : ∀ gp, (f gp).length ≤ (if gp = g then 2 else 0) + (if gp = h then 2 else 0) := fun gp => by
    rw [hf0]
    exact insG_len rfl (Nat.le_refl _)
  let I : ow_MS → Prop := fun y => fr (fun g => 3001 ≤ g ∧ g ≤ 3005) z y
  have oI : ∀ {y : ow_MS}, I y → oNet y n A sg := fun hI => oNet_fr hI (fun g hg => by omega) hO
  have stI : ∀ {P : Nat → Prop} {y y2 : ow_MS}, I y → fr P y y2 → (∀ g, P g → 3001 ≤ g ∧ g ≤ 3005) → I y2 := fun hI hf hP => fr_tr hI (fr_mono hP hf)
  have cI0 : ∀ {y : ow_MS}, I y → y.2.1 31 0 = nI p0.1 ∧ y.2.1 32 0 = nI p0.2 ∧ y.2.1 31 1 = nI p1.1 ∧ y.2.1 32 1 = nI p1.2 := fun hI => by rw [(hI 31 (by omega)).2.1, (hI 32 (by omega)).2.1]; exact c0
  have cI1 : ∀ {y : ow_MS}, I y → h < 100 → y.2.1 31 2 = nI p2.1 ∧ y.2.1 32 2 = nI p2.2 ∧ y.2.1 31 3 = nI p3.1 ∧ y.2.1 32 3 = nI p3.2 := fun hI hh => by rw [(hI 31 (by omega)).2.1, (hI 32 (by omega)).2.1]; exact c1 hh
  let Q : ow_MS → Prop := fun z1 => rn_At z1 3000 (bldA A f) [] ∧ fr (fun g => 3001 ≤ g ∧ g ≤ 3006) z z1 ∧ (∀ x, x < A.flatten.length / 2 → z1.2.1 3006 x = z.2.1 (n + 6) x)
  -- the signs
  have l4 : ∀ (k x : Nat) (y : ow_MS), x + k = V / 2 → fr (fun g => 3001 ≤ g ∧ g ≤ 3006) z y → rn_At y 3000 (bldA A f) [] → (∀ x', x' < x → y.2.1 3006 x' = z.2.1 (n + 6) x') → Tt (fun K i => q_X13_build K i 4 (nI g) x3 (nI x) 0 n y) Q := by
    intro k
    induction k with
    | zero =>
      intro x y hx hf hb hs
      have o2 : oNet y n A sg := oNet_fr hf (fun g hg => by omega) hO
      refine u_X13_build_4 ?_; unfold qm_X13_build_4
      refine w_rdF o2.1.V (w_nzI (by decide) ?_)
      rw [← hV, show nI V / 2 = nI (V / 2) from pk_div (d := 2) (by omega) (by omega) (by omega)]
      exact w_leT (by omega) (by omega) (w_some ⟨hb, hf, fun x' hx' => hs x' (by omega)⟩)
    | succ k ih =>
      intro x y hx hf hb hs
      have o2 : oNet y n A sg := oNet_fr hf (fun g hg => by omega) hO
      refine u_X13_build_4 ?_; unfold qm_X13_build_4
      refine w_rdF o2.1.V (w_nzI (by decide) ?_)
      rw [← hV, show nI V / 2 = nI (V / 2) from pk_div (d := 2) (by omega) (by omega) (by omega), nI_1]
      refine w_leF (by omega) (by omega) (w_rdI (pl6 hn) rfl (by omega) rfl (w_wrI (pl6 pn3) rfl (by omega) ?_))
      refine ih (x + 1) _ (by omega) (fr_I2 hf (by omega)) (fr_At (P := fun g => g = 3006) (fr_I rfl) (fun g hg => by omega) hb) (fun x' hx' => ?_)
      by_cases he : x' = x
      · rw [he]
        show (usI y 3006 x (y.2.1 (n + 6) x)).2.1 3006 x = _
        rw [po_usI_at, (hf (n + 6) (by omega)).2.1]
      · exact rd_ne he (hs x' (by omega))
  have wmono : ∀ c i c' i' g, c ≤ c' → i ≤ i' → wgB V c i g ≤ wgB V c' i' g := fun c i c' i' g h1 h2 => by
    unfold wgB
    split
    · rw [if_pos (by omega)]
      exact Nat.le_refl _
    · omega
  have w2 : ∀ c i g, wgB V c i g ≤ 2 := fun c i g => by
    unfold wgB
    split <;> omega
  have out : ∀ (k c : Nat) (y : ow_MS), c + k = A.length → I y → ((List.range c).map (bldC A f)).flatten.length ≤ rn_b A c + wgB V c (rn_b A c) g + wgB V c (rn_b A c) h → rn_At y 3000 ((List.range c).map (bldC A f)) [] → Tt (fun K i => q_X13_build K i 1 (nI g) x3 (nI c) 0 n y) Q := by
    intro k
    induction k with
    | zero =>
      intro c y hc hI hlb hb
      have hce : c = A.length := by omega
      rw [hce] at hb
      refine u_X13_build_1 ?_; unfold qm_X13_build_1
      exact w_rdF (lk_C (oI hI).1) (w_leT (by omega) (by omega) (l4 (V / 2) 0 y (by omega) (fr_mono (fun g hg => by omega) hI) hb (fun x hx => by omega)))
    | succ k ih =>
      intro c y hc hI hlb hb
      have hcA : c < A.length := by omega
      have m1 := rn_b_mono A c
      have m2 := rn_b_le A (c + 1)
      have lc : ((List.range c).map (bldC A f)).length = c := by rw [List.length_map, List.length_range]
      have c3 : ∀ (k i : Nat) (y1 : ow_MS), i + k = rn_b A (c + 1) → rn_b A c ≤ i → I y1 → (((List.range c).map (bldC A f)).flatten ++ ((if rn_b A c = rn_b A (c + 1) then f (V + c) else []) ++ (List.range' (rn_b A c) (i - rn_b A c)).flatMap (fun v => vAt A v :: f v))).length ≤ i + wgB V (c + 1) i g + wgB V (c + 1) i h → rn_At y1 3000 ((List.range c).map (bldC A f)) ((if rn_b A c = rn_b A (c + 1) then f (V + c) else []) ++ (List.range' (rn_b A c) (i - rn_b A c)).flatMap (fun v => vAt A v :: f v)) → Tt (fun K i9 => q_X13_build K i9 3 (nI g) x3 (nI c) (nI i) n y1) Q := by
        intro k
        induction k with
        | zero =>
          intro i y1 hi hlo hI hlb hb
          have hie : i = rn_b A (c + 1) := by omega
          rw [hie] at hb hlb ⊢
          refine u_X13_build_3 ?_; unfold qm_X13_build_3
          rw [nI_1]
          have eC : ((List.range c).map (bldC A f)) ++ [(if rn_b A c = rn_b A (c + 1) then f (V + c) else []) ++ (List.range' (rn_b A c) (rn_b A (c + 1) - rn_b A c)).flatMap (fun v => vAt A v :: f v)] = (List.range (c + 1)).map (bldC A f) := by
            rw [List.range_succ, List.map_append, hV]
            rfl
          refine w_rdI (pl3 hn) rfl (by omega) (lk_b (oI hI).1 (by omega)) (w_leT (by omega) (Nat.le_refl _) (w_cs0 (tn_end pn3 hb (by omega)) (fun y2 ⟨g1, g2⟩ => ?_)))
          rw [eC] at g1
          refine ih (c + 1) y2 (by omega) (stI hI g2 (fun g hg => by omega)) ?_ g1
          rw [← eC, List.flatten_append, List.flatten_cons, List.flatten_nil, List.append_nil]
          exact hlb
        | succ k ihk =>
          intro i y1 hi hlo hI hlb hb
          have hil : i < A.flatten.length := by omega
          have q1 := w2 (c + 1) i g
          have q2 := w2 (c + 1) i h
          have sg1 : wgB V (c + 1) i g + (if i = g then 2 else 0) ≤ wgB V (c + 1) (i + 1) g := by
            unfold wgB
            by_cases e : i = g
            · rw [if_pos e, if_neg (by omega), if_pos (by omega)]
              exact Nat.le_refl _
            · rw [if_neg e]
              exact wmono _ _ _ _ g (Nat.le_refl _) (by omega)
          have sh1 : wgB V (c + 1) i h + (if i = h then 2 else 0) ≤ wgB V (c + 1) (i + 1) h := by
            unfold wgB
            by_cases e : i = h
            · rw [if_pos e, if_neg (by omega), if_pos (by omega)]
              exact Nat.le_refl _
            · rw [if_neg e]
              exact wmono _ _ _ _ h (Nat.le_refl _) (by omega)
          have r1 := w2 (c + 1) (i + 1) g
          have r2 := w2 (c + 1) (i + 1) h
          refine u_X13_build_3 ?_; unfold qm_X13_build_3
          rw [nI_1, nI_1]
          refine w_rdI (pl3 hn) rfl (by omega) (lk_b (oI hI).1 (by omega)) (w_leF (by omega) (by omega) (w_rdI (pl4 hn) rfl (by omega) (lk_cu (oI hI).1 hil).1 (w_rdI (pl5 hn) rfl (by omega) (lk_cu (oI hI).1 hil).2 (w_cs0 (tn_add (x := crs A i) (u := uns A i) pn3 hb (by omega)) (fun y2 ⟨g1, g2⟩ => ?_)))))
          have hI2 := stI hI g2 (fun g hg => by omega)
          refine w_cs0 (xr_putAt (gp := i) (by omega) hg hx3 ?_ (cI0 hI2) (cI1 hI2) g1) (fun y3 ⟨k1, k2⟩ => ?_)
          · rw [← List.append_assoc, List.length_append]
            show _ + 1 + _ + _ ≤ 39
            omega
          · rw [← hf0] at k1
            have e9 : ((if rn_b A c = rn_b A (c + 1) then f (V + c) else []) ++ (List.range' (rn_b A c) (i - rn_b A c)).flatMap (fun v => vAt A v :: f v)) ++ [(crs A i, uns A i)] ++ f i = (if rn_b A c = rn_b A (c + 1) then f (V + c) else []) ++ (List.range' (rn_b A c) (i + 1 - rn_b A c)).flatMap (fun v => vAt A v :: f v) := by
              rw [range_s' hlo, List.flatMap_append, List.flatMap_cons, List.flatMap_nil, List.append_nil]
              simp only [List.append_assoc]
              rfl
            rw [e9] at k1
            refine ihk (i + 1) y3 (by omega) (by omega) (stI hI2 k2 (fun g hg => by omega)) ?_ k1
            rw [← e9, ← List.append_assoc, ← List.append_assoc, List.length_append, List.length_append]
            have := fl i
            show _ + 1 + _ ≤ _
            omega
      have c2 : ∀ (y1 : ow_MS), I y1 → (((List.range c).map (bldC A f)).flatten ++ (if rn_b A c = rn_b A (c + 1) then f (V + c) else [])).length ≤ rn_b A c + wgB V (c + 1) (rn_b A c) g + wgB V (c + 1) (rn_b A c) h → rn_At y1 3000 ((List.range c).map (bldC A f)) (if rn_b A c = rn_b A (c + 1) then f (V + c) else []) → Tt (fun K i9 => q_X13_build K i9 2 (nI g) x3 (nI c) 0 n y1) Q := by
        intro y1 hI hlb hb
        refine u_X13_build_2 ?_; unfold qm_X13_build_2
        refine w_rdI (pl3 hn) rfl (by omega) (lk_b (oI hI).1 (by omega)) (c3 (rn_b A (c + 1) - rn_b A c) (rn_b A c) y1 (by omega) (Nat.le_refl _) hI ?_ ?_)
        · rw [Nat.sub_self]
          show (_ ++ (_ ++ [])).length ≤ _
          rw [List.append_nil]
          exact hlb
        · rw [Nat.sub_self]
          show rn_At y1 3000 _ (_ ++ [])
          rw [List.append_nil]
          exact hb
      have q1 := w2 c (rn_b A c) g
      have q2 := w2 c (rn_b A c) h
      refine u_X13_build_1 ?_; unfold qm_X13_build_1
      refine w_rdF (lk_C (oI hI).1) (w_leF (by omega) (by omega) (w_cs1 (tn_circle hn (by omega) (by omega) hcA (oI hI).1.1) (fun a y9 e => ?_)))
      cases e
      by_cases hcir : rn_b A c = rn_b A (c + 1)
      · rw [if_pos hcir]
        have bc := rn_b_le A c
        have sg1 : wgB V c (rn_b A c) g + (if V + c = g then 2 else 0) ≤ wgB V (c + 1) (rn_b A c) g := by
          unfold wgB
          by_cases e : V + c = g
          · rw [if_pos e, if_neg (by omega), if_pos (by omega)]
            exact Nat.le_refl _
          · rw [if_neg e]
            exact wmono _ _ _ _ g (by omega) (Nat.le_refl _)
        have sh1 : wgB V c (rn_b A c) h + (if V + c = h then 2 else 0) ≤ wgB V (c + 1) (rn_b A c) h := by
          unfold wgB
          by_cases e : V + c = h
          · rw [if_pos e, if_neg (by omega), if_pos (by omega)]
            exact Nat.le_refl _
          · rw [if_neg e]
            exact wmono _ _ _ _ h (by omega) (Nat.le_refl _)
        refine w_ifF (by decide) (w_rdF (oI hI).1.V ?_)
        rw [← hV, nI_add]
        have r1 := w2 (c + 1) (rn_b A c) g
        have r2 := w2 (c + 1) (rn_b A c) h
        refine w_cs0 (xr_putAt (gp := V + c) (by omega) hg hx3 (by rw [List.append_nil]; omega) (cI0 hI) (cI1 hI) hb) (fun y3 ⟨k1, k2⟩ => ?_)
        rw [← hf0, List.nil_append] at k1
        refine c2 y3 (stI hI k2 (fun g hg => by omega)) ?_ (by rw [if_pos hcir]; exact k1)
        rw [if_pos hcir, List.length_append]
        have := fl (V + c)
        omega
      · rw [if_neg hcir]
        refine w_ifT rfl (c2 y hI ?_ (by rw [if_neg hcir]; exact hb))
        rw [if_neg hcir, List.append_nil]
        have s1' := wmono c (rn_b A c) (c + 1) (rn_b A c) g (by omega) (Nat.le_refl _)
        have s2' := wmono c (rn_b A c) (c + 1) (rn_b A c) h (by omega) (Nat.le_refl _)
        omega
  rw [← hf0]
  refine e_X13_build ?_
  refine u_X13_build_0 ?_; unfold qm_X13_build_0
  exact w_cs0 (tn_clear pn3) (fun y ⟨g1, g2⟩ => out A.length 0 y (by omega) (fr_mono (fun g hg => by omega) g2) (Nat.zero_le _) g1)
end XBL
end
section
/-! 99zzzzzzzzzzz.xgap -/
/-! visits put into gaps: what is in the list then; a net for every list -/
def gpsC (A : rn_L) (c : Nat) : List Nat := (if rn_b A c = rn_b A (c + 1) then [A.flatten.length + c] else []) ++ List.range' (rn_b A c) (rn_b A (c + 1) - rn_b A c)
def gpsA (A : rn_L) (k : Nat) : List Nat := (List.range k).flatMap (gpsC A)
section XGP
variable {A : rn_L} {f : Nat → List vT}
theorem gps_1 {c i : Nat} : i ∈ gpsC A c ↔ (i = A.flatten.length + c ∧ rn_b A c = rn_b A (c + 1)) ∨ rn_b A c ≤ i ∧ i < rn_b A (c + 1) := by
  have m1 := rn_b_mono A c
  unfold gpsC
  rw [List.mem_append, List.mem_range'_1]
  constructor
  · rintro (h | h)
    · by_cases e : rn_b A c = rn_b A (c + 1)
      · rw [if_pos e] at h
        exact Or.inl ⟨List.mem_singleton.mp h, e⟩
      · rw [if_neg e] at h
        cases h
    · exact Or.inr (by omega)
  · rintro (⟨h1, h2⟩ | h)
    · rw [if_pos h2]
      exact Or.inl (List.mem_singleton.mpr h1)
    · exact Or.inr (by omega)
theorem rnb_mono2 {a b : Nat} (h : a ≤ b) : rn_b A a ≤ rn_b A b := by
  obtain ⟨d, rfl⟩ : ∃ d, b = a + d := ⟨b - a, by omega⟩
  clear h
  induction d with
  | zero => exact Nat.le_refl _
  | succ d ih => exact Nat.le_trans ih (rn_b_mono A (a + d))
theorem gps_mem {i : Nat} : i ∈ gpsA A A.length ↔ isG A i := by
  unfold gpsA isG
  rw [List.mem_flatMap]
  constructor
  · rintro ⟨c, hc, hi⟩
    have hc := List.mem_range.mp hc
    rcases gps_1.mp hi with ⟨h1, h2⟩ | ⟨h1, h2⟩
    · refine Or.inr ⟨by omega, by omega, ?_⟩
      rw [show i - A.flatten.length = c by omega]
      exact h2
    · have := rn_b_le A (c + 1)
      exact Or.inl (by omega)
  · rintro (h | ⟨h1, h2, h3⟩)
    · obtain ⟨q1, q2, q3⟩ := rn_c_in A i h
      exact ⟨rn_c A i, List.mem_range.mpr q1, gps_1.mpr (Or.inr ⟨by omega, by omega⟩)⟩
    · exact ⟨i - A.flatten.length, List.mem_range.mpr h2, gps_1.mpr (Or.inl ⟨by omega, h3⟩)⟩
theorem gps_nd : ∀ k, k ≤ A.length → (gpsA A k).Nodup
  | 0, _ => List.nodup_nil
  | k + 1, hk => by
    unfold gpsA
    rw [List.range_succ, List.flatMap_append, List.flatMap_cons, List.flatMap_nil, List.append_nil]
    refine List.nodup_append.mpr ⟨gps_nd k (by omega), ?_, fun a ha b hb e => ?_⟩
    · unfold gpsC
      refine List.nodup_append.mpr ⟨?_, List.nodup_range', fun a ha b hb e => ?_⟩
      · split
        · exact List.nodup_cons.mpr ⟨List.not_mem_nil, List.nodup_nil⟩
        · exact List.nodup_nil
      · have := rn_b_le A (k + 1)
        have := rn_b_mono A k
        rw [List.mem_range'_1] at hb
        by_cases e9 : rn_b A k = rn_b A (k + 1)
        · rw [if_pos e9] at ha
          have := List.mem_singleton.mp ha
          omega
        · rw [if_neg e9] at ha
          cases ha
    · obtain ⟨c, hc, ha⟩ := List.mem_flatMap.mp ha
      have hc := List.mem_range.mp hc
      have m := rnb_mono2 (A := A) (show c + 1 ≤ k by omega)
      have b1 := rn_b_le A (k + 1)
      have b2 := rn_b_le A (c + 1)
      rcases gps_1.mp ha with h1 | h1 <;> rcases gps_1.mp hb with h2 | h2 <;> omega
theorem fm_pc (Vs : List Nat) : (Vs.flatMap (fun v => vAt A v :: f v)).Perm (Vs.map (vAt A) ++ Vs.flatMap f) := by
  induction Vs with
  | nil => exact List.Perm.nil
  | cons v Vs ih =>
    rw [List.perm_iff_count] at ih ⊢
    intro a
    have := ih a
    simp only [List.flatMap_cons, List.map_cons, List.cons_append, List.count_append, List.count_cons] at this ⊢
    omega
theorem bld_pm : ∀ k, k ≤ A.length → ((List.range k).map (bldC A f)).flatten.Perm ((List.range (rn_b A k)).map (vAt A) ++ (gpsA A k).flatMap f)
  | 0, _ => by
    rw [rn_b0]
    exact List.Perm.nil
  | k + 1, hk => by
    have ih := bld_pm k (by omega)
    have h1 := fm_pc (A := A) (f := f) (List.range' (rn_b A k) (rn_b A (k + 1) - rn_b A k))
    have m1 := rn_b_mono A k
    have er : List.range (rn_b A (k + 1)) = List.range (rn_b A k) ++ List.range' (rn_b A k) (rn_b A (k + 1) - rn_b A k) := by
      rw [List.range_eq_range', List.range_eq_range']
      have := List.range'_append_1 (s := 0) (m := rn_b A k) (n := rn_b A (k + 1) - rn_b A k)
      rw [Nat.zero_add] at this
      rw [this]
      congr 1
      omega
    have eg : gpsA A (k + 1) = gpsA A k ++ gpsC A k := by
      unfold gpsA
      rw [List.range_succ, List.flatMap_append, List.flatMap_cons, List.flatMap_nil, List.append_nil]
    have ec : (gpsC A k).flatMap f = (if rn_b A k = rn_b A (k + 1) then f (A.flatten.length + k) else []) ++ (List.range' (rn_b A k) (rn_b A (k + 1) - rn_b A k)).flatMap f := by
      unfold gpsC
      rw [List.flatMap_append]
      congr 1
      split
      · rw [List.flatMap_cons, List.flatMap_nil, List.append_nil]
      · rfl
    rw [List.range_succ, List.map_append, List.flatten_append, er, eg, List.map_append, List.flatMap_append, ec]
    show (((List.range k).map (bldC A f)).flatten ++ (bldC A f k ++ [])).Perm _
    have eb : bldC A f k = (if rn_b A k = rn_b A (k + 1) then f (A.flatten.length + k) else []) ++ (List.range' (rn_b A k) (rn_b A (k + 1) - rn_b A k)).flatMap (fun v => vAt A v :: f v) := rfl
    rw [List.append_nil, eb]
    rw [List.perm_iff_count] at ih h1 ⊢
    intro a
    have i1 := ih a
    have i2 := h1 a
    simp only [List.count_append] at i1 i2 ⊢
    omega
theorem fm_one {g : Nat} {P : List vT} : ∀ {Gs : List Nat}, Gs.Nodup → Gs.flatMap (fun gp => if gp = g then P else []) = if g ∈ Gs then P else []
  | [], _ => rfl
  | a :: Gs, h => by
    obtain ⟨h1, h2⟩ := List.nodup_cons.mp h
    rw [List.flatMap_cons, fm_one h2]
    by_cases e : a = g
    · rw [if_pos e, if_neg (by rw [← e]; exact h1), if_pos (by rw [e]; exact List.mem_cons_self), List.append_nil]
    · rw [if_neg e, List.nil_append]
      by_cases e2 : g ∈ Gs
      · rw [if_pos e2, if_pos (List.mem_cons_of_mem _ e2)]
      · rw [if_neg e2, if_neg (fun h9 => (List.mem_cons.mp h9).elim (fun h8 => e h8.symm) e2)]
theorem fm_ap {Gs : List Nat} {a b : Nat → List vT} : (Gs.flatMap (fun g => a g ++ b g)).Perm (Gs.flatMap a ++ Gs.flatMap b) := by
  induction Gs with
  | nil => exact List.Perm.nil
  | cons g Gs ih =>
    rw [List.perm_iff_count] at ih ⊢
    intro x
    have := ih x
    simp only [List.flatMap_cons, List.count_append] at this ⊢
    omega
theorem vAt_all (A : rn_L) : (List.range A.flatten.length).map (vAt A) = A.flatten := by
  refine List.ext_getElem (by rw [List.length_map, List.length_range]) (fun i h1 h2 => ?_)
  rw [List.getElem_map, List.getElem_range]
  exact vAt_eq (List.getElem?_eq_getElem h2)
/-- what is in the list when visits have come into the gaps g and h -/
theorem bld_perm {g h : Nat} {P0 P1 : List vT} (hg : isG A g) : (bldA A (insG g h P0 P1)).flatten.Perm (A.flatten ++ (P0 ++ if h ∈ gpsA A A.length then P1 else [])) := by
  have h1 := bld_pm (A := A) (f := insG g h P0 P1) A.length (Nat.le_refl _)
  rw [rn_b_len, vAt_all] at h1
  refine h1.trans (List.Perm.append_left _ ?_)
  refine (fm_ap (a := fun gp => if gp = g then P0 else []) (b := fun gp => if gp = h then P1 else [])).trans ?_
  rw [fm_one (gps_nd _ (Nat.le_refl _)), fm_one (gps_nd _ (Nat.le_refl _)), if_pos (gps_mem.mpr hg)]
theorem okF_pm {F F' : List vT} {c : Nat} (h : F.Perm F') (ho : okF F' c) : okF F c := ⟨h.nodup_iff.mpr ho.1, fun p => by rw [h.mem_iff]; exact ho.2 p⟩
theorem bldA_cg {f f' : Nat → List vT} (h : ∀ gp, gp < A.flatten.length + A.length → f gp = f' gp) : bldA A f = bldA A f' := by
  unfold bldA
  refine List.map_congr_left (fun c hc => ?_)
  have hc := List.mem_range.mp hc
  have b1 := rn_b_le A (c + 1)
  have m1 := rn_b_mono A c
  unfold bldC
  rw [h _ (by omega)]
  congr 1
  rw [List.flatMap_eq_foldl, List.flatMap_eq_foldl]
  have key : ∀ (Vs : List Nat), (∀ v, v ∈ Vs → v < A.flatten.length) → Vs.flatMap (fun v => vAt A v :: f v) = Vs.flatMap (fun v => vAt A v :: f' v) := by
    intro Vs
    induction Vs with
    | nil => intro _; rfl
    | cons v Vs ih =>
      intro hv
      rw [List.flatMap_cons, List.flatMap_cons, h v (by have := hv v List.mem_cons_self; omega), ih (fun w hw => hv w (List.mem_cons_of_mem _ hw))]
  rw [← List.flatMap_eq_foldl, ← List.flatMap_eq_foldl]
  exact key _ (fun v hv => by
    rw [List.mem_range'_1] at hv
    omega)
end XGP
/-- the component of a visit -/
def cmpO (A : rn_L) (p : vT) : List vT := (A.find? (fun L => decide (p ∈ L))).getD []
theorem cmpO_of {A : rn_L} {L : List vT} {p : vT} (hn : A.flatten.Nodup) (hL : L ∈ A) (hp : p ∈ L) : cmpO A p = L := by
  unfold cmpO
  cases e : A.find? (fun L => decide (p ∈ L)) with
  | none =>
    have := List.find?_eq_none.mp e L hL
    rw [decide_eq_true hp] at this
    exact absurd rfl this
  | some M =>
    have h1 := List.find?_some e
    have h2 := List.mem_of_find?_eq_some e
    have h3 : p ∈ M := of_decide_eq_true h1
    show M = L
    rw [List.nodup_iff_pairwise_ne, List.pairwise_flatten] at hn
    apply Classical.byContradiction
    intro hne
    obtain ⟨i, hi, ei⟩ := List.getElem_of_mem h2
    obtain ⟨j, hj, ej⟩ := List.getElem_of_mem hL
    have pw := List.pairwise_iff_getElem.mp hn.2
    rcases Nat.lt_trichotomy i j with q | q | q
    · exact pw i j hi hj q p (by rw [ei]; exact h3) p (by rw [ej]; exact hp) rfl
    · subst q
      exact hne (ei.symm.trans ej)
    · exact pw j i hj hi q p (by rw [ej]; exact hp) p (by rw [ei]; exact h3) rfl
/-- a net that shows a list -/
def netO (A : rn_L) (sg : Nat → Bool) (c : Nat) : ow_NT := (c, cirs A, (fun v => lb (sc (cmpO A (kp v)) (kp v)), fun v => lb (sc (cmpO A (kp v)).reverse (kp v))), fun x => if sg x = true then -1 else 1)
theorem netO_ok {A : rn_L} {sg : Nat → Bool} {c : Nat} (ho : okF A.flatten c) (hc : c ≤ 12) : isoN A sg (fun x => x) (netO A sg c) ∧ vn c (netO A sg c).2.2.1 ∧ pm1 (netO A sg c) := by
  have inL : ∀ v, v < 2 * c → ∃ L, L ∈ A ∧ kp v ∈ L ∧ cmpO A (kp v) = L := fun v hv => by
    have : kp v ∈ A.flatten := (ho.2 _).mpr ⟨by show v / 2 < c; omega, by show v % 2 < 2; omega⟩
    obtain ⟨L, h1, h2⟩ := List.mem_flatten.mp this
    exact ⟨L, h1, h2, cmpO_of ho.1 h1 h2⟩
  have low : ∀ L p, L ∈ A → p ∈ L → p.1 < c ∧ p.2 < 2 := fun L p h1 h2 => (ho.2 p).mp (List.mem_flatten.mpr ⟨L, h1, h2⟩)
  have hl2 : ∀ L p, L ∈ A → p ∈ L → lb p < 2 * c := fun L p h1 h2 => by
    have := low L p h1 h2
    unfold lb
    omega
  refine ⟨isoS_iff.mp ⟨okF_wk (by omega) ho, okF_len ho, hc, fun p hp => ((ho.2 p).mp hp).1, fun p q _ _ e => e, fun L hL p hp => ?_, fun p hp => ?_, rfl⟩, fun v hv => ?_, fun x hx => ?_⟩
  · show lb (sc (cmpO A (kp (lb p))) (kp (lb p))) = lb (sc L p)
    rw [kp_lb2 (low L p hL hp).2, cmpO_of ho.1 hL hp]
  · show (if sg p.1 = true then (-1 : Int32) else 1) < 0 ↔ sg p.1 = true
    cases sg p.1 <;> decide
  · obtain ⟨L, h1, h2, h3⟩ := inL v hv
    have nL := L_nd ho.1 h1
    have s1 := sc_in h2 nL
    have nR : L.reverse.Nodup := (List.reverse_perm L).nodup_iff.mpr nL
    have s2 : sc L.reverse (kp v) ∈ L := List.mem_reverse.mp (sc_in (List.mem_reverse.mpr h2) nR)
    show lb (sc (cmpO A (kp v)) (kp v)) < 2 * c ∧ lb (sc (cmpO A (kp v)).reverse (kp v)) < 2 * c ∧ lb (sc (cmpO A (kp (lb (sc (cmpO A (kp v)) (kp v))))).reverse (kp (lb (sc (cmpO A (kp v)) (kp v))))) = v ∧ lb (sc (cmpO A (kp (lb (sc (cmpO A (kp v)).reverse (kp v))))) (kp (lb (sc (cmpO A (kp v)).reverse (kp v))))) = v
    rw [h3, kp_lb2 (low L _ h1 s1).2, kp_lb2 (low L _ h1 s2).2, cmpO_of ho.1 h1 s1, cmpO_of ho.1 h1 s2, sc_rev nL h2, sc_rv nL h2, kp_lb]
    exact ⟨hl2 L _ h1 s1, hl2 L _ h1 s2, rfl, rfl⟩
  · show (if sg x = true then (-1 : Int32) else 1) = 1 ∨ (if sg x = true then (-1 : Int32) else 1) = -1
    cases sg x
    · exact Or.inl rfl
    · exact Or.inr rfl
/-- plane, of a list -/
theorem pln_net {A : rn_L} {sg : Nat → Bool} {c : Nat} (ho : okF A.flatten c) (hc : c ≤ 12) : plnA A sg ↔ nt_plane (netO A sg c) = true := by
  obtain ⟨h1, h2, h3⟩ := netO_ok (sg := sg) ho hc
  exact ⟨fun h => h _ _ (isoV_of h1 h2) h3, fun h => plnA_of (isoV_of h1 h2) h3 h⟩
end
section
/-! 99zzzzzzzzzzza.xk1 -/
/-! exact: moves of kind 1 and 3 of the reference -/
def O1 (A : rn_L) (sg : Nat → Bool) (c : Nat) (A' : rn_L) (sg' : Nat → Bool) : Prop := ∃ g k, isG A g ∧ k < 4 ∧ A' = bldA A (insG g 1000 [(c, k % 2), (c, 1 - k % 2)] []) ∧ sg' = fun i => if i = c then decide (2 ≤ k) else sg i
def t3P (c k : Nat) : List vT := [(if k / 4 = 0 then c + k % 2 else c + k / 2 % 2, k / 4), (if k / 4 = 0 then 2 * c + 1 - (c + k % 2) else 2 * c + 1 - (c + k / 2 % 2), k / 4)]
def t3Q (c k : Nat) : List vT := [(if k / 4 = 0 then c + k / 2 % 2 else c + k % 2, 1 - k / 4), (if k / 4 = 0 then 2 * c + 1 - (c + k / 2 % 2) else 2 * c + 1 - (c + k % 2), 1 - k / 4)]
def t3A (A : rn_L) (c g h k : Nat) : rn_L := bldA A (insG g h (t3P c k) (t3Q c k))
def t3S (sg : Nat → Bool) (c : Nat) : Nat → Bool := fun i => if i = c then false else if i = c + 1 then true else sg i
def O3 (A : rn_L) (sg : Nat → Bool) (c : Nat) (A' : rn_L) (sg' : Nat → Bool) : Prop := ∃ g h k, isG A g ∧ isG A h ∧ (k < 4 ∨ g = h ∧ k < 8) ∧ A' = t3A A c g h k ∧ sg' = t3S sg c ∧ plnA A' sg'
theorem isG_lt {A : rn_L} {g : Nat} (h : isG A g) : g < A.flatten.length + A.length := by
  rcases h with h | ⟨h1, h2, -⟩ <;> omega
theorem okB_two {c u : Nat} (hu : u < 2) : okB [(c, u), (c, 1 - u)] c 1 := by
  refine ⟨?_, fun p => ?_⟩
  · refine List.nodup_cons.mpr ⟨fun h => ?_, List.nodup_cons.mpr ⟨List.not_mem_nil, List.nodup_nil⟩⟩
    have := congrArg Prod.snd (List.mem_singleton.mp h)
    have this : u = 1 - u := this
    omega
  · rw [List.mem_cons, List.mem_singleton]
    constructor
    · rintro (h | h) <;> rw [h]
      · exact ⟨Nat.le_refl _, by show c < c + 1; omega, hu⟩
      · exact ⟨Nat.le_refl _, by show c < c + 1; omega, by show 1 - u < 2; omega⟩
    · rintro ⟨h1, h2, h3⟩
      have e1 : p.1 = c := by omega
      rcases (show p.2 = u ∨ p.2 = 1 - u by omega) with e | e
      · exact Or.inl (Prod.ext e1 e)
      · exact Or.inr (Prod.ext e1 e)
theorem okB_F {F G : List vT} {c d : Nat} (h1 : okF F c) (h2 : okB G c d) : okF (F ++ G) (c + d) := okB_0.mp (okB_app (okB_0.mpr h1) (by rw [Nat.zero_add]; exact h2))
section XK1
variable {Φ : ow_MS → (List Nat → Prop) → Nat → Prop} {n L c : Nat} {z : ow_MS} {A : rn_L} {sg : Nat → Bool} {S : List Nat → Prop}
theorem o1_ok {g k : Nat} (hok : okF A.flatten c) (hA : A.length ≤ 6) (h20 : A.flatten.length ≤ 24) (hg : isG A g) (hk : k < 4) : okF (bldA A (insG g 1000 [(c, k % 2), (c, 1 - k % 2)] [])).flatten (c + 1) := by
  have hlt := isG_lt hg
  have h9 : ¬ 1000 ∈ gpsA A A.length := fun h => by
    have := isG_lt (gps_mem.mp h)
    omega
  have p := bld_perm (h := 1000) (P0 := [(c, k % 2), (c, 1 - k % 2)]) (P1 := []) hg
  rw [if_neg h9, List.append_nil] at p
  exact okF_pm p (okB_F hok (okB_two (by omega)))
theorem xr_oneComes (hΦ : snkF Φ) (hn : mw_net n) (hn3 : n ≠ 3000) (hok : okF A.flatten c) (hV : A.flatten.length ≤ 22) (hL : L + 4 * (A.flatten.length + A.length) ≤ 2700) (hO : oNet z n A sg) (h : Φ z S L) : Te (fun K => qe_X13_oneComes K n z) (fun z1 => (∃ S', adS S S' (O1 A sg c) ∧ Φ z1 S' (L + 4 * (A.flatten.length + A.length))) ∧ fr frB z z1) := by
  have hmn := net_mod hn
  have hC := hO.2.2.2
  have hVc := okF_len hok
  obtain ⟨V, hVe⟩ : ∃ V, V = A.flatten.length := ⟨_, rfl⟩
  let O : Nat → Nat → rn_L → (Nat → Bool) → Prop := fun g0 k0 A' sg' => ∃ g k, isG A g ∧ (g < g0 ∧ k < 4 ∨ g = g0 ∧ k < k0) ∧ k < 4 ∧ A' = bldA A (insG g 1000 [(c, k % 2), (c, 1 - k % 2)] []) ∧ sg' = fun i => if i = c then decide (2 ≤ k) else sg i
  let Q : ow_MS → Prop := fun z1 => (∃ S', adS S S' (O1 A sg c) ∧ Φ z1 S' (L + 4 * (A.flatten.length + A.length))) ∧ fr frB z z1
  have ed : nI A.flatten.length / 2 = nI c := by
    rw [show nI A.flatten.length / 2 = nI (A.flatten.length / 2) from pk_div (d := 2) (by omega) (by omega) (by omega)]
    congr 1
    omega
  have outer : ∀ (d g : Nat) (y : ow_MS), g + d = V + A.length → fr frB z y → (∃ S1, adS S S1 (O g 0) ∧ Φ y S1 (L + 4 * g)) → Tt (fun K i => q_X13_oneComes K i 1 (nI c) (nI g) 0 n 0 0 y) Q := by
    intro d
    induction d with
    | zero =>
      intro g y hg hf ⟨S1, a1, a2⟩
      have o2 := oNet_B hn hn3 hf hO
      refine u_X13_oneComes_1 ?_; unfold qm_X13_oneComes_1
      refine w_rdF o2.1.V (w_rdF (lk_C o2.1) ?_)
      rw [nI_add]
      refine w_leT (by omega) (by omega) (w_some ⟨⟨S1, adS_eq a1 (fun A' sg' => ?_), hΦ.2.2 _ _ _ _ (by omega) a2⟩, hf⟩)
      constructor
      · rintro ⟨g1, k1, h1, -, h3, h4, h5⟩
        exact ⟨g1, k1, h1, h3, h4, h5⟩
      · rintro ⟨g1, k1, h1, h3, h4, h5⟩
        have := isG_lt h1
        exact ⟨g1, k1, h1, Or.inl ⟨by omega, h3⟩, h3, h4, h5⟩
    | succ d ih =>
      intro g y hg hf h0
      have c4 : ∀ (x4 : Int32) (y : ow_MS), fr frB z y → (∃ S1, adS S S1 (O (g + 1) 0) ∧ Φ y S1 (L + 4 * (g + 1))) → Tt (fun K i => q_X13_oneComes K i 4 (nI c) (nI g) x4 n 0 0 y) Q := by
        intro x4 y hf ho
        refine u_X13_oneComes_4 ?_; unfold qm_X13_oneComes_4
        rw [nI_1]
        exact ih (g + 1) y (by omega) hf ho
      have inn : ∀ (d k : Nat) (y : ow_MS), k + d = 4 → fr frB z y → (∃ S1, adS S S1 (O g k) ∧ Φ y S1 (L + 4 * g + k)) → Tt (fun K i => q_X13_oneComes K i 2 (nI c) (nI g) (nI k) n 0 0 y) Q := by
        intro d
        induction d with
        | zero =>
          intro k y hk hf ⟨S1, a1, a2⟩
          have hk4 : k = 4 := by omega
          subst hk4
          refine u_X13_oneComes_2 ?_; unfold qm_X13_oneComes_2
          refine w_leT (a := 4) (by omega) (by omega) (c4 _ y hf ⟨S1, adS_eq a1 (fun A' sg' => ?_), hΦ.2.2 _ _ _ _ (by omega) a2⟩)
          constructor
          · rintro ⟨g1, k1, h1, h2, h3⟩
            exact ⟨g1, k1, h1, by omega, h3⟩
          · rintro ⟨g1, k1, h1, h2, h3⟩
            exact ⟨g1, k1, h1, by omega, h3⟩
        | succ d ihd =>
          intro k y hk hf ⟨S1, a1, a2⟩
          have o2 := oNet_B hn hn3 hf hO
          refine u_X13_oneComes_2 ?_; unfold qm_X13_oneComes_2
          refine w_leF (a := 4) (by omega) (by omega) (w_cs1 (tp_isGap hn o2 (by omega)) (fun a y9 ⟨e, h9⟩ => ?_))
          have e : y9 = y := e
          subst e
          rcases h9 with ⟨h9, hng⟩ | ⟨h9, hig⟩
          · have h9 : a = 0 := h9
            refine w_ifT h9 (c4 _ y9 hf ⟨S1, adS_eq a1 (fun A' sg' => ?_), hΦ.2.2 _ _ _ _ (by omega) a2⟩)
            constructor
            · rintro ⟨g1, k1, h1, h2, h3⟩
              exact ⟨g1, k1, h1, by omega, h3⟩
            · rintro ⟨g1, k1, h1, h2, h3⟩
              refine ⟨g1, k1, h1, ?_, h3⟩
              by_cases eg : g1 = g
              · rw [eg] at h1
                exact absurd h1 hng
              · omega
          · have h9 : a = 1 := h9
            refine w_ifF (by rw [h9]; decide) ?_
            rw [rn_and1 (by omega), show (1 : Int32) - nI (k % 2) = nI (1 - k % 2) from pk_sub (a := 1) (by omega)]
            refine w_cs0 (tp_put (i := 0) (by omega)) (fun y1 e1 => w_cs0 (tp_put (i := 1) (by omega)) (fun y2 e2 => ?_))
            subst e1
            subst e2
            have f31 : fr (fun g => g = 31 ∨ g = 32) y9 (usI (usI (usI (usI y9 31 0 (nI c)) 32 0 (nI (k % 2))) 31 1 (nI c)) 32 1 (nI (1 - k % 2))) := fr_I2 (fr_I2 (fr_I2 (fr_I (Or.inl rfl)) (Or.inr rfl)) (Or.inl rfl)) (Or.inr rfl)
            have o3 := oNet_fr f31 (fun g hg => by omega) o2
            refine w_cs0 (xr_build (g := g) (h := 1000) (p0 := (c, k % 2)) (p1 := (c, 1 - k % 2)) (p2 := (0, 0)) (p3 := (0, 0)) hn hn3 o3 (by omega) (Or.inr rfl) neg_x3 ⟨rd_ot (by decide) (rd_ne (by decide) (rd_ot (by decide) po_usI_at)), rd_ne (by decide) (rd_ot (by decide) po_usI_at), rd_ot (by decide) po_usI_at, po_usI_at⟩ (fun h8 => by omega)) (fun y3 ⟨b3, f3, s3⟩ => ?_)
            have eb : bldA A (insG g 1000 [(c, k % 2), (c, 1 - k % 2)] [(0, 0), (0, 0)]) = bldA A (insG g 1000 [(c, k % 2), (c, 1 - k % 2)] []) := bldA_cg (fun gp hgp => by
              unfold insG
              rw [if_neg (show ¬ gp = 1000 by omega), if_neg (show ¬ gp = 1000 by omega)])
            rw [eb] at b3
            have ok1 := o1_ok hok hC (by omega) hig (show k < 4 by omega)
            have hl1 := okF_len ok1
            have lenA : (bldA A (insG g 1000 [(c, k % 2), (c, 1 - k % 2)] [])).length = A.length := by
              unfold bldA
              rw [List.length_map, List.length_range]
            have fin : ∀ t0 : Int32, t0 = (if decide (2 ≤ k) = true then -1 else 1) → Tt (fun K i => q_X13_oneComes K i 3 (nI c) (nI g) (nI k) n t0 (nI c) y3) Q := by
              intro t0 ht0
              have F3 : fr (fun g => 31 ≤ g ∧ g ≤ 34 ∨ 1000 ≤ g) y9 (usI y3 3006 c t0) := fr_I2 (fr_tr (fr_mono (fun g hg => by omega) f31) (fr_mono (fun g hg => by omega) f3)) (by omega)
              have FB : fr frB z (usI y3 3006 c t0) := fr_I2 (fr_tr hf (fr_tr (fr_mono (fun g hg => by unfold frB; omega) f31) (fr_mono (fun g hg => by unfold frB; omega) f3))) (by unfold frB; omega)
              refine u_X13_oneComes_3 ?_; unfold qm_X13_oneComes_3
              rw [nI_1]
              refine w_wrI (pl6 pn3) rfl (by omega) (w_cs0 (hΦ.2.1 _ S1 _ _ (fun i => if i = c then decide (2 ≤ k) else sg i) (by omega) (hΦ.1 _ _ _ _ _ F3 (fun g hg => hg) a2) (fr_At (P := fun g => g = 3006) (fr_I rfl) (fun g hg => by omega) b3) (fun p hp => ?_) (okF_wk (by omega) ok1) (by omega) (by rw [lenA]; exact hC)) (fun y5 ⟨⟨S2, k0, k1⟩, k2⟩ => ihd (k + 1) y5 (by omega) (fr_tr FB (fr_mono (fun g hg => by unfold frO at hg; unfold frB; omega) k2)) ⟨S2, adS_eq (adS_tr a1 k0) (fun A' sg' => ?_), hΦ.2.2 _ _ _ _ (by omega) k1⟩))
              · have hp1 := ((ok1.2 p).mp hp).1
                show (usI y3 3006 c t0).2.1 3006 p.1 = if (if p.1 = c then decide (2 ≤ k) else sg p.1) = true then -1 else 1
                by_cases ep : p.1 = c
                · rw [ep, if_pos rfl, po_usI_at]
                  exact ht0
                · rw [if_neg ep]
                  refine rd_ne ep ?_
                  rw [s3 p.1 (by omega)]
                  exact o3.2.1 (p.1, 0) ((hok.2 _).mpr ⟨by show p.1 < c; omega, by show 0 < 2; omega⟩)
              · constructor
                · rintro (⟨g1, k1, h1, h2, h3⟩ | ⟨e1, e2⟩)
                  · exact ⟨g1, k1, h1, by omega, h3⟩
                  · exact ⟨g, k, hig, by omega, by omega, e1, e2⟩
                · rintro ⟨g1, k1, h1, h2, h3, h4, h5⟩
                  by_cases eg : g1 = g ∧ k1 = k
                  · rw [eg.1, eg.2] at h4
                    rw [eg.2] at h5
                    exact Or.inr ⟨h4, h5⟩
                  · exact Or.inl ⟨g1, k1, h1, by omega, h3, h4, h5⟩
            refine w_le (a := 2) (by omega) (by omega) (fun h8 => fin (-1) ?_) (fun h8 => fin 1 ?_)
            · rw [decide_eq_true h8]
              rfl
            · rw [decide_eq_false (by omega)]
              rfl
      have o2 := oNet_B hn hn3 hf hO
      refine u_X13_oneComes_1 ?_; unfold qm_X13_oneComes_1
      refine w_rdF o2.1.V (w_rdF (lk_C o2.1) ?_)
      rw [nI_add]
      exact w_leF (by omega) (by omega) (inn 4 0 y (by omega) hf h0)
  refine e_X13_oneComes ?_
  refine u_X13_oneComes_0 ?_; unfold qm_X13_oneComes_0
  refine w_rdF hO.1.V (w_nzI (by decide) ?_)
  rw [ed]
  refine outer (V + A.length) 0 z (by omega) fr_rf ⟨S, adS_eq adS_rf (fun A' sg' => ⟨fun h9 => h9.elim, ?_⟩), h⟩
  rintro ⟨g1, k1, -, h2, -⟩
  omega
/-! two come -/
theorem t3_ok {g h k : Nat} (hok : okF A.flatten c) (hg : isG A g) (hh : isG A h) (hk : k < 8) : okF (t3A A c g h k).flatten (c + 2) := by
  have p := bld_perm (h := h) (P0 := t3P c k) (P1 := t3Q c k) hg
  rw [if_pos (gps_mem.mpr hh)] at p
  exact okF_pm p (okB_F hok (two_ok (a := k % 2) (b := k / 2 % 2) (u := k / 4) (by omega) (by omega) (by omega)))
theorem t3_len {g h k : Nat} : (t3A A c g h k).length = A.length := by
  unfold t3A bldA
  rw [List.length_map, List.length_range]
theorem xr_twoAt {g h k : Nat} (hΦ : snkF Φ) (hn : mw_net n) (hn3 : n ≠ 3000) (hok : okF A.flatten c) (hV : A.flatten.length ≤ 20) (hL : L < 2700) (hg : isG A g) (hh : isG A h) (ht : k < 8) (hO : oNet z n A sg) (hP : Φ z S L) : Te (fun K => qe_X13_twoAt K n (nI g) (nI h) (nI k) z) (fun z1 => (∃ S', adS S S' (fun A' sg' => A' = t3A A c g h k ∧ sg' = t3S sg c ∧ plnA A' sg') ∧ Φ z1 S' (L + 1)) ∧ fr frC z z1) := by
  have hmn := net_mod hn
  have hC := hO.2.2.2
  have hVc := okF_len hok
  have hgb := isG_lt hg
  have hhb := isG_lt hh
  have ok3 := t3_ok (k := k) hok hg hh ht
  have hl3 := okF_len ok3
  have hle3 := t3_len (A := A) (c := c) (g := g) (h := h) (k := k)
  let Q : ow_MS → Prop := fun z1 => (∃ S', adS S S' (fun A' sg' => A' = t3A A c g h k ∧ sg' = t3S sg c ∧ plnA A' sg') ∧ Φ z1 S' (L + 1)) ∧ fr frC z z1
  obtain ⟨u, hu⟩ : ∃ u, u = k / 4 := ⟨_, rfl⟩
  have hu2 : u < 2 := by omega
  obtain ⟨q0, hq0⟩ : ∃ q, q = (if u = 0 then c + k % 2 else c + k / 2 % 2) := ⟨_, rfl⟩
  obtain ⟨q1, hq1⟩ : ∃ q, q = (if u = 0 then 2 * c + 1 - (c + k % 2) else 2 * c + 1 - (c + k / 2 % 2)) := ⟨_, rfl⟩
  obtain ⟨q2, hq2⟩ : ∃ q, q = (if u = 0 then c + k / 2 % 2 else c + k % 2) := ⟨_, rfl⟩
  obtain ⟨q3, hq3⟩ : ∃ q, q = (if u = 0 then 2 * c + 1 - (c + k / 2 % 2) else 2 * c + 1 - (c + k % 2)) := ⟨_, rfl⟩
  have eP : t3P c k = [(q0, u), (q1, u)] := by rw [hq0, hq1, hu]; rfl
  have eQ : t3Q c k = [(q2, 1 - u), (q3, 1 - u)] := by rw [hq2, hq3, hu]; rfl
  have c4 : ∀ (y : ow_MS) (x6 x7 x8 x9 t0 : Int32), fr (fun g => g = 31 ∨ g = 32) z y → y.2.1 31 0 = nI q0 → y.2.1 32 0 = nI u → y.2.1 31 1 = nI q1 → y.2.1 32 1 = nI u → y.2.1 31 2 = nI q2 → y.2.1 32 2 = nI (1 - u) → t0 = nI q3 → Tt (fun K i => q_X13_twoAt K i 4 (nI g) (nI h) (nI k) (nI c) x6 x7 x8 x9 (nI u) n t0 3 y) Q := by
    intro y x6 x7 x8 x9 t0 hf p0 r0 p1 r1 p2 r2 ht0
    refine u_X13_twoAt_4 ?_; unfold qm_X13_twoAt_4
    rw [show (1 : Int32) - nI u = nI (1 - u) from pk_sub (a := 1) (by omega), nI_1]
    refine w_cs0 (tp_put (i := 3) (by omega)) (fun y2 e2 => ?_)
    subst e2
    have f31 : fr (fun g => g = 31 ∨ g = 32) z (usI (usI y 31 3 t0) 32 3 (nI (1 - u))) := fr_I2 (fr_I2 hf (Or.inl rfl)) (Or.inr rfl)
    have o3 := oNet_fr f31 (fun g hg => by omega) hO
    refine w_cs0 (xr_build (g := g) (h := h) (p0 := (q0, u)) (p1 := (q1, u)) (p2 := (q2, 1 - u)) (p3 := (q3, 1 - u)) hn hn3 o3 (by omega) (Or.inl (by omega)) (fun k hk => nI_eq (by omega) (by omega)) ⟨rd_ot (by decide) (rd_ne (by decide) p0), rd_ne (by decide) (rd_ot (by decide) r0), rd_ot (by decide) (rd_ne (by decide) p1), rd_ne (by decide) (rd_ot (by decide) r1)⟩ (fun _ => ⟨rd_ot (by decide) (rd_ne (by decide) p2), rd_ne (by decide) (rd_ot (by decide) r2), rd_ot (by decide) (po_usI_at.trans ht0), po_usI_at⟩)) (fun y3 ⟨b3, f3, s3⟩ => ?_)
    rw [← eP, ← eQ] at b3
    have b3 : rn_At y3 3000 (t3A A c g h k) [] := b3
    refine w_wrI (pl6 pn3) rfl (by omega) (w_wrI (pl6 pn3) rfl (by omega) ?_)
    obtain ⟨y4, hy4⟩ : ∃ y4, y4 = usI (usI y3 3006 c 1) 3006 (c + 1) (-1) := ⟨_, rfl⟩
    have f4 : fr (fun g => g = 3006) y3 y4 := by rw [hy4]; exact fr_I2 (fr_I rfl) rfl
    have b4 : rn_At y4 3000 (t3A A c g h k) [] := fr_At f4 (fun g hg => by omega) b3
    have sg4 : rn_sg y4 3000 (t3A A c g h k).flatten (t3S sg c) := fun p hp => by
      have hp1 := ((ok3.2 p).mp hp).1
      show y4.2.1 3006 p.1 = if t3S sg c p.1 = true then -1 else 1
      unfold t3S
      rw [hy4]
      by_cases ep : p.1 = c
      · rw [ep, if_pos rfl]
        exact rd_ne (by omega) po_usI_at
      · rw [if_neg ep]
        by_cases ep2 : p.1 = c + 1
        · rw [ep2, if_pos rfl]
          exact po_usI_at
        · rw [if_neg ep2]
          refine rd_ne ep2 (rd_ne ep ?_)
          rw [s3 p.1 (by omega)]
          exact o3.2.1 (p.1, 0) ((hok.2 _).mpr ⟨by show p.1 < c; omega, by show 0 < 2; omega⟩)
    have hwk : wkF (t3A A c g h k).flatten := okF_wk (by omega) ok3
    have F4 : fr (fun g => 31 ≤ g ∧ g ≤ 34 ∨ 1000 ≤ g) z y4 := fr_tr (fr_mono (fun g hg => by omega) f31) (fr_tr (fr_mono (fun g hg => by omega) f3) (fr_mono (fun g hg => by omega) f4))
    have C4 : fr frC z y4 := fr_tr (fr_mono (fun g hg => by unfold frC; omega) f31) (fr_tr (fr_mono (fun g hg => by unfold frC; omega) f3) (fr_mono (fun g hg => by unfold frC; omega) f4))
    obtain ⟨n1, n2, n3⟩ := netO_ok (sg := t3S sg c) ok3 (show c + 2 ≤ 12 by omega)
    rw [← hy4]
    refine w_cs0 (tn_link pn3 (by omega) (by omega) (wkF_ok hwk).1 b4) (fun y5 ⟨g1, g2, g3⟩ => ?_)
    have sg5 : rn_sg y5 3000 (t3A A c g h k).flatten (t3S sg c) := fun p hp => by
      rw [(g1 3006 (fun h8 => by have := h8.1; omega)).2.1]
      exact sg4 p hp
    refine w_cs1 (xr_plane pn3 (by omega) n1 n2 n3 ⟨g2, g3⟩ sg5) (fun v y6 ⟨k1, k2, k3⟩ => ?_)
    have k1 : v = if nt_plane (netO (t3A A c g h k) (t3S sg c) (c + 2)) = true then 1 else 0 := k1
    have k2 : fr (fun g => 3000 + 12 ≤ g ∧ g ≤ 3000 + 16) y5 y6 := k2
    have k3 : rn_lk y6 3000 (t3A A c g h k) := k3
    have F6 : fr (fun g => 31 ≤ g ∧ g ≤ 34 ∨ 1000 ≤ g) z y6 := fr_tr F4 (fr_tr (fr_mono (fun g hg => by have := hg.1; omega) g1) (fr_mono (fun g hg => by omega) k2))
    have C6 : fr frC z y6 := fr_tr C4 (fr_tr (fr_mono (fun g hg => by have := hg.1; have := hg.2; unfold frC; omega) g1) (fr_mono (fun g hg => by unfold frC; omega) k2))
    have pl := pln_net (sg := t3S sg c) ok3 (show c + 2 ≤ 12 by omega)
    have P6 := hΦ.1 _ _ _ _ _ F6 (fun g hg => hg) hP
    cases hpl : nt_plane (netO (t3A A c g h k) (t3S sg c) (c + 2)) with
    | false =>
      rw [hpl] at k1 pl
      have k1 : v = 0 := k1
      refine w_ifT k1 (w_some ⟨⟨S, adS_eq adS_rf (fun A' sg' => ⟨fun h9 => h9.elim, ?_⟩), hΦ.2.2 _ _ _ _ (by omega) P6⟩, C6⟩)
      rintro ⟨e1, e2, e3⟩
      rw [e1, e2] at e3
      have := pl.mp e3
      cases this
    | true =>
      rw [hpl] at k1 pl
      have k1 : v = 1 := k1
      refine w_ifF (by rw [k1]; decide) (w_cs0 (hΦ.2.1 y6 S L _ (t3S sg c) hL P6 k3.1 (fun p hp => ?_) hwk (by omega) (by omega)) (fun y7 ⟨⟨S2, m0, m1⟩, m2⟩ => w_some ⟨⟨S2, adS_eq m0 (fun A' sg' => ⟨fun ⟨e1, e2⟩ => ⟨e1, e2, ?_⟩, fun ⟨e1, e2, _⟩ => ⟨e1, e2⟩⟩), m1⟩, fr_tr C6 (fr_mono (fun g hg => by unfold frO at hg; unfold frC; omega) m2)⟩))
      · rw [(k2 3006 (by omega)).2.1]
        exact sg5 p hp
      · rw [e1, e2]
        exact pl.mpr rfl
  have c3 : ∀ (y : ow_MS) (x6 x7 x8 x9 t0 : Int32), (if u = 0 then x9 = nI q3 else x7 = nI q3) → fr (fun g => g = 31 ∨ g = 32) z y → y.2.1 31 0 = nI q0 → y.2.1 32 0 = nI u → y.2.1 31 1 = nI q1 → y.2.1 32 1 = nI u → t0 = nI q2 → Tt (fun K i => q_X13_twoAt K i 3 (nI g) (nI h) (nI k) (nI c) x6 x7 x8 x9 (nI u) n t0 2 y) Q := by
    intro y x6 x7 x8 x9 t0 hx hf p0 r0 p1 r1 ht0
    refine u_X13_twoAt_3 ?_; unfold qm_X13_twoAt_3
    rw [show (1 : Int32) - nI u = nI (1 - u) from pk_sub (a := 1) (by omega)]
    refine w_cs0 (tp_put (i := 2) (by omega)) (fun y2 e2 => ?_)
    subst e2
    have f31 : fr (fun g => g = 31 ∨ g = 32) z (usI (usI y 31 2 t0) 32 2 (nI (1 - u))) := fr_I2 (fr_I2 hf (Or.inl rfl)) (Or.inr rfl)
    refine w_eqN (b := 0) (by omega) (by omega) (fun h9 => ?_) (fun h9 => ?_)
    · rw [if_pos h9] at hx
      exact c4 _ _ _ _ _ _ f31 (rd_ot (by decide) (rd_ne (by decide) p0)) (rd_ne (by decide) (rd_ot (by decide) r0)) (rd_ot (by decide) (rd_ne (by decide) p1)) (rd_ne (by decide) (rd_ot (by decide) r1)) (rd_ot (by decide) (po_usI_at.trans ht0)) po_usI_at hx
    · rw [if_neg h9] at hx
      exact c4 _ _ _ _ _ _ f31 (rd_ot (by decide) (rd_ne (by decide) p0)) (rd_ne (by decide) (rd_ot (by decide) r0)) (rd_ot (by decide) (rd_ne (by decide) p1)) (rd_ne (by decide) (rd_ot (by decide) r1)) (rd_ot (by decide) (po_usI_at.trans ht0)) po_usI_at hx
  have c2 : ∀ (y : ow_MS) (x6 x7 x8 x9 t0 : Int32), (if u = 0 then x9 = nI q3 else x7 = nI q3) → (if u = 0 then x8 = nI q2 else x6 = nI q2) → fr (fun g => g = 31 ∨ g = 32) z y → y.2.1 31 0 = nI q0 → y.2.1 32 0 = nI u → t0 = nI q1 → Tt (fun K i => q_X13_twoAt K i 2 (nI g) (nI h) (nI k) (nI c) x6 x7 x8 x9 (nI u) n t0 1 y) Q := by
    intro y x6 x7 x8 x9 t0 hx hx2 hf p0 r0 ht0
    refine u_X13_twoAt_2 ?_; unfold qm_X13_twoAt_2
    refine w_cs0 (tp_put (i := 1) (by omega)) (fun y2 e2 => ?_)
    subst e2
    have f31 : fr (fun g => g = 31 ∨ g = 32) z (usI (usI y 31 1 t0) 32 1 (nI u)) := fr_I2 (fr_I2 hf (Or.inl rfl)) (Or.inr rfl)
    refine w_eqN (b := 0) (by omega) (by omega) (fun h9 => ?_) (fun h9 => ?_)
    · rw [if_pos h9] at hx2
      exact c3 _ _ _ _ _ _ hx f31 (rd_ot (by decide) (rd_ne (by decide) p0)) (rd_ne (by decide) (rd_ot (by decide) r0)) (rd_ot (by decide) (po_usI_at.trans ht0)) po_usI_at hx2
    · rw [if_neg h9] at hx2
      exact c3 _ _ _ _ _ _ hx f31 (rd_ot (by decide) (rd_ne (by decide) p0)) (rd_ne (by decide) (rd_ot (by decide) r0)) (rd_ot (by decide) (po_usI_at.trans ht0)) po_usI_at hx2
  have c1 : ∀ (x6 x7 x8 x9 t0 : Int32), (if u = 0 then x9 = nI q3 else x7 = nI q3) → (if u = 0 then x8 = nI q2 else x6 = nI q2) → (if u = 0 then x7 = nI q1 else x9 = nI q1) → t0 = nI q0 → Tt (fun K i => q_X13_twoAt K i 1 (nI g) (nI h) (nI k) (nI c) x6 x7 x8 x9 (nI u) n t0 0 z) Q := by
    intro x6 x7 x8 x9 t0 hx hx2 hx3 ht0
    refine u_X13_twoAt_1 ?_; unfold qm_X13_twoAt_1
    refine w_cs0 (tp_put (i := 0) (by omega)) (fun y2 e2 => ?_)
    subst e2
    have f31 : fr (fun g => g = 31 ∨ g = 32) z (usI (usI z 31 0 t0) 32 0 (nI u)) := fr_I2 (fr_I (Or.inl rfl)) (Or.inr rfl)
    refine w_eqN (b := 0) (by omega) (by omega) (fun h9 => ?_) (fun h9 => ?_)
    · rw [if_pos h9] at hx3
      exact c2 _ _ _ _ _ _ hx hx2 f31 (rd_ot (by decide) (po_usI_at.trans ht0)) po_usI_at hx3
    · rw [if_neg h9] at hx3
      exact c2 _ _ _ _ _ _ hx hx2 f31 (rd_ot (by decide) (po_usI_at.trans ht0)) po_usI_at hx3
  have ed : nI A.flatten.length / 2 = nI c := by
    rw [show nI A.flatten.length / 2 = nI (A.flatten.length / 2) from pk_div (d := 2) (by omega) (by omega) (by omega)]
    congr 1
    omega
  have e1 : nI k &&& 1 = nI (k % 2) := rn_and1 (by omega)
  have e2 : nI k >>> ((1 : Int32) &&& 31) = nI (k / 2) := rn_shr1 (by omega)
  have e3 : nI k >>> ((2 : Int32) &&& 31) = nI u := by rw [hu]; exact pk_shrN (n := k) (by omega) ((2 : Int32) &&& 31) 2 (by decide)
  have e4 : nI (k / 2) &&& 1 = nI (k / 2 % 2) := rn_and1 (by omega)
  refine e_X13_twoAt ?_
  refine u_X13_twoAt_0 ?_; unfold qm_X13_twoAt_0
  refine w_rdF hO.1.V (w_nzI (by decide) ?_)
  rw [ed, e1, e2, e3, e4, nI_add, nI_add, rn_mul2, nI_1, pk_sub (show c + k % 2 ≤ 2 * c + 1 by omega), pk_sub (show c + k / 2 % 2 ≤ 2 * c + 1 by omega)]
  refine w_eqN (b := 0) (by omega) (by omega) (fun h9 => ?_) (fun h9 => ?_)
  · rw [if_pos h9] at hq0 hq1 hq2 hq3
    refine c1 _ _ _ _ _ ?_ ?_ ?_ ?_
    · rw [if_pos h9, hq3]
    · rw [if_pos h9, hq2]
    · rw [if_pos h9, hq1]
    · rw [hq0]
  · rw [if_neg h9] at hq0 hq1 hq2 hq3
    refine c1 _ _ _ _ _ ?_ ?_ ?_ ?_
    · rw [if_neg h9, hq3]
    · rw [if_neg h9, hq2]
    · rw [if_neg h9, hq1]
    · rw [hq0]
end XK1
end
