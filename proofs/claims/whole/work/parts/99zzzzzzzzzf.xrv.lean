/-! exact calls of the reference: reverse -/
def tLL (t : Bool) (L : List (Nat × Nat)) : List (Nat × Nat) := if t then L.reverse else L
def rvX (τ : Nat → Bool) (A : rn_L) (m : Nat) : rn_L := (List.range m).map (fun k => tLL (τ k) (A.getD k []))
theorem rvX_s {τ : Nat → Bool} {A : rn_L} {m : Nat} : rvX τ A (m + 1) = rvX τ A m ++ [tLL (τ m) (A.getD m [])] := by
  unfold rvX
  rw [List.range_succ, List.map_append]
  rfl
theorem tLL_len {t : Bool} {L : List (Nat × Nat)} : (tLL t L).length = L.length := by
  unfold tLL
  split
  · exact List.length_reverse
  · rfl
theorem gD_len {A : rn_L} {m : Nat} (hm : m < A.length) : (A.getD m []).length = rn_b A (m + 1) - rn_b A m := by
  have hb := rnb_s hm
  rw [List.getD_eq_getElem?_getD, List.getElem?_eq_getElem hm]
  show (A[m]).length = _
  omega
theorem rvX_len {τ : Nat → Bool} {A : rn_L} : ∀ {m : Nat}, m ≤ A.length → (rvX τ A m).flatten.length = rn_b A m
  | 0, _ => rfl
  | m + 1, h => by
    rw [rvX_s, List.flatten_append, List.length_append, rvX_len (by omega)]
    show rn_b A m + ([tLL (τ m) (A.getD m [])].flatten).length = _
    have h2 := gD_len (show m < A.length by omega)
    have h3 := rn_b_mono A m
    rw [List.flatten_cons, List.flatten_nil, List.append_nil, tLL_len, h2]
    omega
theorem tLL_at {A : rn_L} {t : Bool} {m i v : Nat} (hm : m < A.length) (hi : i < rn_b A (m + 1) - rn_b A m) (hv : v = if t then rn_b A (m + 1) - 1 - i else rn_b A m + i) : (tLL t (A.getD m []))[i]? = some (vAt A v) := by
  have hl := gD_len hm
  cases t with
  | false =>
    have hv : v = rn_b A m + i := hv
    have := cmp_at hm (show rn_b A m ≤ v by omega) (by omega)
    rw [show v - rn_b A m = i by omega] at this
    exact this
  | true =>
    have hv : v = rn_b A (m + 1) - 1 - i := hv
    have := cmp_at hm (show rn_b A m ≤ v by omega) (by omega)
    show (A.getD m []).reverse[i]? = _
    rw [List.getElem?_reverse (by omega), ← this]
    congr 1
    omega
theorem rc_mem {A : rn_L} {v : Nat} (hv : v < A.flatten.length) : rn_c A v < A.length ∧ vAt A v ∈ A.getD (rn_c A v) [] := by
  obtain ⟨h1, h2, h3⟩ := rn_c_in A v hv
  exact ⟨h1, List.mem_of_getElem? (cmp_at h1 h2 h3)⟩
theorem rc_idx {A : rn_L} (hn : A.flatten.Nodup) {v : Nat} (hv : v < A.flatten.length) : cidx A (vAt A v) = rn_c A v := by
  obtain ⟨h1, h2⟩ := rc_mem hv
  rw [List.getD_eq_getElem?_getD, List.getElem?_eq_getElem h1] at h2
  exact cidx_of hn h1 h2
/-- which components turn -/
def tauC (x : Int32) (k : Nat) : Bool := decide (x = -1) || decide (x = nI k)
def sgT (τ : Nat → Bool) (A : rn_L) (sg : Nat → Bool) (x : Nat) : Bool := if (τ (cidx A (x, 0)) != τ (cidx A (x, 1))) = true then !sg x else sg x
def cokC (A : rn_L) (x : Int32) : Prop := x = -1 ∨ ∃ k, k < A.length ∧ x = nI k
theorem tLL_mem {t : Bool} {L : List (Nat × Nat)} {p : Nat × Nat} : p ∈ tLL t L ↔ p ∈ L := by
  unfold tLL
  split
  · exact List.mem_reverse
  · exact Iff.rfl
theorem rvX_perm {τ : Nat → Bool} {A : rn_L} : (rvX τ A A.length).flatten.Perm A.flatten := by
  have key : ∀ m, m ≤ A.length → (rvX τ A m).flatten.Perm (A.take m).flatten := by
    intro m
    induction m with
    | zero => intro _; exact List.Perm.refl _
    | succ m ih =>
      intro h
      rw [rvX_s, tk_snoc (show m < A.length by omega), List.flatten_append, List.flatten_append]
      refine (ih (by omega)).append ?_
      rw [List.flatten_cons, List.flatten_nil, List.append_nil, List.flatten_cons, List.flatten_nil, List.append_nil]
      unfold tLL
      split
      · exact List.reverse_perm _
      · exact List.Perm.refl _
  have := key A.length (Nat.le_refl _)
  rw [List.take_length] at this
  exact this
theorem wkF_perm {F G : List (Nat × Nat)} (h : F.Perm G) (hG : wkF G) : wkF F := ⟨h.nodup_iff.mpr hG.1, fun p hp => by
  obtain ⟨a1, a2, a3⟩ := hG.2 p (h.mem_iff.mp hp)
  exact ⟨a1, a2, h.mem_iff.mpr a3⟩⟩
theorem vis_two {A : rn_L} (hF : wkF A.flatten) {v : Nat} (hv : v < A.flatten.length) : ∃ v0 v1, v0 < A.flatten.length ∧ v1 < A.flatten.length ∧ vAt A v0 = (crs A v, 0) ∧ vAt A v1 = (crs A v, 1) ∧ mtf A v0 = v1 ∧ mtf A v1 = v0 ∧ ∀ u, u < A.flatten.length → crs A u = crs A v → u = v0 ∨ u = v1 := by
  have hd := wkF_ok hF
  have hm := vAt_mem hv
  have hu := hF.2 _ hm
  have both : (crs A v, 0) ∈ A.flatten ∧ (crs A v, 1) ∈ A.flatten := by
    have e : vAt A v = (crs A v, uns A v) := rfl
    rw [e] at hm hu
    have h2 : uns A v < 2 := hu.2.1
    have h3 : (crs A v, 1 - uns A v) ∈ A.flatten := hu.2.2
    rcases (show uns A v = 0 ∨ uns A v = 1 by omega) with h9 | h9
    · rw [h9] at hm h3
      exact ⟨hm, h3⟩
    · rw [h9] at hm h3
      exact ⟨h3, hm⟩
  obtain ⟨v0, a1, a2⟩ := mem_vAt both.1
  obtain ⟨v1, b1, b2⟩ := mem_vAt both.2
  have all : ∀ u, u < A.flatten.length → crs A u = crs A v → u = v0 ∨ u = v1 := fun u hu9 e => by
    have h2 : uns A u < 2 := (hF.2 _ (vAt_mem hu9)).2.1
    have eu : vAt A u = (crs A v, uns A u) := by rw [← e]; rfl
    rcases (show uns A u = 0 ∨ uns A u = 1 by omega) with h9 | h9
    · left
      rw [h9] at eu
      exact nodup_at hF.1 (vAt_of hu9) (by rw [vAt_of a1, a2, eu])
    · right
      rw [h9] at eu
      exact nodup_at hF.1 (vAt_of hu9) (by rw [vAt_of b1, b2, eu])
  have c0 : crs A v0 = crs A v := by show (vAt A v0).1 = _; rw [a2]
  have c1 : crs A v1 = crs A v := by show (vAt A v1).1 = _; rw [b2]
  refine ⟨v0, v1, a1, b1, a2, b2, ?_, ?_, all⟩
  · exact (all _ (mtf_lt hd a1) ((crs_mtf hd a1).trans c0)).resolve_left (mtf_ne hd a1)
  · exact (all _ (mtf_lt hd b1) ((crs_mtf hd b1).trans c1)).resolve_right (mtf_ne hd b1)
theorem sgT_fl {A : rn_L} {c : Int32} (hF : wkF A.flatten) (h39 : A.length ≤ 39) {v : Nat} (hv : v < A.flatten.length) : (∃ u, u < A.flatten.length ∧ crs A u = crs A v ∧ c ≠ -1 ∧ c = nI (rn_c A u) ∧ rn_c A (mtf A u) ≠ rn_c A u) ↔ (tauC c (cidx A (crs A v, 0)) != tauC c (cidx A (crs A v, 1))) = true := by
  obtain ⟨v0, v1, a1, b1, a2, b2, m0, m1, all⟩ := vis_two hF hv
  have i0 := rc_idx hF.1 a1
  have i1 := rc_idx hF.1 b1
  rw [a2] at i0
  rw [b2] at i1
  rw [i0, i1]
  have l0 := (rc_mem a1).1
  have l1 := (rc_mem b1).1
  have c0 : crs A v0 = crs A v := by show (vAt A v0).1 = _; rw [a2]
  have c1 : crs A v1 = crs A v := by show (vAt A v1).1 = _; rw [b2]
  have tt : ∀ k, c ≠ -1 → tauC c k = decide (c = nI k) := fun k h9 => by
    unfold tauC
    rw [decide_eq_false h9, Bool.false_or]
  constructor
  · rintro ⟨u, u1, u2, u3, u4, u5⟩
    rcases all u u1 u2 with rfl | rfl
    · rw [m0] at u5
      rw [tt _ u3, tt _ u3, decide_eq_true u4, decide_eq_false (fun h9 => u5 (nI_inj9 (by omega) (by omega) (h9.symm.trans u4)))]
      rfl
    · rw [m1] at u5
      rw [tt _ u3, tt _ u3, decide_eq_true u4, decide_eq_false (fun h9 => u5 (nI_inj9 (by omega) (by omega) (h9.symm.trans u4)))]
      rfl
  · intro hne
    have u3 : c ≠ -1 := fun h9 => by
      unfold tauC at hne
      rw [decide_eq_true h9] at hne
      cases hne
    rw [tt _ u3, tt _ u3] at hne
    by_cases e0 : c = nI (rn_c A v0)
    · refine ⟨v0, a1, c0, u3, e0, fun e => ?_⟩
      rw [m0] at e
      rw [e, decide_eq_true e0] at hne
      cases hne
    · by_cases e1 : c = nI (rn_c A v1)
      · refine ⟨v1, b1, c1, u3, e1, fun e => ?_⟩
        rw [m1] at e
        rw [e, decide_eq_true e1] at hne
        cases hne
      · rw [decide_eq_false e0, decide_eq_false e1] at hne
        cases hne
section XV
variable {X : (Nat → Nat → Int32) → Prop} {z : ow_MS} {St : plT}
theorem xq_reverse {x c : Int32} (h : gI X z) (hR : relR z St) : Te (fun K => qe_X13_reverse K x c z) (fun r => rFl X z 1 r ∧ (∀ d, d < 40 → x = nI d → St d = none) ∨ ∃ d A sg, d < 40 ∧ x = nI d ∧ St d = some (A, sg) ∧ (rFl X z 1 r ∧ ¬ cokC A c ∨ cokC A c ∧ (rFl X z 2 r ∧ allF St ∨ ∃ e, lstF St e ∧ rKp X z e (rvX (tauC c) A A.length) (sgT (tauC c) A sg) r))) := by
  let Q : Int32 × ow_MS → Prop := fun r => rFl X z 1 r ∧ (∀ d, d < 40 → x = nI d → St d = none) ∨ ∃ d A sg, d < 40 ∧ x = nI d ∧ St d = some (A, sg) ∧ (rFl X z 1 r ∧ ¬ cokC A c ∨ cokC A c ∧ (rFl X z 2 r ∧ allF St ∨ ∃ e, lstF St e ∧ rKp X z e (rvX (tauC c) A A.length) (sgT (tauC c) A sg) r))
  have h1 := gI_1 (c := 0) h
  have hR1 := relR_1 (c := 0) hR
  refine e_X13_reverse ?_
  refine u_X13_reverse_0 ?_; unfold qm_X13_reverse_0
  refine w_wrF (w_hasX hR1 (fun h0 => w_ifT rfl (w_mono (w_failX h1 fr_1) (fun r hr => Or.inl ⟨hr, h0⟩))) (fun e A sg he hx hs hv hne => w_ifF (by decide) ?_))
  subst hx
  refine w_cs0 (to_open pn1 he hv) (fun z2 ⟨o1, f1⟩ => ?_)
  have h2 : gI X z2 := gI_net pn1 f1 (fun g hg => by omega) h1
  have hl := o1.len
  have hd := wkF_ok o1.wk
  have hC := o1.2.2.2
  have f02 : fr rPs z z2 := fr_tr fr_1 (fr_mono (fun g hg => Or.inr (by unfold rSc; omega)) f1)
  have hR2 : relR z2 St := relR_fr f1 (by omega) hR1
  have z21 : z2.1 1 = 0 := by rw [(f1 1 (by omega)).1]; exact po_usF_at
  have fin : ∀ {r}, (rFl X z 1 r ∧ ¬ cokC A c ∨ cokC A c ∧ (rFl X z 2 r ∧ allF St ∨ ∃ e, lstF St e ∧ rKp X z e (rvX (tauC c) A A.length) (sgT (tauC c) A sg) r)) → Q r := fun hr => Or.inr ⟨e, A, sg, he, rfl, hs, hr⟩
  have c1 : ¬ cokC A c → Tt (fun K k => q_X13_reverse K k 1 (nI e) c 0 0 0 0 0 z2) Q := by
    intro hno
    refine u_X13_reverse_1 ?_; unfold qm_X13_reverse_1
    exact w_mono (w_failX (k := 1) h2 f02) (fun r hr => fin (Or.inl ⟨hr, hno⟩))
  refine w_if (fun h9 => c1 (fun hk => ?_)) (fun h8 => w_rdF (lk_C o1.1) (w_if (fun h9 => ?_) (fun h9 => c1 (fun hk => ?_))))
  · rcases hk with rfl | ⟨k, hk, rfl⟩
    · exact absurd h9 (by decide)
    · exact absurd (Int32.lt_trans h9 (show (-1 : Int32) < 0 by decide)) (nI_pos (by omega))
  rotate_left
  · rcases hk with rfl | ⟨k, hk, rfl⟩
    · exact h9 (Int32.lt_of_lt_of_le (show (-1 : Int32) < 0 by decide) (Int32.not_lt.mp (fun h7 => nI_pos (by omega) h7)))
    · exact h9 ((nI_ltI (by omega) (by omega)).mpr hk)
  have hcok : cokC A c := by
    by_cases e0 : c < 0
    · left
      have a1 : ¬ c.toInt < (-1 : Int32).toInt := fun h7 => h8 (Int32.lt_iff_toInt_lt.mpr h7)
      have a2 : c.toInt < (0 : Int32).toInt := Int32.lt_iff_toInt_lt.mp e0
      have a3 : (-1 : Int32).toInt = -1 := by decide
      have a4 : (0 : Int32).toInt = 0 := by decide
      refine Int32.toInt_inj.mp ?_
      omega
    · obtain ⟨k, k31, rfl⟩ := nI_of e0
      exact Or.inr ⟨k, (nI_ltI k31 (by omega)).mp h9, rfl⟩
  refine w_freeX hR2 (fun hall => w_ifT rfl (w_mono (w_failX (k := 2) h2 f02) (fun r hr => fin (Or.inr ⟨hcok, Or.inl ⟨hr, hall⟩⟩)))) (fun f hfr => w_ifF (rn_neg1 (by have := hfr.1; omega)) (w_cs0 (tn_clear pn3) (fun z3 ⟨b3, f3⟩ => w_cs0 (tn_signs pn3 pn1 (by omega)) (fun z4 ⟨f4, s4⟩ => ?_))))
  -- signs changed so far
  let fl : (Nat → Prop) → Nat → Prop := fun pr k => ∃ v, v < A.flatten.length ∧ pr v ∧ crs A v = k ∧ c ≠ -1 ∧ c = nI (rn_c A v) ∧ rn_c A (mtf A v) ≠ rn_c A v
  let J : (Nat → Prop) → ow_MS → Prop := fun pr y => fr (fun g => 3001 ≤ g ∧ g ≤ 3006) z2 y ∧ ∀ v, v < A.flatten.length → (fl pr (crs A v) → y.2.1 3006 (crs A v) = 0 - z2.2.1 1006 (crs A v)) ∧ (¬ fl pr (crs A v) → y.2.1 3006 (crs A v) = z2.2.1 1006 (crs A v))
  have oJ : ∀ {pr : Nat → Prop} {y : ow_MS}, J pr y → oNet y 1000 A sg := fun hj => oNet_fr hj.1 (fun g hg => by omega) o1
  have Jeq : ∀ {pr pr' : Nat → Prop} {y : ow_MS}, (∀ j, pr j ↔ pr' j) → J pr y → J pr' y := fun hpp hj => by
    have : ∀ k, fl _ k ↔ fl _ k := fun k => ⟨fun ⟨v, a1, a2, a3⟩ => ⟨v, a1, (hpp v).mp a2, a3⟩, fun ⟨v, a1, a2, a3⟩ => ⟨v, a1, (hpp v).mpr a2, a3⟩⟩
    exact ⟨hj.1, fun v hv9 => ⟨fun h7 => (hj.2 v hv9).1 ((this _).mpr h7), fun h7 => (hj.2 v hv9).2 (fun h6 => h7 ((this _).mp h6))⟩⟩
  have Jfr : ∀ {pr : Nat → Prop} {y y2 : ow_MS} {P : Nat → Prop}, (∀ g, P g → 3001 ≤ g ∧ g ≤ 3005) → fr P y y2 → J pr y → J pr y2 := fun hP hf hj => ⟨fr_tr hj.1 (fr_mono (fun g hg => by have := hP g hg; omega) hf), fun v hv9 => by
    rw [(hf 3006 (fun h7 => by have := hP _ h7; omega)).2.1]
    exact hj.2 v hv9⟩
  have out : ∀ (k m : Nat) (y : ow_MS), m + k = A.length → J (fun j => j < rn_b A m) y → rn_At y 3000 (rvX (tauC c) A m) [] → Tt (fun K i => q_X13_reverse K i 2 (nI e) c (nI m) 0 0 0 0 y) Q := by
    intro k
    induction k with
    | zero =>
      intro m y hm hj hb
      have hm2 : m = A.length := by omega
      rw [hm2] at hb
      have hlr := rvX_len (τ := tauC c) (A := A) (Nat.le_refl _)
      rw [rn_b_len] at hlr
      have f0y : fr rPs z y := fr_tr f02 (fr_mono (fun g hg => Or.inr (by unfold rSc; omega)) hj.1)
      refine u_X13_reverse_2 ?_; unfold qm_X13_reverse_2
      refine w_rdF (lk_C (oJ hj).1) (w_leT (by omega) (by omega) (w_mono (w_keepX (z0 := z) (sg2 := sgT (tauC c) A sg) (gI_net pn3 hj.1 (fun g hg => by omega) h2) (relR_fr hj.1 (by omega) hR2) hfr (by rw [(hj.1 1 (by omega)).1]; exact z21) f0y hb (fun p hp => ?_) (wkF_perm rvX_perm o1.wk) (by rw [hlr]; exact hl) (by unfold rvX; rw [List.length_map, List.length_range]; exact hC)) (fun r hr => fin (Or.inr ⟨hcok, Or.inr ⟨f, hfr, hr⟩⟩))))
      have hpA := rvX_perm.mem_iff.mp hp
      obtain ⟨v, v1, v2⟩ := mem_vAt hpA
      have hcv : crs A v = p.1 := by unfold crs; rw [v2]
      have hsv := o1.2.1 p hpA
      have hj2 := hj.2 v v1
      rw [hcv] at hj2
      have hm1 := mtf_lt hd v1
      have hm3 := crs_mtf hd v1
      have hm4 := mtf_mtf hd v1
      have key := sgT_fl (c := c) o1.wk (by omega) v1
      rw [hcv] at key
      show y.2.1 3006 p.1 = if sgT (tauC c) A sg p.1 = true then -1 else 1
      have hsv : z2.2.1 1006 p.1 = if sg p.1 then -1 else 1 := hsv
      unfold sgT
      by_cases hT : (tauC c (cidx A (p.1, 0)) != tauC c (cidx A (p.1, 1))) = true
      · rw [if_pos hT]
        obtain ⟨u, u1, u2, u3⟩ := key.mpr hT
        rw [hj2.1 ⟨u, u1, by have := rn_b_len A; rw [← hm2] at this; omega, u2, u3⟩, hsv]
        cases sg p.1 <;> rfl
      · rw [if_neg hT, hj2.2 (fun ⟨u, u1, _, u2, u3⟩ => hT (key.mp ⟨u, u1, u2, u3⟩)), hsv]
    | succ k ih =>
      intro m y hm hj hb
      have hmC : m < A.length := by omega
      have hmono := rn_b_mono A m
      have hble := rn_b_le A (m + 1)
      have hlm := rvX_len (τ := tauC c) (show m ≤ A.length by omega)
      have inn : ∀ (t : Bool), t = tauC c m → ∀ (k i : Nat) (y : ow_MS), i + k = rlen A m → J (fun j => j < rn_b A m ∨ (if t then rn_b A (m + 1) ≤ j + i ∧ j < rn_b A (m + 1) else rn_b A m ≤ j ∧ j < rn_b A m + i)) y → rn_At y 3000 (rvX (tauC c) A m) ((tLL t (A.getD m [])).take i) → Tt (fun K i9 => q_X13_reverse K i9 5 (nI e) c (nI m) (bZ t) (nI i) 0 0 y) Q := by
        intro t ht k
        unfold rlen
        induction k with
        | zero =>
          intro i y hi hj hb
          have o2 := oJ hj
          have etl : (tLL t (A.getD m [])).take i = tLL t (A.getD m []) := by
            have := gD_len hmC
            rw [show i = (tLL t (A.getD m [])).length by rw [tLL_len]; omega, List.take_length]
          rw [etl] at hb
          refine u_X13_reverse_5 ?_; unfold qm_X13_reverse_5
          rw [nI_1]
          refine w_rdI (pl3 pn1) rfl (by omega) (lk_b o2.1 (by omega)) (w_rdI (pl3 pn1) rfl (by omega) (lk_b o2.1 (by omega)) ?_)
          rw [pk_sub hmono]
          refine w_leT (by omega) (by omega) (w_cs0 (tn_end pn3 hb (by unfold rvX; rw [List.length_map, List.length_range]; omega)) (fun y2 ⟨g1, g2⟩ => ?_))
          refine ih (m + 1) y2 (by omega) (Jeq (fun j => ?_) (Jfr (fun g hg => by omega) g2 hj)) ?_
          · cases t
            · simp only [Bool.false_eq_true, if_false]
              omega
            · simp only [if_true]
              omega
          · rw [rvX_s, ← ht]
            exact g1
        | succ k ihk =>
          intro i y hi hj hb
          have o2 := oJ hj
          have hv6 : ∀ v, v < A.flatten.length → rn_b A m ≤ v → v < rn_b A (m + 1) → (v = if t then rn_b A (m + 1) - 1 - i else rn_b A m + i) → Tt (fun K i9 => q_X13_reverse K i9 6 (nI e) c (nI m) (bZ t) (nI i) 0 (nI v) y) Q := by
            intro v hv9 hvb hvb2 hve
            have hml := mtf_lt hd hv9
            have hcm : rn_c A v = m := rn_c_of A m v hvb hvb2
            have hat := tLL_at hmC (show i < rn_b A (m + 1) - rn_b A m by omega) hve
            have hpr : ∀ j, (j < rn_b A m ∨ (if t then rn_b A (m + 1) ≤ j + (i + 1) ∧ j < rn_b A (m + 1) else rn_b A m ≤ j ∧ j < rn_b A m + (i + 1))) ↔ (j < rn_b A m ∨ (if t then rn_b A (m + 1) ≤ j + i ∧ j < rn_b A (m + 1) else rn_b A m ≤ j ∧ j < rn_b A m + i)) ∨ j = v := fun j => by
              cases t
              · simp only [Bool.false_eq_true, if_false] at hve ⊢
                omega
              · simp only [if_true] at hve ⊢
                omega
            have c7 : ∀ (y2 : ow_MS), J (fun j => (j < rn_b A m ∨ (if t then rn_b A (m + 1) ≤ j + i ∧ j < rn_b A (m + 1) else rn_b A m ≤ j ∧ j < rn_b A m + i)) ∨ j = v) y2 → rn_At y2 3000 (rvX (tauC c) A m) ((tLL t (A.getD m [])).take (i + 1)) → Tt (fun K i9 => q_X13_reverse K i9 7 (nI e) c (nI m) (bZ t) (nI i) (nI v) 0 y2) Q := by
              intro y2 hj2 hb2
              refine u_X13_reverse_7 ?_; unfold qm_X13_reverse_7
              rw [nI_1]
              exact ihk (i + 1) y2 (by omega) (Jeq (fun j => (hpr j).symm) hj2) hb2
            -- no sign changes here
            have same : ∀ {y2 : ow_MS}, J (fun j => j < rn_b A m ∨ (if t then rn_b A (m + 1) ≤ j + i ∧ j < rn_b A (m + 1) else rn_b A m ≤ j ∧ j < rn_b A m + i)) y2 → ¬ (c ≠ -1 ∧ c = nI (rn_c A v) ∧ rn_c A (mtf A v) ≠ rn_c A v) → J (fun j => (j < rn_b A m ∨ (if t then rn_b A (m + 1) ≤ j + i ∧ j < rn_b A (m + 1) else rn_b A m ≤ j ∧ j < rn_b A m + i)) ∨ j = v) y2 := fun hj2 hno => ⟨hj2.1, fun v9 hv8 => ⟨fun ⟨u, u1, u2, u3, u4⟩ => (hj2.2 v9 hv8).1 (by
              rcases u2 with u2 | u2
              · exact ⟨u, u1, u2, u3, u4⟩
              · rw [u2] at u4
                exact absurd u4 hno), fun h7 => (hj2.2 v9 hv8).2 (fun ⟨u, u1, u2, u3⟩ => h7 ⟨u, u1, Or.inl u2, u3⟩)⟩⟩
            refine u_X13_reverse_6 ?_; unfold qm_X13_reverse_6
            refine w_rdI (pl4 pn1) rfl (by omega) (lk_cu o2.1 hv9).1 (w_rdI (pl5 pn1) rfl (by omega) (lk_cu o2.1 hv9).2 (w_cs0 (tn_add pn3 hb (by rw [List.length_append, hlm, List.length_take]; omega)) (fun y2 ⟨g1, g2⟩ => ?_)))
            have hb2 : rn_At y2 3000 (rvX (tauC c) A m) ((tLL t (A.getD m [])).take (i + 1)) := by
              rw [take_s hat]
              exact g1
            have hj2 := Jfr (fun g hg => by omega) g2 hj
            have o3 := oJ hj2
            refine w_if (fun h7 => c7 y2 (same hj2 (fun h6 => ?_)) hb2) (fun h7 => w_if (fun h6 => c7 y2 (same hj2 (fun h5 => h5.1 h6)) hb2) (fun h6 => w_rdI (pl7 pn1) rfl (by omega) (lk_m hd o3.1 hv9) (w_rdI (pl8 pn1) rfl (by omega) (lk_c o3.1 hml) (w_if (fun h5 => c7 y2 (same hj2 (fun h4 => ?_)) hb2) (fun h5 => ?_)))))
            · -- t is false
              have : t = false := by
                cases t
                · rfl
                · exact absurd h7 (by decide)
              rw [this] at ht
              unfold tauC at ht
              rw [← hcm, decide_eq_true h6.2.1, Bool.or_true] at ht
              cases ht
            · exact h4.2.2 ((nI_inj9 (by have := (rn_c_in A _ hml).1; omega) (by omega) h5).trans hcm.symm)
            · obtain ⟨x1, x2, x3⟩ := o3.cx hv9
              have tt : t = true := by
                cases t
                · exact absurd rfl h7
                · rfl
              have hcn : c = nI (rn_c A v) := by
                rw [tt] at ht
                unfold tauC at ht
                rw [decide_eq_false h6, Bool.false_or] at ht
                rw [hcm]
                exact of_decide_eq_true ht.symm
              have hdif : rn_c A (mtf A v) ≠ rn_c A v := fun h4 => h5 (by rw [h4, hcm])
              have e6 : y2.2.1 1006 (crs A v) = z2.2.1 1006 (crs A v) := by rw [(hj2.1 1006 (by omega)).2.1]
              refine w_rdI (pl4 pn1) rfl (by omega) (lk_cu o3.1 hv9).1 (w_rdI (pl4 pn1) rfl (by omega) (lk_cu o3.1 hv9).1 (w_rdI (pl6 pn1) rfl (by omega) e6 (w_wrI (pl6 pn3) rfl (by omega) (c7 _ ⟨fr_I2 hj2.1 (by omega), fun v9 hv8 => ?_⟩ (fr_At (P := fun g => g = 3006) (fr_I rfl) (fun g hg => by omega) hb2)))))
              by_cases hce : crs A v9 = crs A v
              · rw [hce]
                refine ⟨fun _ => po_usI_at, fun h4 => absurd ⟨v, hv9, Or.inr rfl, rfl, h6, hcn, hdif⟩ h4⟩
              · show (fl _ _ → (usI y2 3006 (crs A v) _).2.1 3006 (crs A v9) = _) ∧ (_ → (usI y2 3006 (crs A v) _).2.1 3006 (crs A v9) = _)
                rw [po_usI_ne hce]
                refine ⟨fun ⟨u, u1, u2, u3, u4⟩ => (hj2.2 v9 hv8).1 ?_, fun h4 => (hj2.2 v9 hv8).2 (fun ⟨u, u1, u2, u3⟩ => h4 ⟨u, u1, Or.inl u2, u3⟩)⟩
                rcases u2 with u2 | u2
                · exact ⟨u, u1, u2, u3, u4⟩
                · rw [u2] at u3
                  exact absurd u3.symm hce
          refine u_X13_reverse_5 ?_; unfold qm_X13_reverse_5
          rw [nI_1]
          refine w_rdI (pl3 pn1) rfl (by omega) (lk_b o2.1 (by omega)) (w_rdI (pl3 pn1) rfl (by omega) (lk_b o2.1 (by omega)) ?_)
          rw [pk_sub hmono]
          refine w_leF (by omega) (by omega) ?_
          cases t with
          | false =>
            refine w_ifT rfl (w_rdI (pl3 pn1) rfl (by omega) (lk_b o2.1 (by omega)) ?_)
            rw [nI_add]
            exact hv6 _ (by omega) (by omega) (by omega) rfl
          | true =>
            refine w_ifF (by decide) (w_rdI (pl3 pn1) rfl (by omega) (lk_b o2.1 (by omega)) ?_)
            rw [show nI (rn_b A (m + 1)) - 1 - nI i = nI (rn_b A (m + 1) - 1 - i) from by
              rw [show nI (rn_b A (m + 1)) - 1 = nI (rn_b A (m + 1) - 1) from pk_sub (b := 1) (by omega)]
              exact pk_sub (by omega)]
            exact hv6 _ (by omega) (by omega) (by omega) rfl
      have c4 : ∀ t : Bool, t = tauC c m → Tt (fun K i9 => q_X13_reverse K i9 4 (nI e) c (nI m) 0 0 0 (bZ t) y) Q := by
        intro t ht
        refine u_X13_reverse_4 ?_; unfold qm_X13_reverse_4
        refine inn t ht (rlen A m) 0 y (by omega) (Jeq (fun j => ?_) hj) (by rw [List.take_zero]; exact hb)
        cases t
        · simp only [Bool.false_eq_true, if_false]
          omega
        · simp only [if_true]
          omega
      have c3 : tauC c m = true → Tt (fun K i9 => q_X13_reverse K i9 3 (nI e) c (nI m) 0 0 0 0 y) Q := by
        intro ht
        refine u_X13_reverse_3 ?_; unfold qm_X13_reverse_3
        exact c4 true ht.symm
      refine u_X13_reverse_2 ?_; unfold qm_X13_reverse_2
      refine w_rdF (lk_C (oJ hj).1) (w_leF (by omega) (by omega) (w_if (fun h7 => c3 ?_) (fun h7 => w_if (fun h6 => c3 ?_) (fun h6 => c4 false ?_))))
      · unfold tauC
        rw [decide_eq_true h7]
        rfl
      · unfold tauC
        rw [decide_eq_true h6, Bool.or_true]
      · unfold tauC
        rw [decide_eq_false h7, decide_eq_false h6]
        rfl
  refine out A.length 0 z4 (by omega) ⟨fr_tr (fr_mono (fun g hg => by omega) f3) (fr_mono (fun g hg => by omega) f4), fun v hv9 => ⟨fun ⟨u, _, u2, _⟩ => absurd u2 (by rw [rn_b0]; omega), fun _ => ?_⟩⟩ (fr_At f4 (fun g hg => by omega) b3)
  have := s4 (crs A v) (by have := (o1.cx hv9).1; omega)
  rw [show z4.2.1 3006 (crs A v) = z3.2.1 1006 (crs A v) from this, (f3 1006 (by omega)).2.1]
end XV
