/-! the class: partOnce, partAll -/
def po_w (P : Nat → Bool) : Nat → Nat → Option Nat
  | 0, _ => none
  | d + 1, w => if P w then some w else po_w P d (w + 1)
def po_in (P : Nat → Nat → Bool) (n d1 v : Nat) (nx : Nat → Option (Nat × Nat)) (q : Option Nat) : Option (Nat × Nat) := match q with
  | some w => some (v, w)
  | none => nx (v + 1)
def po_v (P : Nat → Nat → Bool) (n : Nat) : Nat → Nat → Option (Nat × Nat)
  | 0, _ => none
  | d + 1, v => po_in P n d v (po_v P n d) (po_w (P v) (n - (v + 1)) (v + 1))
def po_P (c : Nat) (S : ow_NP) (v w : Nat) : Bool := decide ((np_rings c S.1).1 v = (np_rings c S.1).1 w ∧ (np_parts c S.1).2 < (np_parts c (np_exchange S v w).1).2)
/-- the first two visits whose exchange parts a part -/
def np_once (c : Nat) (S : ow_NP) : Option (Nat × Nat) := po_v (po_P c S) (2 * c) (2 * c) 0
def np_onceS (S : ow_NP) (q : Option (Nat × Nat)) : ow_NP := match q with
  | none => S
  | some q => np_exchange S q.1 q.2
def cO (h q : Nat) : Prop := cP h q ∨ cR h q ∨ cQ h q
section CO
variable {vl : Nat → Nat} {y : ow_MS} {h : Nat} {T : ow_NT}
theorem u_X7_partOnce_1 {vl : Nat → Nat} {x1 : Int32} {x2 : Int32} {x3 : Int32} {r0 : Nat} {z : ow_MS} {Q : (Int32 × ow_MS) → Prop} (H : Tt (fun K k => cm_X7_partOnce_1 vl K (c_X7_partOnce vl K k) x1 x2 x3 r0 z) Q) : Tt (fun K k => c_X7_partOnce vl K k 1 x1 x2 x3 r0 z) Q := w_un (fun _ _ => rfl) H
theorem u_X7_partOnce_2 {vl : Nat → Nat} {x1 : Int32} {x2 : Int32} {x3 : Int32} {r0 : Nat} {z : ow_MS} {Q : (Int32 × ow_MS) → Prop} (H : Tt (fun K k => cm_X7_partOnce_2 vl K (c_X7_partOnce vl K k) x1 x2 x3 r0 z) Q) : Tt (fun K k => c_X7_partOnce vl K k 2 x1 x2 x3 r0 z) Q := w_un (fun _ _ => rfl) H
theorem u_X7_partOnce_3 {vl : Nat → Nat} {x1 : Int32} {x2 : Int32} {x3 : Int32} {r0 : Nat} {z : ow_MS} {Q : (Int32 × ow_MS) → Prop} (H : Tt (fun K k => cm_X7_partOnce_3 vl K (c_X7_partOnce vl K k) x1 x2 x3 r0 z) Q) : Tt (fun K k => c_X7_partOnce vl K k 3 x1 x2 x3 r0 z) Q := w_un (fun _ _ => rfl) H
theorem e_X7_partOnce {vl : Nat → Nat} {r0 : Nat} {z : ow_MS} {Q : (Int32 × ow_MS) → Prop} (H : Tt (fun K k => c_X7_partOnce vl K k 0 0 0 0 r0 z) Q) : Te (fun K => ce_X7_partOnce vl K r0 z) Q := w_te H
theorem u_X7_partOnce_0 {vl : Nat → Nat} {x1 : Int32} {x2 : Int32} {x3 : Int32} {r0 : Nat} {z : ow_MS} {Q : (Int32 × ow_MS) → Prop} (H : Tt (fun K k => cm_X7_partOnce_0 vl K (c_X7_partOnce vl K k) x1 x2 x3 r0 z) Q) : Tt (fun K k => c_X7_partOnce vl K k 0 x1 x2 x3 r0 z) Q := w_un (fun _ _ => rfl) H
theorem tc_partOnce (hh : nH h) (hy : cAt y h T) (hb : ow_b24 T.2.2.1) (hv : vn T.1 T.2.2.1) (hT : T.1 ≤ 12) : Te (fun K => ce_X7_partOnce vl K h y) (fun r => r.1 = (if (np_once T.1 T.2.2.1).isSome then 1 else 0) ∧ cAt r.2 h (ntS T (np_onceS T.2.2.1 (np_once T.1 T.2.2.1))) ∧ fr (cO h) y r.2) := by
  generalize hA : np_once T.1 T.2.2.1 = A
  let Q : Int32 × ow_MS → Prop := fun r => r.1 = (if A.isSome then 1 else 0) ∧ cAt r.2 h (ntS T (np_onceS T.2.2.1 A)) ∧ fr (cO h) y r.2
  have hN : ∀ k, k < 2 * T.1 → T.2.2.1.1 k < 2 * T.1 := fun k hk => (hv k hk).1
  have hpb : ∀ N, (np_parts T.1 N).2 ≤ 24 := fun N => by
    have := mp_out_le N (2 * T.1) (fun _ => -1) (2 * T.1)
    unfold np_parts
    omega
  have hp0 := hpb T.2.2.1.1
  have k1 : ∀ (d v : Nat) (y1 : ow_MS), v + d = 2 * T.1 → po_v (po_P T.1 T.2.2.1) (2 * T.1) d v = A → cAt y1 h T → rl (2 * T.1) (y1.2.1 (h + 5)) (np_rings T.1 T.2.2.1.1).1 → fr (cO h) y y1 → Tt (fun K t => c_X7_partOnce vl K t 1 (nI (np_parts T.1 T.2.2.1.1).2) (nI v) 0 h y1) Q := by
    intro d
    induction d with
    | zero =>
      intro v y1 hd hP h1 h5 hf
      have hP : none = A := hP
      subst hP
      refine u_X7_partOnce_1 ?_; unfold cm_X7_partOnce_1
      refine w_rdF h1.1 ?_
      rw [show (2 : Int32) * nI T.1 = nI (2 * T.1) from pk_mul 2 _]
      exact w_leT (by omega) (by omega) (w_okZ (Or.inl rfl) (w_some ⟨rfl, h1, hf⟩))
    | succ d ih =>
      intro v y1 hd hP h1 h5 hf
      have hP : po_in (po_P T.1 T.2.2.1) (2 * T.1) d v (po_v (po_P T.1 T.2.2.1) (2 * T.1) d) (po_w (po_P T.1 T.2.2.1 v) (2 * T.1 - (v + 1)) (v + 1)) = A := hP
      have k2 : ∀ (e w : Nat) (y1 : ow_MS), w + e = 2 * T.1 → po_in (po_P T.1 T.2.2.1) (2 * T.1) d v (po_v (po_P T.1 T.2.2.1) (2 * T.1) d) (po_w (po_P T.1 T.2.2.1 v) e w) = A → cAt y1 h T → rl (2 * T.1) (y1.2.1 (h + 5)) (np_rings T.1 T.2.2.1.1).1 → fr (cO h) y y1 → Tt (fun K t => c_X7_partOnce vl K t 2 (nI (np_parts T.1 T.2.2.1.1).2) (nI v) (nI w) h y1) Q := by
        intro e
        induction e with
        | zero =>
          intro w y1 hw hP h1 h5 hf
          refine u_X7_partOnce_2 ?_; unfold cm_X7_partOnce_2
          refine w_rdF h1.1 ?_
          rw [show (2 : Int32) * nI T.1 = nI (2 * T.1) from pk_mul 2 _, nI_1 v]
          exact w_leT (by omega) (by omega) (ih (v + 1) y1 (by omega) hP h1 h5 hf)
        | succ e ihe =>
          intro w y1 hw hP h1 h5 hf
          have hP : po_in (po_P T.1 T.2.2.1) (2 * T.1) d v (po_v (po_P T.1 T.2.2.1) (2 * T.1) d) (if po_P T.1 T.2.2.1 v w then some w else po_w (po_P T.1 T.2.2.1 v) e (w + 1)) = A := hP
          have k3 : ∀ (y1 : ow_MS), po_P T.1 T.2.2.1 v w = false → cAt y1 h T → rl (2 * T.1) (y1.2.1 (h + 5)) (np_rings T.1 T.2.2.1.1).1 → fr (cO h) y y1 → Tt (fun K t => c_X7_partOnce vl K t 3 (nI (np_parts T.1 T.2.2.1.1).2) (nI v) (nI w) h y1) Q := by
            intro y1 hpw h1 h5 hf
            rw [hpw] at hP
            refine u_X7_partOnce_3 ?_; unfold cm_X7_partOnce_3
            rw [nI_1]
            exact ihe (w + 1) y1 (by omega) hP h1 h5 hf
          have hv2 : v < 2 * T.1 := by omega
          have hw2 : w < 2 * T.1 := by omega
          refine u_X7_partOnce_2 ?_; unfold cm_X7_partOnce_2
          refine w_rdF h1.1 ?_
          rw [show (2 : Int32) * nI T.1 = nI (2 * T.1) from pk_mul 2 _]
          refine w_leF (by omega) (by omega) (w_crI (nH_5 hh) rfl (by omega) (h5 v hv2) (w_crI (nH_5 hh) rfl (by omega) (h5 w hw2) (w_if (fun em => ?_) (fun em => ?_))))
          · refine w_cs0 (tc_exchange hh h1 hb (show v < 24 by omega) (show w < 24 by omega)) ?_
            rintro y2 ⟨q1, q2⟩
            have hv' := vn_exchange hv hv2 hw2
            have hb' := b24_exchange hb (show v < 24 by omega) (show w < 24 by omega)
            refine w_cs0 (tc_markParts hh q1 (fun k hk => (hv' k hk).1) hT) ?_
            rintro y3 ⟨r1, r2, r3⟩
            have hpo := (np_parts_of (N := (np_exchange T.2.2.1 v w).1) (fun k hk => (hv' k hk).1) hT (y2.2.1 (h + 6))).2
            have r2 : y3.1 (h + 11) = nI (np_parts T.1 (np_exchange T.2.2.1 v w).1).2 := r2.trans (congrArg nI hpo)
            have hp1 := hpb (np_exchange T.2.2.1 v w).1
            have q3 : cAt y3 h (ntS T (np_exchange T.2.2.1 v w)) := cAt_fr r3 (fun q hq hr => by unfold cP at hq; unfold cQ at hr; omega) q1
            have f3 : fr (cO h) y y3 := fr_tr (fr_tr hf (fr_mono (fun q hq => Or.inl hq) q2)) (fr_mono (fun q hq => Or.inr (Or.inr hq)) r3)
            have e5 : ∀ k, y3.2.1 (h + 5) k = y1.2.1 (h + 5) k := fun k => by
              rw [(r3 _ (fun h9 => by unfold cQ at h9; omega)).2.1, (q2 _ (fun h9 => by unfold cP at h9; omega)).2.1]
            refine w_rdF r2 (w_le (by omega) (by omega) (fun hle => ?_) (fun hgt => ?_))
            · refine w_cs0 (tc_exchange hh q3 hb' (show v < 24 by omega) (show w < 24 by omega)) ?_
              rintro y4 ⟨s1, s2⟩
              have es : np_exchange (np_exchange T.2.2.1 v w) v w = T.2.2.1 := np_exchange_twice hv hv2 hw2
              have s1 : cAt y4 h (ntS T (np_exchange (np_exchange T.2.2.1 v w) v w)) := s1
              rw [es] at s1
              refine k3 y4 ?_ s1 (fun k hk => ?_) (fr_tr f3 (fr_mono (fun q hq => Or.inl hq) s2))
              · exact decide_eq_false (fun h9 => by have := h9.2; omega)
              · rw [(s2 _ (fun h9 => by unfold cP at h9; omega)).2.1, e5]
                exact h5 k hk
            · have hpt : po_P T.1 T.2.2.1 v w = true := decide_eq_true ⟨em, hgt⟩
              rw [hpt] at hP
              have hP : some (v, w) = A := hP
              subst hP
              exact w_okZ (Or.inr rfl) (w_some ⟨rfl, q3, f3⟩)
          · exact k3 y1 (decide_eq_false (fun h9 => em h9.1)) h1 h5 hf
      refine u_X7_partOnce_1 ?_; unfold cm_X7_partOnce_1
      refine w_rdF h1.1 ?_
      rw [show (2 : Int32) * nI T.1 = nI (2 * T.1) from pk_mul 2 _, nI_1]
      exact w_leF (by omega) (by omega) (k2 (2 * T.1 - (v + 1)) (v + 1) y1 (by omega) hP h1 h5 hf)
  refine e_X7_partOnce ?_
  refine u_X7_partOnce_0 ?_; unfold cm_X7_partOnce_0
  refine w_cs0 (tc_markRings hh hy hb hT) ?_
  rintro y1 ⟨a1, a2, a3⟩
  have h1 : cAt y1 h T := cAt_fr a3 (fun q hq hr => by unfold cP at hq; unfold cR at hr; omega) hy
  refine w_cs0 (tc_markParts hh h1 hN hT) ?_
  rintro y2 ⟨b1, b2, b3⟩
  have h2 : cAt y2 h T := cAt_fr b3 (fun q hq hr => by unfold cP at hq; unfold cQ at hr; omega) h1
  have e1 := (np_rings_of (N := T.2.2.1.1) hN (y.2.1 (h + 5))).1
  have e2 := (np_parts_of (N := T.2.2.1.1) hN hT (y1.2.1 (h + 6))).2
  refine w_rdF (b2.trans (congrArg nI e2)) (k1 (2 * T.1) 0 y2 (by omega) hA h2 (fun k hk => ?_) (fr_tr (fr_mono (fun q hq => Or.inr (Or.inl hq)) a3) (fr_mono (fun q hq => Or.inr (Or.inr hq)) b3)))
  rw [(b3 _ (fun h9 => by unfold cQ at h9; omega)).2.1, a1 k]
  exact e1 k hk
end CO
/-- parted d times at most -/
def np_all (c : Nat) : Nat → ow_NP → ow_NP
  | 0, S => S
  | d + 1, S => if (np_once c S).isSome then np_all c d (np_onceS S (np_once c S)) else S
theorem po_w_in {P : Nat → Bool} : ∀ (d w : Nat) {r : Nat}, po_w P d w = some r → w ≤ r ∧ r < w + d
  | 0, _, _, h => by cases h
  | d + 1, w, r, h => by
    have h : (if P w then some w else po_w P d (w + 1)) = some r := h
    split at h
    · injection h with h
      omega
    · have := po_w_in d (w + 1) h
      omega
theorem po_v_in {P : Nat → Nat → Bool} {n : Nat} : ∀ (d v : Nat) {q : Nat × Nat}, v + d ≤ n → po_v P n d v = some q → q.1 < n ∧ q.2 < n
  | 0, _, _, _, h => by cases h
  | d + 1, v, q, hd, h => by
    have h : po_in P n d v (po_v P n d) (po_w (P v) (n - (v + 1)) (v + 1)) = some q := h
    cases e : po_w (P v) (n - (v + 1)) (v + 1) with
    | none =>
      rw [e] at h
      exact po_v_in d (v + 1) (by omega) h
    | some w =>
      rw [e] at h
      have h : some (v, w) = some q := h
      injection h with h
      have := po_w_in _ _ e
      rw [← h]
      show v < n ∧ w < n
      omega
theorem once_vn {c : Nat} {S : ow_NP} (hv : vn c S) : vn c (np_onceS S (np_once c S)) := by
  cases e : np_once c S with
  | none => exact hv
  | some q =>
    have := po_v_in (2 * c) 0 (by omega) e
    exact vn_exchange hv this.1 this.2
theorem once_b24 {c : Nat} {S : ow_NP} (hc : c ≤ 12) (hb : ow_b24 S) : ow_b24 (np_onceS S (np_once c S)) := by
  cases e : np_once c S with
  | none => exact hb
  | some q =>
    have := po_v_in (2 * c) 0 (by omega) e
    exact b24_exchange hb (by omega) (by omega)
section CO2
variable {vl : Nat → Nat} {y : ow_MS} {h : Nat} {T : ow_NT}
theorem u_X7_partAll_1 {vl : Nat → Nat} {x1 : Int32} {r0 : Nat} {z : ow_MS} {Q : ow_MS → Prop} (H : Tt (fun K k => cm_X7_partAll_1 vl K (c_X7_partAll vl K k) x1 r0 z) Q) : Tt (fun K k => c_X7_partAll vl K k 1 x1 r0 z) Q := w_un (fun _ _ => rfl) H
theorem e_X7_partAll {vl : Nat → Nat} {r0 : Nat} {z : ow_MS} {Q : ow_MS → Prop} (H : Tt (fun K k => c_X7_partAll vl K k 0 0 r0 z) Q) : Te (fun K => ce_X7_partAll vl K r0 z) Q := w_te H
theorem u_X7_partAll_0 {vl : Nat → Nat} {x1 : Int32} {r0 : Nat} {z : ow_MS} {Q : ow_MS → Prop} (H : Tt (fun K k => cm_X7_partAll_0 vl K (c_X7_partAll vl K k) x1 r0 z) Q) : Tt (fun K k => c_X7_partAll vl K k 0 x1 r0 z) Q := w_un (fun _ _ => rfl) H
theorem tc_partAll (hh : nH h) (hy : cAt y h T) (hb : ow_b24 T.2.2.1) (hv : vn T.1 T.2.2.1) (hT : T.1 ≤ 12) : Te (fun K => ce_X7_partAll vl K h y) (fun y1 => cAt y1 h (ntS T (np_all T.1 12 T.2.2.1)) ∧ fr (cO h) y y1) := by
  generalize hA : np_all T.1 12 T.2.2.1 = A
  let Q : ow_MS → Prop := fun y1 => cAt y1 h (ntS T A) ∧ fr (cO h) y y1
  have c1 : ∀ (d i : Nat) (S : ow_NP) (y1 : ow_MS), i + d = 12 → np_all T.1 d S = A → cAt y1 h (ntS T S) → ow_b24 S → vn T.1 S → fr (cO h) y y1 → Tt (fun K t => c_X7_partAll vl K t 1 (nI i) h y1) Q := by
    intro d
    induction d with
    | zero =>
      intro i S y1 hi hS h1 _ _ hf
      have hS : S = A := hS
      subst hS
      refine u_X7_partAll_1 ?_; unfold cm_X7_partAll_1
      exact w_leT (a := 12) (by omega) (by omega) (w_some ⟨h1, hf⟩)
    | succ d ih =>
      intro i S y1 hi hS h1 hb1 hv1 hf
      have hS : (if (np_once T.1 S).isSome then np_all T.1 d (np_onceS S (np_once T.1 S)) else S) = A := hS
      refine u_X7_partAll_1 ?_; unfold cm_X7_partAll_1
      refine w_leF (a := 12) (by omega) (by omega) (w_cs1 (tc_partOnce hh h1 hb1 hv1 hT) ?_)
      rintro r y2 ⟨k1, k2, e3⟩
      have m1 : r = (if (np_once T.1 S).isSome then 1 else 0) := k1
      have e2 : cAt y2 h (ntS T (np_onceS S (np_once T.1 S))) := k2
      have b2 := once_b24 (c := T.1) hT hb1
      have v2 := once_vn hv1
      rw [m1, nI_1]
      cases e : np_once T.1 S with
      | none =>
        rw [e] at hS e2
        have hS : S = A := hS
        subst hS
        exact w_ifT rfl (w_some ⟨e2, fr_tr hf e3⟩)
      | some q =>
        rw [e] at hS e2 b2 v2
        exact w_ifF (show ¬ (1 : Int32) = 0 by decide) (ih (i + 1) _ y2 (by omega) hS e2 b2 v2 (fr_tr hf e3))
  refine e_X7_partAll ?_
  refine u_X7_partAll_0 ?_; unfold cm_X7_partAll_0
  exact c1 12 0 T.2.2.1 y (by omega) hA hy hb hv fr_rf
end CO2
