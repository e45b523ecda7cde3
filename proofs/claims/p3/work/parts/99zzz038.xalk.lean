section
/-! 99zzzzzzzzzq.xalk -/
/-! exact calls: alike, of both -/
theorem slC_uni {y : ow_MS} {g s : Nat} {C D : cdT} (h1 : cOK C) (h2 : cOK D) (c1 : slC y g s C) (d1 : slC y g s D) : C = D := by
  have e1 : C.1 = D.1 := nI_inj9 (by have := h1.1; omega) (by have := h2.1; omega) (c1.1.symm.trans d1.1)
  have e2 : C.2.length = D.2.length := nI_inj9 (by have := h1.2.1; omega) (by have := h2.2.1; omega) (c1.2.1.symm.trans d1.2.1)
  refine Prod.ext e1 (List.ext_getElem? (fun i => ?_))
  by_cases hi : i < C.2.length
  · have hj : i < D.2.length := by omega
    have a1 := c1.2.2 i _ (List.getElem?_eq_getElem hi)
    have a2 := d1.2.2 i _ (List.getElem?_eq_getElem hj)
    have b1 := h1.2.2 _ (List.getElem_mem hi)
    have b2 := h2.2.2 _ (List.getElem_mem hj)
    rw [List.getElem?_eq_getElem hi, List.getElem?_eq_getElem hj, nI_inj9 (by omega) (by omega) (a1.symm.trans a2)]
  · rw [List.getElem?_eq_none (by omega), List.getElem?_eq_none (by omega)]
theorem ucd_cg {sg sg' : Nat → Bool} : ∀ (R : rn_L) (b : Nat) (D : rn_L), (∀ p, p ∈ R.flatten → sg p.1 = sg' p.1) → ucd sg b D R = ucd sg' b D R
  | [], _, _, _ => rfl
  | L :: R, b, D, h => by
    show L.map (clc sg b) ++ 0 :: ucd sg (nxb b (D ++ [L])) (D ++ [L]) R = L.map (clc sg' b) ++ 0 :: ucd sg' (nxb b (D ++ [L])) (D ++ [L]) R
    rw [ucd_cg R _ _ (fun p hp => h p (by rw [List.flatten_cons]; exact List.mem_append_right _ hp)), List.map_congr_left (g := clc sg' b) (fun p hp => ?_)]
    unfold clc
    rw [h p (by rw [List.flatten_cons]; exact List.mem_append_left _ hp)]
theorem tk_cg {sg sg' : Nat → Bool} (A : rn_L) (h : ∀ p, p ∈ A.flatten → sg p.1 = sg' p.1) : tk sg A = tk sg' A := by
  unfold tk
  congr 1
  refine List.map_congr_left (fun L hL => ?_)
  unfold tkc
  congr 1
  refine List.map_congr_left (fun p hp => ?_)
  unfold tkv
  rw [h p (List.mem_flatten.mpr ⟨L, hL, hp⟩)]
theorem clC_tk {sg sg' : Nat → Bool} {A B : rn_L} {c c' : Nat} (hA : okL A c) (hB : okL B c') : clC sg A = clC sg' B ↔ tk sg A = tk sg' B := by
  constructor
  · intro e
    obtain ⟨q1, q2, q3⟩ := clC_inj hA hB e
    subst q1
    exact tk_cg A (fun p hp => q3 p.1 ((hA.1.2 p).mp hp).1)
  · intro e
    obtain ⟨q1, q2⟩ := tk_inj A B (fun p hp => ((hA.1.2 p).mp hp).2) (fun p hp => ((hB.1.2 p).mp hp).2) e
    subst q1
    unfold clC
    rw [ucd_cg A 0 [] q2]
/-- both are there, and the same -/
def alG (St : plT) (x x' : Int32) : Prop := ∃ d A sg e B sg', d < 40 ∧ x = nI d ∧ St d = some (A, sg) ∧ e < 40 ∧ x' = nI e ∧ St e = some (B, sg') ∧ tk sg A = tk sg' B
section XAL
variable {X : (Nat → Nat → Int32) → Prop} {z : ow_MS} {St : plT}
theorem xq_alike {d e : Int32} (h : gI X z) (hR : relR z St) : Te (fun K => qe_X13_alike K d e z) (fun r => rOk X z r ∧ (r.1 = 1 ∧ alG St d e ∨ r.1 = 0 ∧ ¬ alG St d e)) := by
  have h1 := gI_1 (c := 0) h
  have hR1 := relR_1 (c := 0) hR
  have ok : rOk X z (0, usF z 1 0) := ⟨h1, po_usF_at, fr_1⟩
  have ok1 : rOk X z (1, usF z 1 0) := ⟨h1, po_usF_at, fr_1⟩
  refine e_X13_alike ?_; unfold qm_X13_alike_0
  refine w_wrF (w_hasX hR1 (fun h0 => w_ifT rfl (w_okZ (Or.inl rfl) (w_some ⟨ok, Or.inr ⟨rfl, fun ⟨d', A, sg, _, _, _, k4, k5, k6, _⟩ => by rw [h0 d' k4 k5] at k6; cases k6⟩⟩))) (fun d9 A sg hd hx hs hv hne => w_ifF (by decide) (w_hasX hR1 (fun h0 => w_ifT rfl (w_okZ (Or.inl rfl) (w_some ⟨ok, Or.inr ⟨rfl, fun ⟨_, _, _, e', _, _, _, _, _, k4, k5, k6, _⟩ => by rw [h0 e' k4 k5] at k6; cases k6⟩⟩))) (fun e9 B sg2 he hy hs2 hw hne2 => w_ifF (by decide) ?_))))
  have l1 := hv.1.1
  have l2 := hw.1.1
  have s1 := tr_same ml12 ml12 (by omega) (by omega) (by omega) (by omega) hv.1 hw.1
  have e1 : (32 : Int32) * d = nI (32 * d9) := by rw [hx]; exact pk_mul 32 d9
  have e2 : (32 : Int32) * e = nI (32 * e9) := by rw [hy]; exact pk_mul 32 e9
  rw [e1, e2]
  refine w_cs1 s1 (fun a z2 e3 => ?_)
  cases e3
  by_cases ek : tk sg A = tk sg2 B
  · rw [decide_eq_true ek]
    exact w_ifF (by decide) (w_okZ (Or.inr rfl) (w_some ⟨ok1, Or.inl ⟨rfl, d9, A, sg, e9, B, sg2, hd, hx, hs, he, hy, hs2, ek⟩⟩))
  · rw [decide_eq_false ek]
    refine w_ifT rfl (w_okZ (Or.inl rfl) (w_some ⟨ok, Or.inr ⟨rfl, fun ⟨d', A', s1, e', B', s2, k1, k2, k3, k4, k5, k6, k7⟩ => ek ?_⟩⟩))
    obtain ⟨q1, q2⟩ := pl_uni k1 hd k2 hx k3 hs
    obtain ⟨q3, q4⟩ := pl_uni k4 he k5 hy k6 hs2
    rw [q1, q2, q3, q4] at k7
    exact k7
end XAL
section XALC
variable {vl : Nat → Nat} {y : ow_MS} {St : plT} {x x' : Int32}
theorem xc_alike (hN : dgC y) (hC : relC y St) (hS : okS St) : Te (fun K => ce_X11_alike vl K 0 x x' y) (fun r => r.2 = y ∧ (r.1 = 1 ∧ alG St x x' ∨ r.1 = 0 ∧ ¬ alG St x x')) := by
  have hy := dgC_E hN
  have got : ∀ {d : Nat} {C : cdT}, d < 40 → slC y 1000 d C → cOK C → 0 < C.2.length → ∃ A sg c, St d = some (A, sg) ∧ okL A c ∧ C = clC sg A := fun {d C} hd c1 c2 c3 => by
    cases e : St d with
    | none =>
      have h9 := (hC d hd).1 e
      have h8 : y.2.1 1002 d = nI C.2.length := c1.2.1
      rw [h8] at h9
      have := nI_inj9 (a := C.2.length) (b := 0) (by have := c2.2.1; omega) (by omega) h9
      omega
    | some P =>
      obtain ⟨k1, k2, c', k3⟩ := hS d P.1 P.2 hd e
      exact ⟨P.1, P.2, c', rfl, k3, slC_uni c2 (okL_c k3).2 c1 ((hC d hd).2 P.1 P.2 e)⟩
  refine e_X11_alike ?_; unfold cm_X11_alike_0
  refine w_cs1 (tc_hasDiagram hy) ?_
  rintro v y1 ⟨hv, e2⟩
  dsimp only at hv e2
  subst e2
  rcases hv with ⟨rfl, h1⟩ | ⟨rfl, h1⟩
  · refine w_ifF (by decide) (w_cs1 (tc_hasDiagram hy) ?_)
    rintro v y2 ⟨hv, e2⟩
    dsimp only at hv e2
    subst e2
    rcases hv with ⟨rfl, h2⟩ | ⟨rfl, h2⟩
    · obtain ⟨d, C, hd, rfl, c1, c2, c3⟩ := h1
      obtain ⟨e, D, he, rfl, d1, d2, d3⟩ := h2
      have hcb := cmpC_b c2 d2
      refine w_ifF (by decide) (w_cs1 (tc_compare ch_1000 ch_1000 hd he c1 d1 c2 d2) ?_)
      rintro v y3 ⟨hv, e2⟩
      dsimp only at hv e2
      subst e2
      subst hv
      refine w_if (fun e0 => w_okZ (Or.inr rfl) (w_some ⟨rfl, Or.inl ⟨rfl, ?_⟩⟩)) (fun e0 => w_okZ (Or.inl rfl) (w_some ⟨rfl, Or.inr ⟨rfl, fun hal => ?_⟩⟩))
      · have z0 := (iI_eq (by omega) (by omega) (by omega) (by omega)).mp (e0.trans (show (0 : Int32) = iI 0 from rfl))
        have eC := cmpC_0 z0
        obtain ⟨A, sg, cA, a1, a2, a3⟩ := got hd c1 c2 c3
        obtain ⟨B, sg', cB, b1, b2, b3⟩ := got he d1 d2 d3
        rw [a3, b3] at eC
        exact ⟨d, A, sg, e, B, sg', hd, rfl, a1, he, rfl, b1, (clC_tk a2 b2).mp eC⟩
      · have eC : C = D := by
          obtain ⟨A, sg, cA, a1, a2, a3⟩ := got hd c1 c2 c3
          obtain ⟨B, sg', cB, b1, b2, b3⟩ := got he d1 d2 d3
          obtain ⟨d', A', s1, e', B', s2, k1, k2, k3, k4, k5, k6, k7⟩ := hal
          obtain ⟨q1, q2⟩ := pl_uni k1 hd k2 rfl k3 a1
          obtain ⟨q3, q4⟩ := pl_uni k4 he k5 rfl k6 b1
          rw [q1, q2, q3, q4] at k7
          rw [a3, b3]
          exact (clC_tk a2 b2).mpr k7
        subst eC
        refine e0 ?_
        have aux : ∀ L : List Nat, lexD L L = 0 := by
          intro L
          induction L with
          | nil => rfl
          | cons a L ih =>
            show (if a = a then lexD L L else (a : Int) - a) = 0
            rw [if_pos rfl]
            exact ih
        have : cmpC C C = 0 := by
          unfold cmpC
          rw [if_pos rfl]
          exact aux _
        rw [this]
        rfl
    · exact w_ifT rfl (w_okZ (Or.inl rfl) (w_some ⟨rfl, Or.inr ⟨rfl, fun ⟨_, _, _, e, B, sg', _, _, _, k4, k5, k6, _⟩ => by rw [(relC_len hC hS k4).mp (h2 e k4 k5)] at k6; cases k6⟩⟩))
  · exact w_ifT rfl (w_okZ (Or.inl rfl) (w_some ⟨rfl, Or.inr ⟨rfl, fun ⟨d, A, sg, _, _, _, k4, k5, k6, _⟩ => by rw [(relC_len hC hS k4).mp (h1 d k4 k5)] at k6; cases k6⟩⟩))
end XALC
end
