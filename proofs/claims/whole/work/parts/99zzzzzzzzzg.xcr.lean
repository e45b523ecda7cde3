/-! exact calls of the class: reverse -/
section IRV
variable {A : rn_L} {sg : Nat → Bool} {f : Nat → Nat} {T : ow_NT} {t : Nat → Bool} {τ : Nat → Bool}
theorem rvX_in {L' : List (Nat × Nat)} (h : L' ∈ rvX τ A A.length) : ∃ k, ∃ hk : k < A.length, L' = tLL (τ k) A[k] := by
  obtain ⟨k, k1, k2⟩ := List.mem_map.mp h
  have hk := List.mem_range.mp k1
  refine ⟨k, hk, ?_⟩
  rw [← k2, List.getD_eq_getElem?_getD, List.getElem?_eq_getElem hk]
  rfl
theorem cirs_rvX : cirs (rvX τ A A.length) = cirs A := by
  have e : A = (List.range A.length).map (fun k => A.getD k []) := by
    apply List.ext_getElem?
    intro i
    rw [List.getElem?_map]
    by_cases h : i < A.length
    · rw [List.getElem?_range h, List.getElem?_eq_getElem h]
      show _ = some (A.getD i [])
      rw [List.getD_eq_getElem?_getD, List.getElem?_eq_getElem h]
      rfl
    · rw [List.getElem?_eq_none (by omega), List.getElem?_eq_none (by rw [List.length_range]; omega)]
      rfl
  have h1 : cirs (rvX τ A A.length) = (List.range A.length).countP (fun k => (A.getD k []).isEmpty) := by
    unfold cirs rvX
    rw [List.countP_map]
    congr 1
    funext k
    show (tLL (τ k) (A.getD k [])).isEmpty = _
    unfold tLL
    split
    · cases A.getD k [] with
      | nil => rfl
      | cons a X => simp
    · rfl
  rw [h1]
  conv => rhs; rw [e]
  unfold cirs
  rw [List.countP_map]
  rfl
theorem iso_turn (h : isoV A sg f T) (hT : pm1 T) (ht : ∀ p, p ∈ A.flatten → t (gl f p) = τ (cidx A p)) : (∀ k, k < 2 * T.1 → t (T.2.2.1.1 k) = t k) ∧ isoV (rvX τ A A.length) (sgT τ A sg) f (ntT T t) := by
  have hv := isoV_vn h
  have hF := h.1.1
  have sameC : ∀ k (hk : k < A.length) p, p ∈ A[k] → cidx A p = k := fun k hk p hp => cidx_of hF.1 hk hp
  have hloop : ∀ k, k < 2 * T.1 → t (T.2.2.1.1 k) = t k := fun k hk => by
    obtain ⟨p, p1, rfl⟩ := gl_sur h hk
    obtain ⟨L, l1, l2⟩ := List.mem_flatten.mp p1
    have nL := L_nd hF.1 l1
    have s1 : sc L p ∈ A.flatten := List.mem_flatten.mpr ⟨L, l1, sc_in l2 nL⟩
    rw [(h.2 L l1 p l2).1, ht _ s1, ht _ p1]
    obtain ⟨j, hj, rfl⟩ := List.mem_iff_getElem.mp l1
    rw [sameC j hj _ (sc_in l2 nL), sameC j hj _ l2]
  have pm := rvX_perm (τ := τ) (A := A)
  refine ⟨hloop, isoV_of (isoS_iff.mp ⟨wkF_perm pm hF, ?_, h.1.2.2.1, fun p hp => h.1.2.2.2.1 p (pm.mem_iff.mp hp), fun p q hp hq e => h.1.2.2.2.2.1 p q (pm.mem_iff.mp hp) (pm.mem_iff.mp hq) e, ?_, ?_, ?_⟩) (vn_T hv hloop)⟩
  · rw [pm.length_eq]
    exact h.1.2.1
  · intro L' hL' p hp
    obtain ⟨k, hk, rfl⟩ := rvX_in hL'
    have hpL : p ∈ A[k] := tLL_mem.mp hp
    have hLA : A[k] ∈ A := List.getElem_mem hk
    have nL := L_nd hF.1 hLA
    have pF : p ∈ A.flatten := List.mem_flatten.mpr ⟨_, hLA, hpL⟩
    have hgl := gl_lt h pF
    have htp : t (gl f p) = τ k := by rw [ht p pF, sameC k hk p hpL]
    show (ntT T t).2.2.1.1 (gl f p) = gl f (sc (tLL (τ k) A[k]) p)
    rw [(ntT_1 hgl).1, htp]
    unfold tLL
    cases τ k with
    | false =>
      rw [if_neg (by decide)]
      exact (h.2 _ hLA p hpL).1
    | true =>
      rw [if_pos rfl, if_pos rfl]
      obtain ⟨q, q1, q2⟩ := sc_pre nL hpL
      have e1 := (h.2 _ hLA q q1).2
      rw [q2] at e1
      have e2 := sc_rev nL q1
      rw [q2] at e2
      rw [e1, e2]
  · intro p hp
    have pF := pm.mem_iff.mp hp
    have hx := h.1.2.2.2.1 p pF
    have hw := hF.2 p pF
    have b0 : (p.1, 0) ∈ A.flatten ∧ (p.1, 1) ∈ A.flatten := by
      rcases (show p.2 = 0 ∨ p.2 = 1 by omega) with e | e
      · have e1 : p = (p.1, 0) := Prod.ext rfl e
        refine ⟨by rw [← e1]; exact pF, ?_⟩
        have := hw.2.2
        rw [e] at this
        exact this
      · have e1 : p = (p.1, 1) := Prod.ext rfl e
        refine ⟨?_, by rw [← e1]; exact pF⟩
        have := hw.2.2
        rw [e] at this
        exact this
    rw [ntT_G hx]
    have t0 : t (2 * f p.1) = τ (cidx A (p.1, 0)) := ht _ b0.1
    have t1 : t (2 * f p.1 + 1) = τ (cidx A (p.1, 1)) := ht _ b0.2
    rw [t0, t1]
    have hs := h.1.2.2.2.2.2.2.1 p pF
    unfold sgT
    by_cases e : (τ (cidx A (p.1, 0)) != τ (cidx A (p.1, 1))) = true
    · rw [if_pos e, if_pos e]
      rcases hT _ hx with h9 | h9
      · rw [h9] at hs ⊢
        cases hq : sg p.1 with
        | true => exact absurd (hs.mpr hq) (by decide)
        | false => exact ⟨fun _ => rfl, fun _ => by decide⟩
      · rw [h9] at hs ⊢
        rw [hs.mp (by decide)]
        exact ⟨fun h8 => absurd h8 (by decide), fun h8 => absurd h8 (by decide)⟩
    · rw [if_neg e, if_neg e]
      exact hs
  · rw [cirs_rvX]
    exact h.1.2.2.2.2.2.2.2
end IRV
section XCR
variable {vl : Nat → Nat} {y : ow_MS} {St : plT} {x x' : Int32}
theorem xc_reverse (hN : gN y) (hC : relC y St) (hS : okS St) : Te (fun K => ce_X11_reverse vl K 0 x x' y) (fun r => r.1 = 1 ∧ gN r.2.2 ∧ fr uP y r.2.2 ∧ relC r.2.2 St ∧ (∀ d, d < 40 → x = nI d → St d = none) ∨ ∃ d A sg, d < 40 ∧ x = nI d ∧ St d = some (A, sg) ∧ (r.1 = 1 ∧ gN r.2.2 ∧ fr uP y r.2.2 ∧ relC r.2.2 St ∧ ¬ cokC A x' ∨ cokC A x' ∧ (r.1 = 3 ∧ gN r.2.2 ∧ fr uP y r.2.2 ∧ relC r.2.2 St ∧ allF St ∨ r.1 = 0 ∧ ∃ e, lstF St e ∧ cKp y e (rvX (tauC x') A A.length) (sgT (tauC x') A sg) r.2))) := by
  let Q0 : ow_MS → Int32 → Nat × Int32 × ow_MS → Prop := fun y x r => r.1 = 1 ∧ gN r.2.2 ∧ fr uP y r.2.2 ∧ relC r.2.2 St ∧ (∀ d, d < 40 → x = nI d → St d = none) ∨ ∃ d A sg, d < 40 ∧ x = nI d ∧ St d = some (A, sg) ∧ (r.1 = 1 ∧ gN r.2.2 ∧ fr uP y r.2.2 ∧ relC r.2.2 St ∧ ¬ cokC A x' ∨ cokC A x' ∧ (r.1 = 3 ∧ gN r.2.2 ∧ fr uP y r.2.2 ∧ relC r.2.2 St ∧ allF St ∨ r.1 = 0 ∧ ∃ e, lstF St e ∧ cKp y e (rvX (tauC x') A A.length) (sgT (tauC x') A sg) r.2))
  refine e_X11_reverse ?_
  refine u_X11_reverse_0 ?_; unfold cm_X11_reverse_0
  refine w_tc0 (xc_need hN.1 hC hS) ?_ ?_
  · rintro y1 ⟨h1, rfl⟩
    rcases h1 with h1 | ⟨-, d, A, sg, c, hd, rfl, hSt, hs, hA, hne, hpl⟩
    · exact absurd (show (0 : Nat) = 1 from h1.1) (by decide)
    · refine w_cs0 (xc_ld hN hd hs hA hpl) ?_
      rintro y3 ⟨hN3, f3, T, hT, hT1, hV, hpm, hTp⟩
      have f3u : fr uP y1 y3 := fr_mono (fun g hg => by unfold cL at hg; unfold uP; omega) f3
      have hC3 : relC y3 St := relC_fr f3 (fun q hq h9 => by unfold cW at hq; unfold cL at h9; omega) hC
      have hv := hT.2.2.1
      have h6 := hA.2.2.2.2
      have c1 : cokC A x' → Tt (fun K t => c_X11_reverse vl K t 1 (nI d) x' 0 y3) (Q0 y1 (nI d)) := by
        intro hok
        refine u_X11_reverse_1 ?_; unfold cm_X11_reverse_1
        refine w_tc1 (xc_free hN3.1 hC3 hS) ?_ ?_
        · rintro v y5 ⟨h5, rfl⟩
          rcases h5 with h5 | ⟨-, e, rfl, hl⟩
          · exact absurd (show (0 : Nat) = 3 from h5.1) (by decide)
          · refine w_cs0 (tc_turn (F := y5.2.1 4005) nH4 hT.1 hv.2.1 (fun _ => rfl)) ?_
            rintro y6 ⟨g1, g2⟩
            have g1 : cAt y6 4000 (ntT T (fun v => decide (x' = -1) || decide (y5.2.1 4005 v = x'))) := g1
            have htau : ∀ p, p ∈ A.flatten → (fun v => decide (x' = -1) || decide (y5.2.1 4005 v = x')) (gl (fun x => x) p) = tauC x' (cidx A p) := fun p hp => by
              obtain ⟨u, u1, u2⟩ := mem_vAt hp
              have e1 : y5.2.1 4005 (lb (vAt A u)) = nI (rn_c A u) := hT.2.2.2.2.1 u u1
              rw [u2] at e1
              have e1 : y5.2.1 4005 (gl (fun x => x) p) = nI (rn_c A u) := e1
              have e2 := rc_idx hV.1.1.1 u1
              rw [u2] at e2
              show (decide (x' = -1) || decide (y5.2.1 4005 (gl (fun x => x) p) = x')) = _
              unfold tauC
              rw [e1, e2]
              congr 1
              exact decide_eq_decide.mpr eq_comm
            obtain ⟨k1, k2⟩ := iso_turn (t := fun v => decide (x' = -1) || decide (y5.2.1 4005 v = x')) (τ := tauC x') hV hpm htau
            have hv6 := nv_turn (t := fun v => decide (x' = -1) || decide (y5.2.1 4005 v = x')) (G := (np_turn (fun v => decide (x' = -1) || decide (y5.2.1 4005 v = x')) T.2.2.1 T.2.2.2 (2 * T.1)).2) hv k1
            refine w_cs1 (tc_keep (gN_net nH4 g2 (fun g hg => by unfold cP at hg; omega) ⟨_, g1, hv6.2.2.1⟩ hN3) hl.1 g1 hv6) ?_
            rintro r y7 ⟨q0, q1, q2, ⟨Cs, os, q3, q4⟩, q5, -⟩
            exact w_some (Or.inr ⟨d, A, sg, hd, rfl, hSt, Or.inr ⟨hok, Or.inr ⟨rfl, e, hl, q0, q1, fr_tr f3u (fr_tr (fr_mono (fun g hg => by unfold cP at hg; unfold uP; omega) g2) q2), ⟨_, _, Cs, os, hv6, pm1_T hpm, k2, pl_turn hv.1 hv.2.1 hpm k1 hTp, q3, q4⟩, fun d' C' h1 h2 h3 => q5 d' C' h1 h2 (slC_fr g2 (fun q hq h9 => by unfold cW at hq; unfold cP at h9; omega) (slC_fr f3 (fun q hq h9 => by unfold cW at hq; unfold cL at h9; omega) h3))⟩⟩⟩)
        · rintro a v y5 ha ⟨h5, rfl⟩
          rcases h5 with h5 | h5
          · exact w_some (Or.inr ⟨d, A, sg, hd, rfl, hSt, Or.inr ⟨hok, Or.inl ⟨h5.1, hN3, f3u, hC3, h5.2⟩⟩⟩)
          · exact absurd h5.1 ha
      refine w_if (fun h9 => c1 (Or.inl h9)) (fun h9 => w_tc0 (tc_needComponent hT.2.2.2.2.2 (by omega)) ?_ ?_)
      · rintro y4 ⟨h4, e4⟩
        have e4 : y4 = y3 := e4
        rw [e4]
        rcases h4 with ⟨-, i, hi, e5⟩ | h4
        · exact c1 (Or.inr ⟨i, hi, e5⟩)
        · exact absurd (show (0 : Nat) = 1 from h4.1) (by decide)
      · rintro a y4 ha ⟨h4, e4⟩
        have e4 : y4 = y3 := e4
        rw [e4]
        rcases h4 with h4 | h4
        · exact absurd h4.1 ha
        · refine w_some (Or.inr ⟨d, A, sg, hd, rfl, hSt, Or.inl ⟨h4.1, hN3, f3u, hC3, fun hk => ?_⟩⟩)
          rcases hk with hk | ⟨k, k1, k2⟩
          · exact h9 hk
          · exact h4.2 k k1 k2
  · rintro a y1 ha ⟨h1, rfl⟩
    rcases h1 with h1 | h1
    · exact w_some (Or.inl ⟨h1.1, hN, fr_rf, hC, h1.2⟩)
    · exact absurd h1.1 ha
end XCR
