/-! two gaps exchanged: at most one ring more -/
theorem sr_ex {D : Nat → Prop} {S : ow_NP} (h : vD D S) (h24 : ∀ k, D k → k < 24) {v w : Nat} {T : ow_NP} (hT : vD D T) (hv : D v) (hw : D w) (e1 : S.1 v = T.1 w) (e2 : S.1 w = T.1 v) (e3 : ∀ k, D k → ¬ k = v → ¬ k = w → S.1 k = T.1 k) {k j : Nat} (hk : D k) (nk : ¬ sr T.1 k w) (nj : ¬ sr T.1 j w) (hj : D j) (hr : sr S.1 k j) : sr T.1 k j := by
  obtain ⟨i, hi⟩ := hr
  have key : ∀ i, sr T.1 k (it S.1 i k) ∨ ((sr T.1 k v ∨ sr T.1 k w) ∧ (sr T.1 v (it S.1 i k) ∨ sr T.1 w (it S.1 i k))) := by
    intro i
    induction i with
    | zero => exact Or.inl (sr_rf _ _)
    | succ i ih =>
      have hx := itD h hk i
      show sr T.1 k (S.1 (it S.1 i k)) ∨ ((sr T.1 k v ∨ sr T.1 k w) ∧ (sr T.1 v (S.1 (it S.1 i k)) ∨ sr T.1 w (S.1 (it S.1 i k))))
      generalize it S.1 i k = x at ih hx
      by_cases a1 : x = v
      · rw [a1] at ih
        rw [a1, e1]
        refine Or.inr ⟨?_, Or.inr (sr_n _ _)⟩
        rcases ih with q | q
        · exact Or.inl q
        · exact q.1
      · by_cases a2 : x = w
        · rw [a2] at ih
          rw [a2, e2]
          refine Or.inr ⟨?_, Or.inl (sr_n _ _)⟩
          rcases ih with q | q
          · exact Or.inr q
          · exact q.1
        · rw [e3 x hx a1 a2]
          rcases ih with q | ⟨q1, q2 | q2⟩
          · exact Or.inl (sr_tr q (sr_n _ _))
          · exact Or.inr ⟨q1, Or.inl (sr_tr q2 (sr_n _ _))⟩
          · exact Or.inr ⟨q1, Or.inr (sr_tr q2 (sr_n _ _))⟩
  have := key i
  rw [hi] at this
  rcases this with q | ⟨q1, q2⟩
  · exact q
  · rcases q1 with q1 | q1
    · rcases q2 with q2 | q2
      · exact sr_tr q1 q2
      · exact absurd (sr_sy hT h24 hw q2) nj
    · exact absurd q1 nk
theorem rgD_ex {D : Nat → Bool} {S : ow_NP} (h : vD (fun k => D k = true) S) (hD : ∀ k, D k = true → k < 24) {v w : Nat} {T : ow_NP} (hT : vD (fun k => D k = true) T) (hv : D v = true) (hw : D w = true) (e1 : S.1 v = T.1 w) (e2 : S.1 w = T.1 v) (e3 : ∀ k, D k = true → ¬ k = v → ¬ k = w → S.1 k = T.1 k) : rgD D T ≤ rgD D S + 1 := by
  obtain ⟨w0, hw0, hs0, hl0⟩ := sr_least hT hD hw
  have hq : (D w0 && lst T.1 w0 24) = true := by rw [hw0, hl0]; rfl
  unfold rgD
  rw [cntB_rm (q := fun k => D k && lst T.1 k 24) (w := w0) (hD w0 hw0) hq]
  have hex : ∀ k, ∃ u, D k = true → D u = true ∧ sr S.1 k u ∧ lst S.1 u 24 = true := fun k => by
    by_cases e : D k = true
    · obtain ⟨u, a1, a2, a3⟩ := sr_least h hD e
      exact ⟨u, fun _ => ⟨a1, a2, a3⟩⟩
    · exact ⟨0, fun q => absurd q e⟩
  have spl : ∀ k, ((D k && lst T.1 k 24) && decide (k ≠ w0)) = true → D k = true ∧ lst T.1 k 24 = true ∧ ¬ sr T.1 k w := fun k hk => by
    rw [Bool.and_eq_true, Bool.and_eq_true, decide_eq_true_eq] at hk
    exact ⟨hk.1.1, hk.1.2, fun q => hk.2 (lst_uni hT hD hk.1.1 hw0 hk.1.2 hl0 (sr_tr q hs0))⟩
  have := cntB_inj (n := 24) 24 (fun k => (D k && lst T.1 k 24) && decide (k ≠ w0)) (fun k => D k && lst S.1 k 24) (fun k => Classical.choose (hex k)) (fun k _ hk => by
    obtain ⟨a1, a2, a3⟩ := Classical.choose_spec (hex k) (spl k hk).1
    exact ⟨hD _ a1, by show (D _ && lst S.1 _ 24) = true; rw [a1, a3]; rfl⟩) (fun k j _ _ hk hj e => by
    obtain ⟨k1, k2, k3⟩ := spl k hk
    obtain ⟨j1, j2, j3⟩ := spl j hj
    obtain ⟨a1, a2, a3⟩ := Classical.choose_spec (hex k) k1
    obtain ⟨b1, b2, b3⟩ := Classical.choose_spec (hex j) j1
    have e : Classical.choose (hex k) = Classical.choose (hex j) := e
    rw [e] at a2
    have hr : sr S.1 k j := sr_tr a2 (sr_sy h hD j1 b2)
    exact lst_uni hT hD k1 j1 k2 j2 (sr_ex h hD hT hv hw e1 e2 e3 k1 k3 j3 j1 hr))
  omega
/-- an exchange of two gaps makes at most one ring more -/
theorem np_rg_exchange {c v w : Nat} {S : ow_NP} (h : vn c S) (hc : c ≤ 12) (hv : v < 2 * c) (hw : w < 2 * c) : np_rg c (np_exchange S v w) ≤ np_rg c S + 1 := by
  rw [np_rg_D _ hc, np_rg_D _ hc]
  have hx := vn_exchange h hv hw
  by_cases e : v = w
  · rw [rgD_cg (D := ltB c) (T := np_exchange S v w) (vn_ltB h) (fun k _ => by
      rw [np_exchange_1, e]
      by_cases e2 : k = w
      · rw [if_pos e2, e2]
      · rw [if_neg e2, if_neg e2])]
    exact Nat.le_succ _
  · refine rgD_ex (vn_ltB h) (ltB_24 hc) (v := v) (w := w) (vn_ltB hx) (ltB_t.mpr hv) (ltB_t.mpr hw) ?_ ?_ (fun k _ a1 a2 => ?_)
    · rw [np_exchange_1, if_pos rfl]
    · rw [np_exchange_1, if_neg e, if_pos rfl]
    · rw [np_exchange_1, if_neg a2, if_neg a1]
