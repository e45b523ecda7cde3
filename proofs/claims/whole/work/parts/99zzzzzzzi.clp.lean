/-! the class: the loops of a state, gone round -/
/-- the end that is joined to an end -/
def muE (G : Nat → Int32) (b : Nat → Bool) (e : Nat) : Nat := if alB G b (e / 4) then 2 * mt (e / 2) + (1 - e % 2) else 2 * mt (e / 2) + e % 2
section LPP
variable {S : ow_NP} {G : Nat → Int32} {b : Nat → Bool} {c : Nat}
theorem mt_h (v : Nat) : mt v / 2 = v / 2 ∧ mt v ≠ v ∧ mt (mt v) = v := by
  unfold mt
  refine ⟨?_, ?_, ?_⟩
  · split <;> omega
  · split <;> omega
  · split <;> split <;> omega
theorem muE_i (e : Nat) : muE G b e / 4 = e / 4 ∧ muE G b e / 2 = mt (e / 2) ∧ muE G b e ≠ e ∧ muE G b (muE G b e) = e := by
  obtain ⟨m1, m2, m3⟩ := mt_h (e / 2)
  have key : ∀ k, k / 2 = mt (e / 2) → k / 4 = e / 4 := fun k hk => by omega
  have h1 : muE G b e / 2 = mt (e / 2) := by
    unfold muE
    split <;> omega
  have h2 := key _ h1
  have h3 : muE G b e % 2 = if alB G b (e / 4) then 1 - e % 2 else e % 2 := by
    unfold muE
    split <;> omega
  refine ⟨h2, h1, fun h9 => m2 (by rw [← h1, h9]), ?_⟩
  unfold muE at h1 h2 h3 ⊢
  by_cases ha : alB G b (e / 4) = true
  · rw [if_pos ha] at h1 h2 h3 ⊢
    rw [if_pos ha] at h3
    rw [h2, if_pos ha, h1, m3, h3]
    omega
  · rw [if_neg ha] at h1 h2 h3 ⊢
    rw [if_neg ha] at h3
    rw [h2, if_neg ha, h1, m3, h3]
    omega
theorem p0E_i (hv : vn c S) {e : Nat} (he : e < 4 * c) : p0E S e < 4 * c ∧ p0E S (p0E S e) = e ∧ p0E S e % 2 ≠ e % 2 ∧ egp S (p0E S e) = egp S e := by
  obtain ⟨v1, v2, v3, v4⟩ := hv (e / 2) (by omega)
  unfold p0E egp
  by_cases h : e % 2 = 0
  · rw [if_pos h, if_pos h]
    refine ⟨by omega, ?_, by omega, ?_⟩
    · rw [if_neg (by omega), show (2 * S.1 (e / 2) + 1) / 2 = S.1 (e / 2) by omega, v3]
      omega
    · rw [if_neg (by omega), show (2 * S.1 (e / 2) + 1) / 2 = S.1 (e / 2) by omega, v3]
  · rw [if_neg h, if_neg h]
    refine ⟨by omega, ?_, by omega, ?_⟩
    · rw [if_pos (by omega), show (2 * S.2 (e / 2)) / 2 = S.2 (e / 2) by omega, v4]
      omega
    · rw [if_pos (by omega), show (2 * S.2 (e / 2)) / 2 = S.2 (e / 2) by omega]
theorem egp_two (hv : vn c S) {e d : Nat} (he : e < 4 * c) (hd : d < 4 * c) (h : egp S e = egp S d) : d = e ∨ d = p0E S e := by
  obtain ⟨v1, v2, v3, v4⟩ := hv (e / 2) (by omega)
  obtain ⟨w1, w2, w3, w4⟩ := hv (d / 2) (by omega)
  unfold egp at h
  unfold p0E
  by_cases h1 : e % 2 = 0
  · rw [if_pos h1] at h ⊢
    by_cases h2 : d % 2 = 0
    · rw [if_pos h2] at h
      omega
    · rw [if_neg h2] at h
      rw [h, w4]
      omega
  · rw [if_neg h1] at h ⊢
    by_cases h2 : d % 2 = 0
    · rw [if_pos h2] at h
      omega
    · rw [if_neg h2] at h
      have := vn_inj2 hv (show e / 2 < 2 * c by omega) (show d / 2 < 2 * c by omega) h
      omega
theorem muE_lt {e : Nat} (he : e < 4 * c) : muE G b e < 4 * c := by
  have := (muE_i (G := G) (b := b) e).1
  omega
/-- labels that stay across the joins -/
def clL (S : ow_NP) (G : Nat → Int32) (b : Nat → Bool) (c : Nat) (f : Nat → Option Nat) : Prop := ∀ d l, d < 4 * c → f (egp S d) = some l → f (egp S (muE G b d)) = some l
/-- gone round from e0, now at e, behind ep -/
def wkL (S : ow_NP) (G : Nat → Int32) (b : Nat → Bool) (c : Nat) (f : Nat → Option Nat) (l e0 ep e : Nat) : Prop := e0 < 4 * c ∧ ep < 4 * c ∧ e = p0E S (muE G b ep) ∧ f (egp S ep) = some l ∧ f (egp S e0) = some l ∧ (∀ d l', d < 4 * c → f (egp S d) = some l' → f (egp S (muE G b d)) = some l' ∨ d = ep ∧ l' = l ∨ d = p0E S e0 ∧ l' = l) ∧ (f (egp S e) = none ∨ e = e0)
theorem wkL_lt (hv : vn c S) {f : Nat → Option Nat} {l e0 ep e : Nat} (h : wkL S G b c f l e0 ep e) : e < 4 * c := by
  rw [h.2.2.1]
  exact (p0E_i hv (muE_lt h.2.1)).1
theorem wkL_0 (hv : vn c S) {f : Nat → Option Nat} {l e0 : Nat} (he : e0 < 4 * c) (hn : f (egp S e0) = none) (h : clL S G b c f) : wkL S G b c (stO f (egp S e0) l) l e0 e0 (p0E S (muE G b e0)) := by
  have m1 := muE_lt (G := G) (b := b) he
  obtain ⟨-, -, m3, m4⟩ := muE_i (G := G) (b := b) e0
  obtain ⟨q1, q2, q3, q4⟩ := p0E_i hv m1
  obtain ⟨r1, r2, r3, r4⟩ := p0E_i hv he
  refine ⟨he, he, rfl, stO_at, stO_at, fun d l' hd hl => ?_, ?_⟩
  · by_cases c1 : egp S d = egp S e0
    · rw [c1, stO_at] at hl
      injection hl with hl
      rcases egp_two hv he hd c1.symm with h9 | h9
      · exact Or.inr (Or.inl ⟨h9, hl.symm⟩)
      · exact Or.inr (Or.inr ⟨h9, hl.symm⟩)
    · rw [stO_ne c1] at hl
      have := h d l' hd hl
      refine Or.inl ?_
      rw [stO_ne (fun h9 => by rw [h9, hn] at this; cases this)]
      exact this
  · by_cases c1 : p0E S (muE G b e0) = e0
    · exact Or.inr c1
    · refine Or.inl ?_
      rw [q4]
      by_cases c2 : egp S (muE G b e0) = egp S e0
      · rcases egp_two hv he m1 c2.symm with h9 | h9
        · exact absurd h9 m3
        · exact absurd (by rw [h9, r2]) c1
      · rw [stO_ne c2]
        cases hf : f (egp S (muE G b e0)) with
        | none => rfl
        | some l' =>
          have := h _ l' m1 hf
          rw [m4, hn] at this
          cases this
theorem wkL_s (hv : vn c S) {f : Nat → Option Nat} {l e0 ep e : Nat} (hn : f (egp S e) = none) (h : wkL S G b c f l e0 ep e) : wkL S G b c (stO f (egp S e) l) l e0 e (p0E S (muE G b e)) := by
  have he := wkL_lt hv h
  obtain ⟨h1, h2, h3, h4, h5, h6, h7⟩ := h
  have m1 := muE_lt (G := G) (b := b) he
  obtain ⟨-, -, m3, m4⟩ := muE_i (G := G) (b := b) e
  obtain ⟨q1, q2, q3, q4⟩ := p0E_i hv m1
  obtain ⟨r1, r2, r3, r4⟩ := p0E_i hv he
  have n1 := muE_lt (G := G) (b := b) h2
  obtain ⟨-, -, n3, n4⟩ := muE_i (G := G) (b := b) ep
  have pe : p0E S e = muE G b ep := by
    rw [h3, (p0E_i hv n1).2.1]
  have ege : egp S (muE G b ep) = egp S e := by
    rw [h3, (p0E_i hv n1).2.2.2]
  have ne : ∀ x, f x ≠ none → x ≠ egp S e := fun x hx e9 => hx (by rw [e9]; exact hn)
  refine ⟨h1, he, rfl, stO_at, ?_, fun d l' hd hl => ?_, ?_⟩
  · rw [stO_ne (ne _ (by rw [h5]; simp))]
    exact h5
  · by_cases c1 : egp S d = egp S e
    · rw [c1, stO_at] at hl
      injection hl with hl
      rcases egp_two hv he hd c1.symm with h9 | h9
      · exact Or.inr (Or.inl ⟨h9, hl.symm⟩)
      · refine Or.inl ?_
        rw [h9, pe, n4, stO_ne (ne _ (by rw [h4]; simp)), h4, hl]
    · rw [stO_ne c1] at hl
      rcases h6 d l' hd hl with h9 | ⟨h9, h8⟩ | ⟨h9, h8⟩
      · refine Or.inl ?_
        rw [stO_ne (fun e9 => by rw [e9, hn] at h9; cases h9)]
        exact h9
      · refine Or.inl ?_
        rw [h9, ege, stO_at, h8]
      · exact Or.inr (Or.inr ⟨h9, h8⟩)
  · by_cases c1 : p0E S (muE G b e) = e0
    · exact Or.inr c1
    · refine Or.inl ?_
      rw [q4]
      by_cases c2 : egp S (muE G b e) = egp S e
      · rcases egp_two hv he m1 c2.symm with h9 | h9
        · exact absurd h9 m3
        · rw [pe] at h9
          have : e = ep := by rw [← m4, h9, n4]
          rw [this, h4] at hn
          cases hn
      · rw [stO_ne c2]
        cases hf : f (egp S (muE G b e)) with
        | none => rfl
        | some l' =>
          exfalso
          rcases h6 _ l' m1 hf with h9 | ⟨h9, -⟩ | ⟨h9, -⟩
          · rw [m4, hn] at h9
            cases h9
          · have e1 : muE G b ep = e := by rw [← h9, m4]
            rw [e1] at pe
            exact r3 (by rw [pe])
          · exact c1 (by rw [h9, (p0E_i hv h1).2.1])
theorem wkL_e (hv : vn c S) {f : Nat → Option Nat} {l e0 ep e : Nat} (hn : f (egp S e) ≠ none) (h : wkL S G b c f l e0 ep e) : clL S G b c f := by
  obtain ⟨h1, h2, h3, h4, h5, h6, h7⟩ := h
  have he0 : e = e0 := h7.resolve_left hn
  have n1 := muE_lt (G := G) (b := b) h2
  obtain ⟨-, -, n3, n4⟩ := muE_i (G := G) (b := b) ep
  have ege : egp S (muE G b ep) = egp S e := by
    rw [h3, (p0E_i hv n1).2.2.2]
  have pe : p0E S e = muE G b ep := by
    rw [h3, (p0E_i hv n1).2.1]
  intro d l' hd hl
  rcases h6 d l' hd hl with h9 | ⟨h9, h8⟩ | ⟨h9, h8⟩
  · exact h9
  · rw [h9, ege, he0, h5, h8]
  · rw [h9, ← he0, pe, n4, h4, h8]
/-- the joins are those of the state -/
theorem muE_un (hv : vn c S) {e : Nat} (he : e < 4 * c) : rt (uPx S G b c) (egp S e) = rt (uPx S G b c) (egp S (muE G b e)) := by
  obtain ⟨j1, j2⟩ := uPx_j (S := S) (G := G) (b := b) c (e / 4) (by omega)
  have key : ∀ k, k < 4 → e = 4 * (e / 4) + k → rt (uPx S G b c) (egp S e) = rt (uPx S G b c) (egp S (muE G b e)) := by
    intro k hk he4
    unfold toI at j1
    unfold toO at j2
    generalize hx : e / 4 = x at *
    have m0 : mt (2 * x) = 2 * x + 1 := by unfold mt; rw [if_pos (by omega)]
    have m1 : mt (2 * x + 1) = 2 * x := by unfold mt; rw [if_neg (by omega)]; omega
    have mu : muE G b e = if alB G b x then 2 * mt (e / 2) + (1 - e % 2) else 2 * mt (e / 2) + e % 2 := by
      unfold muE
      rw [hx]
    rw [mu]
    have k4 : k = 0 ∨ k = 1 ∨ k = 2 ∨ k = 3 := by omega
    by_cases ha : alB G b x = true
    · rw [if_pos ha] at j1 j2 ⊢
      rcases k4 with rfl | rfl | rfl | rfl
      · rw [show e / 2 = 2 * x by omega, show e % 2 = 0 by omega, m0, show e = 4 * x by omega, show 2 * (2 * x + 1) + (1 - 0) = 4 * x + 3 by omega]
        exact j2
      · rw [show e / 2 = 2 * x by omega, show e % 2 = 1 by omega, m0, show e = 4 * x + 1 by omega, show 2 * (2 * x + 1) + (1 - 1) = 4 * x + 2 by omega]
        exact j1
      · rw [show e / 2 = 2 * x + 1 by omega, show e % 2 = 0 by omega, m1, show e = 4 * x + 2 by omega, show 2 * (2 * x) + (1 - 0) = 4 * x + 1 by omega]
        exact j1.symm
      · rw [show e / 2 = 2 * x + 1 by omega, show e % 2 = 1 by omega, m1, show e = 4 * x + 3 by omega, show 2 * (2 * x) + (1 - 1) = 4 * x by omega]
        exact j2.symm
    · rw [if_neg ha] at j1 j2 ⊢
      rcases k4 with rfl | rfl | rfl | rfl
      · rw [show e / 2 = 2 * x by omega, show e % 2 = 0 by omega, m0, show e = 4 * x by omega, show 2 * (2 * x + 1) + 0 = 4 * x + 2 by omega]
        exact j2
      · rw [show e / 2 = 2 * x by omega, show e % 2 = 1 by omega, m0, show e = 4 * x + 1 by omega, show 2 * (2 * x + 1) + 1 = 4 * x + 3 by omega]
        exact j1
      · rw [show e / 2 = 2 * x + 1 by omega, show e % 2 = 0 by omega, m1, show e = 4 * x + 2 by omega, show 2 * (2 * x) + 0 = 4 * x by omega]
        exact j2.symm
      · rw [show e / 2 = 2 * x + 1 by omega, show e % 2 = 1 by omega, m1, show e = 4 * x + 3 by omega, show 2 * (2 * x) + 1 = 4 * x + 1 by omega]
        exact j1.symm
  exact key (e % 4) (by omega) (by omega)
/-- labels that stay across the joins are labels of the loops -/
theorem clL_un (hv : vn c S) {f : Nat → Option Nat} (h : clL S G b c f) (hall : ∀ g, g < 2 * c → f g ≠ none) {g g' : Nat} (hg : g < 2 * c) (hg' : g' < 2 * c) (e : rt (uPx S G b c) g = rt (uPx S G b c) g') : f g = f g' := by
  have fs : ∀ d, d < 4 * c → f (egp S d) = f (egp S (muE G b d)) := by
    intro d hd
    cases hf : f (egp S d) with
    | none => exact absurd hf (hall _ (egp_lt hv hd))
    | some l => exact (h d l hd hf).symm
  have key := uPx_min (M := fun g => (f g).getD 0) hv (fun x hx => ?_) c (Nat.le_refl _) g g' hg hg' e
  · have key : (f g).getD 0 = (f g').getD 0 := key
    cases h1 : f g with
    | none => exact absurd h1 (hall g hg)
    | some l =>
      cases h2 : f g' with
      | none => exact absurd h2 (hall g' hg')
      | some l' =>
        rw [h1, h2] at key
        exact congrArg some key
  · have m0 : mt (2 * x) = 2 * x + 1 := by unfold mt; rw [if_pos (by omega)]
    have f0 := fs (4 * x) (by omega)
    have f1 := fs (4 * x + 1) (by omega)
    unfold muE at f0 f1
    rw [show 4 * x / 4 = x by omega, show 4 * x / 2 = 2 * x by omega, show 4 * x % 2 = 0 by omega, m0] at f0
    rw [show (4 * x + 1) / 4 = x by omega, show (4 * x + 1) / 2 = 2 * x by omega, show (4 * x + 1) % 2 = 1 by omega, m0] at f1
    unfold toI toO
    by_cases ha : alB G b x = true
    · rw [if_pos ha] at f0 f1
      rw [if_pos ha, if_pos ha, show 4 * x + 2 = 2 * (2 * x + 1) + (1 - 1) by omega, show 4 * x + 3 = 2 * (2 * x + 1) + (1 - 0) by omega, f0, f1]
      exact ⟨rfl, rfl⟩
    · rw [if_neg ha] at f0 f1
      rw [if_neg ha, if_neg ha, show 4 * x + 3 = 2 * (2 * x + 1) + 1 by omega, show 4 * x + 2 = 2 * (2 * x + 1) + 0 by omega, f0, f1]
      exact ⟨rfl, rfl⟩
theorem clL_gd {f : Nat → Option Nat} {n x : Nat} (h : clL S G b c f) (hx : x < c) : (f (egp S (4 * x + 1))).getD n = (f (egp S (toI G b x))).getD n ∧ (f (egp S (4 * x))).getD n = (f (egp S (toO G b x))).getD n := by
  have fs : ∀ d, d < 4 * c → f (egp S d) = f (egp S (muE G b d)) := by
    intro d hd
    cases hf : f (egp S d) with
    | none =>
      cases hf2 : f (egp S (muE G b d)) with
      | none => rfl
      | some l =>
        have := h _ l (muE_lt hd) hf2
        rw [(muE_i d).2.2.2, hf] at this
        cases this
    | some l => exact (h d l hd hf).symm
  have m0 : mt (2 * x) = 2 * x + 1 := by unfold mt; rw [if_pos (by omega)]
  have f0 := fs (4 * x) (by omega)
  have f1 := fs (4 * x + 1) (by omega)
  unfold muE at f0 f1
  rw [show 4 * x / 4 = x by omega, show 4 * x / 2 = 2 * x by omega, show 4 * x % 2 = 0 by omega, m0] at f0
  rw [show (4 * x + 1) / 4 = x by omega, show (4 * x + 1) / 2 = 2 * x by omega, show (4 * x + 1) % 2 = 1 by omega, m0] at f1
  unfold toI toO
  by_cases ha : alB G b x = true
  · rw [if_pos ha] at f0 f1
    rw [if_pos ha, if_pos ha, show 4 * x + 2 = 2 * (2 * x + 1) + (1 - 1) by omega, show 4 * x + 3 = 2 * (2 * x + 1) + (1 - 0) by omega, f0, f1]
    exact ⟨rfl, rfl⟩
  · rw [if_neg ha] at f0 f1
    rw [if_neg ha, if_neg ha, show 4 * x + 3 = 2 * (2 * x + 1) + 1 by omega, show 4 * x + 2 = 2 * (2 * x + 1) + 0 by omega, f0, f1]
    exact ⟨rfl, rfl⟩
end LPP
