/-! pushed arcs that stay plane share a face -/
section PU
variable {c v w k x y e1 b1 b2 : Nat} {S St : ow_NP} {b bt : Nat → Bool} {f : Nat → Nat} {X : List Nat} {P : Nat → Bool} {ph : Nat → Nat}
theorem pu_abs (hX : ∀ d, d ∈ X → d < 4 * c + 8) (hdv : pm_dv f X) (hk : k + 2 ≤ X.length) (hx : x < 4 * c) (hy : y < 4 * c) (hold : ∀ d, d < 4 * c + 8 → f d = f e1 ∨ ∃ d', d' < 4 * c ∧ f d' = f d) (hlt : ∀ d, d < 4 * c → ph d < 4 * c) (hinv : ∀ d, d < 4 * c → f (ph d) = f d ∨ (d = x ∧ f (ph d) = f y) ∨ (d = y ∧ f (ph d) = f x)) (hP : ∀ d, d < 4 * c → P (ph d) = P d) (hPx : P x = true) (hPy : P y = false) : ∃ (g : Nat → Nat) (Y : List Nat), (∀ d, d < 4 * c → g (ph d) = g d) ∧ (∀ d, d ∈ Y → d < 4 * c) ∧ pm_dv g Y ∧ k + 1 ≤ Y.length := by
  classical
  have r1 := pm_rest hdv (f e1)
  have d1 := pm_fil (fun x => !decide (f x = f e1)) hdv
  obtain ⟨X1, hX1⟩ : ∃ X1, X1 = X.filter (fun x => !decide (f x = f e1)) := ⟨_, rfl⟩
  rw [← hX1] at r1 d1
  have m1 : ∀ d, d ∈ X1 → ∃ d', d' < 4 * c ∧ f d' = f d := by
    intro d hd
    rw [hX1] at hd
    obtain ⟨h1, h2⟩ := List.mem_filter.mp hd
    rcases hold d (hX d h1) with h9 | h9
    · rw [decide_eq_true h9] at h2
      cases h2
    · exact h9
  have reps : ∀ L : List Nat, (∀ d, d ∈ L → ∃ d', d' < 4 * c ∧ f d' = f d) → ∃ Z : List Nat, Z.map f = L.map f ∧ ∀ d, d ∈ Z → d < 4 * c := by
    intro L
    induction L with
    | nil => exact fun _ => ⟨[], rfl, fun d hd => absurd hd List.not_mem_nil⟩
    | cons a L ih =>
      intro hL
      obtain ⟨Z, z1, z2⟩ := ih (fun d hd => hL d (List.mem_cons_of_mem _ hd))
      obtain ⟨a', a1, a2⟩ := hL a List.mem_cons_self
      refine ⟨a' :: Z, by rw [List.map_cons, List.map_cons, z1, a2], fun d hd => ?_⟩
      rcases List.mem_cons.mp hd with h9 | h9
      · rw [h9]
        exact a1
      · exact z2 d h9
  obtain ⟨Z, z1, z2⟩ := reps X1 m1
  have zl : Z.length = X1.length := by
    have := congrArg List.length z1
    rw [List.length_map, List.length_map] at this
    exact this
  have zd : pm_dv f Z := by
    unfold pm_dv at d1 ⊢
    rw [z1]
    exact d1
  obtain ⟨Z', q1, q2, q3⟩ := pm_mg_dv zd (f x) (f y)
  have gxy : pm_mg f (f x) (f y) x = pm_mg f (f x) (f y) y := pm_mg_m
  obtain ⟨Y, y1, y2, y3⟩ := pm_sp_dv q3 hPx hPy gxy
  have gi : ∀ d, d < 4 * c → pm_mg f (f x) (f y) (ph d) = pm_mg f (f x) (f y) d := by
    intro d hd
    rcases hinv d hd with h9 | ⟨h8, h9⟩ | ⟨h8, h9⟩
    · exact pm_mg_e h9
    · rw [pm_mg_e h9, h8, gxy]
    · rw [pm_mg_e h9, h8, gxy]
  refine ⟨_, Y, fun d hd => ?_, fun d hd => ?_, y3, by omega⟩
  · unfold pm_sp
    rw [gi d hd, hP d hd]
  · rcases y1 d hd with h9 | h9 | h9
    · rw [h9]; exact hx
    · rw [h9]; exact hy
    · exact z2 d (q1 d h9)
theorem ph_e : pn_ph S b (2 * x) = if b (S.1 x) = true then 2 * mt (S.1 x) else 2 * mt (S.1 x) + 1 := by
  unfold pn_ph pn_al
  rw [if_pos (by omega), show 2 * x / 2 = x by omega]
  unfold pn_rt
  rw [show (2 * S.1 x + 1) / 2 = S.1 x by omega, show (2 * S.1 x + 1) % 2 = 1 by omega]
  cases b (S.1 x) <;> rfl
theorem ph_o : pn_ph S b (2 * x + 1) = if b (S.2 x) = true then 2 * mt (S.2 x) + 1 else 2 * mt (S.2 x) := by
  unfold pn_ph pn_al
  rw [if_neg (by omega), show (2 * x + 1) / 2 = x by omega]
  unfold pn_rt
  rw [show 2 * S.2 x / 2 = S.2 x by omega, show 2 * S.2 x % 2 = 0 by omega]
  cases b (S.2 x) <;> rfl
/-- the arc from v goes over that from w, through new crossings c and c + 1 -/
def puN (c v w b1 b2 : Nat) (S St : ow_NP) : Prop := St.1 v = 2 * c ∧ St.1 (2 * c) = 2 * c + 2 ∧ St.1 (2 * c + 2) = S.1 v ∧ St.1 w = b1 ∧ St.1 b1 = b2 ∧ St.1 b2 = S.1 w ∧ (∀ x, x < 2 * c → x ≠ v → x ≠ w → St.1 x = S.1 x) ∧ St.2 (2 * c) = v ∧ St.2 (2 * c + 2) = 2 * c ∧ St.2 (S.1 v) = 2 * c + 2 ∧ St.2 b1 = w ∧ St.2 b2 = b1 ∧ St.2 (S.1 w) = b2 ∧ ∀ x, x < 2 * c → x ≠ S.1 v → x ≠ S.1 w → St.2 x = S.2 x
theorem pu_main (hv : vn c S) (hvw : v ≠ w) (h1 : v < 2 * c) (h2 : w < 2 * c) (hb : ∀ x, x < 2 * c → bt x = b x) (hB : bt (2 * c + 1) = !bt (2 * c) ∧ bt (2 * c + 2) = !bt (2 * c) ∧ bt (2 * c + 3) = bt (2 * c)) (hbb : b1 = 2 * c + 1 ∧ b2 = 2 * c + 3 ∨ b1 = 2 * c + 3 ∧ b2 = 2 * c + 1) (hN : puN c v w b1 b2 S St) (hf : ∀ d, d < 4 * c + 8 → f (pn_ph St bt d) = f d) : ∃ sx sy e1, (sx = 2 * v ∨ sx = 2 * v + 1) ∧ (sy = 2 * w ∨ sy = 2 * w + 1) ∧ (∀ d, d < 4 * c → f (pn_ph S b d) = f d ∨ (d = sdD S sx ∧ f (pn_ph S b d) = f (sdD S sy)) ∨ (d = sdD S sy ∧ f (pn_ph S b d) = f (sdD S sx))) ∧ ∀ d, d < 4 * c + 8 → f d = f e1 ∨ ∃ d', d' < 4 * c ∧ f d' = f d := by
  obtain ⟨n1, n2, n3, n4, n5, n6, n7, p1, p2, p3, p4, p5, p6, p7⟩ := hN
  obtain ⟨B1, B2, B3⟩ := hB
  obtain ⟨v1, v2, v3, v4⟩ := hv v h1
  obtain ⟨w1, w2, w3, w4⟩ := hv w h2
  have hvw' : S.1 v ≠ S.1 w := fun e => hvw (vn_inj hv h1 h2 e)
  -- the same turn, old and new
  have tA : pn_ph St bt (2 * (2 * c + 2)) = pn_ph S b (2 * v) := by rw [ph_e, ph_e, n3, hb _ v1]
  have tB : pn_ph St bt (2 * (2 * c) + 1) = pn_ph S b (2 * S.1 v + 1) := by rw [ph_o, ph_o, p1, v3, hb _ h1]
  have tC : pn_ph St bt (2 * b2) = pn_ph S b (2 * w) := by rw [ph_e, ph_e, n6, hb _ w1]
  have tD : pn_ph St bt (2 * b1 + 1) = pn_ph S b (2 * S.1 w + 1) := by rw [ph_o, ph_o, p4, w3, hb _ h2]
  have tO : ∀ d, d < 4 * c → d ≠ 2 * v → d ≠ 2 * S.1 v + 1 → d ≠ 2 * w → d ≠ 2 * S.1 w + 1 → f (pn_ph S b d) = f d := by
    intro d hd a1 a2 a3 a4
    rw [← hf d (by omega)]
    by_cases e : d % 2 = 0
    · obtain ⟨u, rfl⟩ : ∃ u, d = 2 * u := ⟨d / 2, by omega⟩
      rw [ph_e, ph_e, n7 u (by omega) (by omega) (by omega), hb _ (hv u (by omega)).1]
    · obtain ⟨u, rfl⟩ : ∃ u, d = 2 * u + 1 := ⟨d / 2, by omega⟩
      rw [ph_o, ph_o, p7 u (by omega) (by omega) (by omega), hb _ (hv u (by omega)).2.1]
  have m0 : mt (2 * c) = 2 * c + 1 := by unfold mt; rw [if_pos (by omega)]
  have m1 : mt (2 * c + 1) = 2 * c := by unfold mt; rw [if_neg (by omega)]; omega
  have m2 : mt (2 * c + 2) = 2 * c + 3 := by unfold mt; rw [if_pos (by omega)]
  have m3 : mt (2 * c + 3) = 2 * c + 2 := by unfold mt; rw [if_neg (by omega)]; omega
  have fv := hf (2 * v) (by omega)
  have fv' := hf (2 * S.1 v + 1) (by omega)
  have fw := hf (2 * w) (by omega)
  have fw' := hf (2 * S.1 w + 1) (by omega)
  have fa := hf (2 * (2 * c)) (by omega)
  have fa' := hf (2 * (2 * c) + 1) (by omega)
  have fe := hf (2 * (2 * c + 2)) (by omega)
  have fe' := hf (2 * (2 * c + 2) + 1) (by omega)
  have fb := hf (2 * b1) (by omega)
  have fb' := hf (2 * b1 + 1) (by omega)
  have fd := hf (2 * b2) (by omega)
  have fd' := hf (2 * b2 + 1) (by omega)
  rw [tA] at fe
  rw [tB] at fa'
  rw [tC] at fd
  rw [tD] at fb'
  rw [ph_e, n1, m0] at fv
  rw [ph_o, p3, m2, B2] at fv'
  rw [ph_e, n4] at fw
  rw [ph_o, p6] at fw'
  rw [ph_e, n2, m2, B2] at fa
  rw [ph_o, p2, m0] at fe'
  rw [ph_e, n5] at fb
  rw [ph_o, p5] at fd'
  -- from what is known of f
  have fin : ∀ sx sy e1, (sx = 2 * v ∨ sx = 2 * v + 1) → (sy = 2 * w ∨ sy = 2 * w + 1) → (∀ d, (d = 2 * v ∨ d = 2 * S.1 v + 1 ∨ d = 2 * w ∨ d = 2 * S.1 w + 1) → f (pn_ph S b d) = f d ∨ (d = sdD S sx ∧ f (pn_ph S b d) = f (sdD S sy)) ∨ (d = sdD S sy ∧ f (pn_ph S b d) = f (sdD S sx))) → (∀ d, (d = 2 * (2 * c) ∨ d = 2 * (2 * c) + 1 ∨ d = 2 * (2 * c + 1) ∨ d = 2 * (2 * c + 1) + 1 ∨ d = 2 * (2 * c + 2) ∨ d = 2 * (2 * c + 2) + 1 ∨ d = 2 * (2 * c + 3) ∨ d = 2 * (2 * c + 3) + 1) → f d = f e1 ∨ f d = f (2 * v) ∨ f d = f (2 * S.1 v + 1) ∨ f d = f (2 * w) ∨ f d = f (2 * S.1 w + 1)) → ∃ sx sy e1, (sx = 2 * v ∨ sx = 2 * v + 1) ∧ (sy = 2 * w ∨ sy = 2 * w + 1) ∧ (∀ d, d < 4 * c → f (pn_ph S b d) = f d ∨ (d = sdD S sx ∧ f (pn_ph S b d) = f (sdD S sy)) ∨ (d = sdD S sy ∧ f (pn_ph S b d) = f (sdD S sx))) ∧ ∀ d, d < 4 * c + 8 → f d = f e1 ∨ ∃ d', d' < 4 * c ∧ f d' = f d := by
    intro sx sy e1 hx hy k1 k2
    refine ⟨sx, sy, e1, hx, hy, fun d hd => ?_, fun d hd => ?_⟩
    · by_cases e : d = 2 * v ∨ d = 2 * S.1 v + 1 ∨ d = 2 * w ∨ d = 2 * S.1 w + 1
      · exact k1 d e
      · exact Or.inl (tO d hd (fun h => e (Or.inl h)) (fun h => e (Or.inr (Or.inl h))) (fun h => e (Or.inr (Or.inr (Or.inl h)))) (fun h => e (Or.inr (Or.inr (Or.inr h)))))
    · by_cases e : d < 4 * c
      · exact Or.inr ⟨d, e, rfl⟩
      · rcases k2 d (by omega) with h9 | h9 | h9 | h9 | h9
        · exact Or.inl h9
        · exact Or.inr ⟨_, by omega, h9.symm⟩
        · exact Or.inr ⟨_, by omega, h9.symm⟩
        · exact Or.inr ⟨_, by omega, h9.symm⟩
        · exact Or.inr ⟨_, by omega, h9.symm⟩
  have s0 : sdD S (2 * v) = 2 * v := by unfold sdD; rw [if_pos (by omega)]
  have s1 : sdD S (2 * v + 1) = 2 * S.1 v + 1 := by unfold sdD; rw [if_neg (by omega), show (2 * v + 1) / 2 = v by omega]
  have s2 : sdD S (2 * w) = 2 * w := by unfold sdD; rw [if_pos (by omega)]
  have s3 : sdD S (2 * w + 1) = 2 * S.1 w + 1 := by unfold sdD; rw [if_neg (by omega), show (2 * w + 1) / 2 = w by omega]
  clear n1 n2 n3 n4 n5 n6 n7 p1 p2 p3 p4 p5 p6 p7 tA tB tC tD tO hb hf
  rcases hbb with ⟨e1, e2⟩ | ⟨e1, e2⟩ <;> subst e1 <;> subst e2 <;> cases hbt : bt (2 * c) <;> simp only [hbt, B1, B2, B3, m0, m1, m2, m3, Bool.not_true, Bool.not_false, Bool.false_eq_true, if_true, if_false, ite_true, ite_false] at fv fv' fw fw' fa fe' fb fd'
  · refine fin (2 * v) (2 * w + 1) (2 * (2 * c + 1)) (Or.inl rfl) (Or.inr rfl) (fun d hd => ?_) (fun d hd => ?_)
    · rw [s0, s3]
      rcases hd with e | e | e | e <;> subst e
      · exact Or.inr (Or.inl ⟨rfl, by omega⟩)
      · exact Or.inl (by omega)
      · exact Or.inl (by omega)
      · exact Or.inr (Or.inr ⟨rfl, by omega⟩)
    · rcases hd with e | e | e | e | e | e | e | e <;> subst e <;> omega
  · refine fin (2 * v + 1) (2 * w) (2 * (2 * c)) (Or.inr rfl) (Or.inl rfl) (fun d hd => ?_) (fun d hd => ?_)
    · rw [s1, s2]
      rcases hd with e | e | e | e <;> subst e
      · exact Or.inl (by omega)
      · exact Or.inr (Or.inl ⟨rfl, by omega⟩)
      · exact Or.inr (Or.inr ⟨rfl, by omega⟩)
      · exact Or.inl (by omega)
    · rcases hd with e | e | e | e | e | e | e | e <;> subst e <;> omega
  · refine fin (2 * v + 1) (2 * w + 1) (2 * (2 * c)) (Or.inr rfl) (Or.inr rfl) (fun d hd => ?_) (fun d hd => ?_)
    · rw [s1, s3]
      rcases hd with e | e | e | e <;> subst e
      · exact Or.inl (by omega)
      · exact Or.inr (Or.inl ⟨rfl, by omega⟩)
      · exact Or.inl (by omega)
      · exact Or.inr (Or.inr ⟨rfl, by omega⟩)
    · rcases hd with e | e | e | e | e | e | e | e <;> subst e <;> omega
  · refine fin (2 * v) (2 * w) (2 * (2 * c + 1) + 1) (Or.inl rfl) (Or.inl rfl) (fun d hd => ?_) (fun d hd => ?_)
    · rw [s0, s2]
      rcases hd with e | e | e | e <;> subst e
      · exact Or.inr (Or.inl ⟨rfl, by omega⟩)
      · exact Or.inl (by omega)
      · exact Or.inr (Or.inr ⟨rfl, by omega⟩)
      · exact Or.inl (by omega)
    · rcases hd with e | e | e | e | e | e | e | e <;> subst e <;> omega
end PU
