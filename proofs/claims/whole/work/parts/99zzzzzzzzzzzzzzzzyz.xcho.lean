-- CHAIN: the numbers of the crossings do not matter
section XCHZ
variable {A : rn_L} {sg : Nat → Bool} {nm nm' : Nat → Nat} {c k x m : Nat} {p d b : Int} {r : Nat}
theorem swp_i (x m y : Nat) : swp9 x m (swp9 x m y) = y := by
  unfold swp9
  by_cases h1 : y = x
  · rw [if_pos h1]
    by_cases h2 : m = x
    · rw [if_pos h2, h1, h2]
    · rw [if_neg h2, if_pos rfl, h1]
  · rw [if_neg h1]
    by_cases h2 : y = m
    · rw [if_pos h2, if_pos rfl, h2]
    · rw [if_neg h2, if_neg h1, if_neg h2]
theorem swp_lt {y : Nat} (hx : x < c) (hm : m < c) (hy : y < c) : swp9 x m y < c := by
  unfold swp9
  split
  · exact hm
  · split
    · exact hx
    · exact hy
theorem swp_m : swp9 x m m = x := by
  unfold swp9
  by_cases h : m = x
  · rw [if_pos h, h]
  · rw [if_neg h, if_pos rfl]
theorem swp_o {y : Nat} (h1 : y ≠ x) (h2 : y ≠ m) : swp9 x m y = y := (if_neg h1).trans (if_neg h2)
theorem nmO_sw (hO : nmO A nm c) (hx : x < c) (hm : m < c) : nmO A (fun y => nm (swp9 x m y)) c := by
  refine ⟨fun y hy => hO.1 _ (swp_lt hx hm hy), fun y y' hy hy' e => ?_, fun q hq => ?_⟩
  · have e2 := hO.2.1 _ _ (swp_lt hx hm hy) (swp_lt hx hm hy') e
    rw [← swp_i x m y, e2, swp_i]
  · obtain ⟨y, y1, y2⟩ := hO.2.2 q hq
    exact ⟨swp9 x m y, swp_lt hx hm y1, by show nm (swp9 x m (swp9 x m y)) = _; rw [swp_i]; exact y2⟩
theorem relL_sw (hx : x < c) (hm : m < c) : (fun s : Nat → Bool => relL9 A sg nm c (fun z => s (swp9 x m z))) = relL9 A sg (fun y => nm (swp9 x m y)) c := funext (fun s => funext (fun g => funext (fun h => propext (lst_iff (fun a b ⟨y, y1, y2⟩ => lst_i ⟨swp9 x m y, swp_lt hx hm y1, by
    show jc9 A sg (nm (swp9 x m (swp9 x m y))) (s (swp9 x m y)) a b
    rw [swp_i]
    exact y2⟩) (fun a b ⟨y, y1, y2⟩ => lst_i ⟨swp9 x m y, swp_lt hx hm y1, by
    show jc9 A sg (nm (swp9 x m y)) (s (swp9 x m (swp9 x m y))) a b
    rw [swp_i]
    exact y2⟩) g h))))
theorem bL_sw (hp : pr9 p) (hi : iv9 p) (hx : x < m) (hm : m < c) (hC : cuL9 A sg nm c) (hB : bL9 p A sg nm c k d r b) : cuL9 A sg (fun y => nm (swp9 x m y)) c ∧ bL9 p A sg (fun y => nm (swp9 x m y)) c k d r b := by
  have R := rl_sw hx hm 2000 k r (gG9 A) (fun y => gV9 (nm y, 0)) (fun y => gV9 (prA9 A (nm y, 0))) (fun y => gV9 (prA9 A (nm y, 0))) (relL9 A sg nm c) d p b hp hi hC hB
  rw [relL_sw (by omega) hm] at R
  exact R
theorem cu_sw (hx : x < m) (hm : m < c) (hC : cuL9 A sg nm c) (h9 : ∃ p b, pr9 p ∧ iv9 p ∧ bL9 p A sg nm c k d r b) : cuL9 A sg (fun y => nm (swp9 x m y)) c := by
  obtain ⟨p, b, hp, hi, hB⟩ := h9
  exact (bL_sw hp hi hx hm hC hB).1
/-- only the numbers below c count -/
theorem relL_nm (h : ∀ y, y < c → nm' y = nm y) : relL9 A sg nm' c = relL9 A sg nm c := funext (fun s => funext (fun g => funext (fun k => propext (lst_iff (fun a b ⟨y, y1, y2⟩ => lst_i ⟨y, y1, by
    rw [← h y y1]
    exact y2⟩) (fun a b ⟨y, y1, y2⟩ => lst_i ⟨y, y1, by
    rw [h y y1]
    exact y2⟩) g k))))
theorem cu_nm (h : ∀ y, y < c → nm' y = nm y) (hC : cuL9 A sg nm c) : cuL9 A sg nm' c := by
  unfold cuL9 at hC ⊢
  rw [relL_nm h]
  obtain ⟨⟨h1, h2⟩, h3, h4, h5⟩ := hC
  refine ⟨⟨h1, fun s x hx hs => ?_⟩, h3, h4, fun x hx => ?_⟩
  · dsimp only
    rw [h x hx]
    exact h2 s x hx hs
  · dsimp only
    rw [h x hx]
    exact h5 x hx
theorem bL_nm (hp : pr9 p) (hi : iv9 p) (h : ∀ y, y < c → nm' y = nm y) (hC : cuL9 A sg nm c) (hB : bL9 p A sg nm c k d r b) : bL9 p A sg nm' c k d r b := by
  have hC' := cu_nm h hC
  refine be_ph (φ := fun g => g) hp hi hC hC' ⟨fun g hg => hg, fun s _ => ⟨fun g k _ _ => by rw [relL_nm h], fun g hg => ⟨g, hg, (hC.1.1 s).1 g⟩, fun x hx => ?_⟩⟩ hB
  dsimp only
  rw [h x hx]
  exact ⟨(hC.1.1 s).1 _, (hC.1.1 s).1 _, (hC.1.1 s).1 _⟩
theorem bL_st (hp : pr9 p) (hi : iv9 p) (hO' : nmO A nm' c) : ∀ (j : Nat) (nm : Nat → Nat), j ≤ c → nmO A nm c → (∀ y, j ≤ y → y < c → nm y = nm' y) → cuL9 A sg nm c → bL9 p A sg nm c k d r b → cuL9 A sg nm' c ∧ bL9 p A sg nm' c k d r b
  | 0, nm, _, hO, hj, hC, hB => ⟨cu_nm (fun y hy => (hj y (Nat.zero_le y) hy).symm) hC, bL_nm hp hi (fun y hy => (hj y (Nat.zero_le y) hy).symm) hC hB⟩
  | j + 1, nm, hjc, hO, hj, hC, hB => by
    obtain ⟨i, i1, i2⟩ := hO.2.2 _ (hO'.1 j (by omega)).1
    simp only [] at i2
    have ij : i ≤ j := by
      rcases Nat.lt_or_ge j i with c1 | c1
      · have e := hj i c1 i1
        rw [i2] at e
        have := hO'.2.1 j i (by omega) i1 e
        omega
      · exact c1
    rcases Nat.lt_or_ge i j with c1 | c1
    · obtain ⟨hC2, hB2⟩ := bL_sw hp hi c1 (show j < c by omega) hC hB
      refine bL_st hp hi hO' j _ (by omega) (nmO_sw hO i1 (by omega)) (fun y y1 y2 => ?_) hC2 hB2
      show nm (swp9 i j y) = nm' y
      by_cases e : y = j
      · rw [e, swp_m, i2]
      · rw [swp_o (by omega) e]
        exact hj y (by omega) y2
    · refine bL_st hp hi hO' j nm (by omega) hO (fun y y1 y2 => ?_) hC hB
      by_cases e : y = j
      · rw [e, ← i2, show i = j by omega]
      · exact hj y (by omega) y2
/-- another numbering -/
theorem bL_any (hp : pr9 p) (hi : iv9 p) (hO : nmO A nm c) (hO' : nmO A nm' c) (hC : cuL9 A sg nm c) (hB : bL9 p A sg nm c k d r b) : cuL9 A sg nm' c ∧ bL9 p A sg nm' c k d r b := bL_st hp hi hO' c nm (Nat.le_refl c) hO (fun y y1 y2 => by omega) hC hB
/-- a numbering with chosen last ones -/
theorem nm_last {x : Nat} (hO : nmO A nm (c + 1)) (hx : (x, 0) ∈ A.flatten) : ∃ nm', nmO A nm' (c + 1) ∧ nm' c = x := by
  obtain ⟨i, i1, i2⟩ := hO.2.2 _ hx
  exact ⟨_, nmO_sw (m := c) hO i1 (by omega), by show nm (swp9 i c c) = x; rw [swp_m]; exact i2⟩
theorem nm_last2 {x y : Nat} (hO : nmO A nm (c + 2)) (hx : (x, 0) ∈ A.flatten) (hy : (y, 0) ∈ A.flatten) (hne : x ≠ y) : ∃ nm', nmO A nm' (c + 2) ∧ nm' c = x ∧ nm' (c + 1) = y := by
  obtain ⟨n1, h1, h2⟩ := nm_last (c := c + 1) hO hy
  obtain ⟨i, i1, i2⟩ := h1.2.2 _ hx
  simp only [] at i2
  have hi : i ≠ c + 1 := fun e => hne (by rw [← i2, e, h2])
  refine ⟨_, nmO_sw (m := c) h1 i1 (by omega), ?_, ?_⟩
  · show n1 (swp9 i c c) = x
    rw [swp_m]
    exact i2
  · show n1 (swp9 i c (c + 1)) = y
    rw [swp_o (by omega) (by omega)]
    exact h2
/-- the numbers of what is left -/
theorem nmO_wox {x : Nat} (h2 : ∀ p, p ∈ A.flatten → p.2 < 2) (hO : nmO A nm (c + 1)) (hx : nm c = x) : nmO (wox A x) nm c := by
  have ne : ∀ y, y < c → nm y ≠ x := fun y hy h9 => by
    have := hO.2.1 y c (by omega) (by omega) (h9.trans hx.symm)
    omega
  refine ⟨fun y hy => ⟨(wox_mem h2).mpr ⟨(hO.1 y (by omega)).1, ne y hy⟩, (wox_mem h2).mpr ⟨(hO.1 y (by omega)).2, ne y hy⟩⟩, fun y y' hy hy' e => hO.2.1 y y' (by omega) (by omega) e, fun q hq => ?_⟩
  obtain ⟨q1, q2⟩ := (wox_mem h2).mp hq
  obtain ⟨y, y1, y2⟩ := hO.2.2 q q1
  refine ⟨y, ?_, y2⟩
  rcases Nat.lt_or_ge y c with c1 | c1
  · exact c1
  · rw [show y = c by omega, hx] at y2
    exact absurd y2.symm q2
end XCHZ
/-- how many crossings with - -/
def ng9 (A : rn_L) (sg : Nat → Bool) : Nat := (A.flatten.filter (fun p => decide (p.2 = 0) && sg p.1)).length
section XCI1
variable {A : rn_L} {sg : Nat → Bool} {nm nm' : Nat → Nat} {n k x y : Nat} {p d b : Int} {r9 : Nat}
theorem ng_wox {x : Nat} (hn : A.flatten.Nodup) (hx : (x, 0) ∈ A.flatten) : ng9 A sg = ng9 (wox A x) sg + (if sg x = true then 1 else 0) := by
  unfold ng9 wox
  rw [rmv_fl, rmv_fl, List.filter_filter, List.filter_filter]
  have e : ∀ l : List vT, l.Nodup → (l.filter (fun p => decide (p.2 = 0) && sg p.1)).length = (l.filter (fun a => decide (a ≠ (x, 0)) && (decide (a ≠ (x, 1)) && (decide (a.2 = 0) && sg a.1)))).length + (if (x, 0) ∈ l ∧ sg x = true then 1 else 0) := by
    intro l
    induction l with
    | nil => intro _; simp
    | cons a l ih =>
      intro h
      obtain ⟨h1, h2⟩ := List.nodup_cons.mp h
      have ih := ih h2
      by_cases c : a = (x, 0)
      · have n0 : ¬ ((x, 0) ∈ l ∧ sg x = true) := fun h9 => h1 (c ▸ h9.1)
        rw [if_neg n0] at ih
        rw [List.filter_cons, List.filter_cons, c]
        by_cases s : sg x = true
        · simp [s]
          simp [s] at ih
          omega
        · simp [s]
          simp at ih
          omega
      · have n1 : ((x, 0) ∈ a :: l ∧ sg x = true) ↔ ((x, 0) ∈ l ∧ sg x = true) := ⟨fun h9 => ⟨(List.mem_cons.mp h9.1).elim (fun h8 => absurd h8.symm c) id, h9.2⟩, fun h9 => ⟨List.mem_cons_of_mem _ h9.1, h9.2⟩⟩
        simp only [n1]
        rw [List.filter_cons, List.filter_cons]
        by_cases s : (decide (a.2 = 0) && sg a.1) = true
        · have n2 : a ≠ (x, 1) := fun h9 => by
            rw [h9] at s
            simp at s
          simp only [s, c, n2, ne_eq, not_false_eq_true, decide_true, Bool.and_self, if_true, List.length_cons]
          simp only [ne_eq] at ih
          omega
        · have s2 : ¬ (decide (a ≠ (x, 0)) && (decide (a ≠ (x, 1)) && (decide (a.2 = 0) && sg a.1))) = true := fun h9 => by
            simp only [Bool.and_eq_true] at h9
            exact s (by simp only [Bool.and_eq_true]; exact h9.2.2)
          rw [if_neg s, if_neg s2]
          exact ih
  rw [e _ hn]
  have e2 : (if (x, 0) ∈ A.flatten ∧ sg x = true then 1 else 0) = (if sg x = true then 1 else 0 : Nat) := by
    by_cases s : sg x = true
    · rw [if_pos ⟨hx, s⟩, if_pos s]
    · rw [if_neg (fun h9 => s h9.2), if_neg s]
  rw [e2]
  congr 2
  congr 1
  funext a
  simp only [Bool.and_assoc, Bool.and_comm, Bool.and_left_comm]
end XCI1
