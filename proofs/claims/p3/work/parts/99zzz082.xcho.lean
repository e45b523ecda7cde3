section
/-! 99zzzzzzzzzzzzzzzzyz.xcho -/
-- CHAIN: the numbers of the crossings do not matter
section XCHZ
variable {A : rn_L} {sg : Nat → Bool} {nm nm' : Nat → Nat} {c k x m : Nat} {p d b : Int} {r : Nat}
theorem swp_i (x m y : Nat) : swp9 x m (swp9 x m y) = y := by
  unfold swp9
  by_cases h1 : y = x
  · rw [if_pos h1]
    by_cases h2 : m = x
    · rw [if_pos h2, h1, h2]
    · rw [if_neg h2, if_pos rfl, h1]
  · rw [if_neg h1]
    by_cases h2 : y = m
    · rw [if_pos h2, if_pos rfl, h2]
    · rw [if_neg h2, if_neg h1, if_neg h2]
theorem swp_lt {y : Nat} (hx : x < c) (hm : m < c) (hy : y < c) : swp9 x m y < c := by
  unfold swp9
  split
  · exact hm
  · split
    · exact hx
    · exact hy
theorem swp_m : swp9 x m m = x := by
  unfold swp9
  by_cases h : m = x
  · rw [if_pos h, h]
  · rw [if_neg h, if_pos rfl]
theorem swp_o {y : Nat} (h1 : y ≠ x) (h2 : y ≠ m) : swp9 x m y = y := (if_neg h1).trans (if_neg h2)
theorem nmO_sw (hO : nmO A nm c) (hx : x < c) (hm : m < c) : nmO A (fun y => nm (swp9 x m y)) c := by
  refine ⟨fun y hy => hO.1 _ (swp_lt hx hm hy), fun y y' hy hy' e => ?_, fun q hq => ?_⟩
  · have e2 := hO.2.1 _ _ (swp_lt hx hm hy) (swp_lt hx hm hy') e
    rw [← swp_i x m y, e2, swp_i]
  · obtain ⟨y, y1, y2⟩ := hO.2.2 q hq
    exact ⟨swp9 x m y, swp_lt hx hm y1, by show nm (swp9 x m (swp9 x m y)) = _; rw [swp_i]; exact y2⟩
theorem relL_sw (hx : x < c) (hm : m < c) : (fun s : Nat → Bool => relL9 A sg nm c (fun z => s (swp9 x m z))) = relL9 A sg (fun y => nm (swp9 x m y)) c := funext (fun s => funext (fun g => funext (fun h => propext (lst_iff (fun a b ⟨y, y1, y2⟩ => lst_i ⟨swp9 x m y, swp_lt hx hm y1, by
    show jc9 A sg (nm (swp9 x m (swp9 x m y))) (s (swp9 x m y)) a b
    rw [swp_i]
    exact y2⟩) (fun a b ⟨y, y1, y2⟩ => lst_i ⟨swp9 x m y, swp_lt hx hm y1, by
    show jc9 A sg (nm (swp9 x m y)) (s (swp9 x m (swp9 x m y))) a b
    rw [swp_i]
    exact y2⟩) g h))))
theorem bL_sw (hp : pr9 p) (hi : iv9 p) (hx : x < m) (hm : m < c) (hC : cuL9 A sg nm c) (hB : bL9 p A sg nm c k d r b) : cuL9 A sg (fun y => nm (swp9 x m y)) c ∧ bL9 p A sg (fun y => nm (swp9 x m y)) c k d r b := by
  have R := rl_sw hx hm 2000 k r (gG9 A) (fun y => gV9 (nm y, 0)) (fun y => gV9 (prA9 A (nm y, 0))) (fun y => gV9 (prA9 A (nm y, 0))) (relL9 A sg nm c) d p b hp hi hC hB
  rw [relL_sw (by omega) hm] at R
  exact R
/-- only the numbers below c count -/
theorem relL_nm (h : ∀ y, y < c → nm' y = nm y) : relL9 A sg nm' c = relL9 A sg nm c := funext (fun s => funext (fun g => funext (fun k => propext (lst_iff (fun a b ⟨y, y1, y2⟩ => lst_i ⟨y, y1, by
    rw [← h y y1]
    exact y2⟩) (fun a b ⟨y, y1, y2⟩ => lst_i ⟨y, y1, by
    rw [h y y1]
    exact y2⟩) g k))))
theorem cu_nm (h : ∀ y, y < c → nm' y = nm y) (hC : cuL9 A sg nm c) : cuL9 A sg nm' c := by
  unfold cuL9 at hC ⊢
  rw [relL_nm h]
  obtain ⟨⟨h1, h2⟩, h3, h4, h5⟩ := hC
  refine ⟨⟨h1, fun s x hx hs => ?_⟩, h3, h4, fun x hx => ?_⟩
  · dsimp only
    rw [h x hx]
    exact h2 s x hx hs
  · dsimp only
    rw [h x hx]
    exact h5 x hx
theorem bL_nm (hp : pr9 p) (hi : iv9 p) (h : ∀ y, y < c → nm' y = nm y) (hC : cuL9 A sg nm c) (hB : bL9 p A sg nm c k d r b) : bL9 p A sg nm' c k d r b := by
  have hC' := cu_nm h hC
  refine be_ph (φ := fun g => g) hp hi hC hC' ⟨fun g hg => hg, fun s _ => ⟨fun g k _ _ => by rw [relL_nm h], fun g hg => ⟨g, hg, (hC.1.1 s).1 g⟩, fun x hx => ?_⟩⟩ hB
  dsimp only
  rw [h x hx]
  exact ⟨(hC.1.1 s).1 _, (hC.1.1 s).1 _, (hC.1.1 s).1 _⟩
theorem bL_st (hp : pr9 p) (hi : iv9 p) (hO' : nmO A nm' c) : ∀ (j : Nat) (nm : Nat → Nat), j ≤ c → nmO A nm c → (∀ y, j ≤ y → y < c → nm y = nm' y) → cuL9 A sg nm c → bL9 p A sg nm c k d r b → cuL9 A sg nm' c ∧ bL9 p A sg nm' c k d r b
  | 0, nm, _, hO, hj, hC, hB => ⟨cu_nm (fun y hy => (hj y (Nat.zero_le y) hy).symm) hC, bL_nm hp hi (fun y hy => (hj y (Nat.zero_le y) hy).symm) hC hB⟩
  | j + 1, nm, hjc, hO, hj, hC, hB => by
    obtain ⟨i, i1, i2⟩ := hO.2.2 _ (hO'.1 j (by omega)).1
    simp only [] at i2
    have ij : i ≤ j := by
      rcases Nat.lt_or_ge j i with c1 | c1
      · have e := hj i c1 i1
        rw [i2] at e
        have := hO'.2.1 j i (by omega) i1 e
        omega
      · exact c1
    rcases Nat.lt_or_ge i j with c1 | c1
    · obtain ⟨hC2, hB2⟩ := bL_sw hp hi c1 (show j < c by omega) hC hB
      refine bL_st hp hi hO' j _ (by omega) (nmO_sw hO i1 (by omega)) (fun y y1 y2 => ?_) hC2 hB2
      show nm (swp9 i j y) = nm' y
      by_cases e : y = j
      · rw [e, swp_m, i2]
      · rw [swp_o (by omega) e]
        exact hj y (by omega) y2
    · refine bL_st hp hi hO' j nm (by omega) hO (fun y y1 y2 => ?_) hC hB
      by_cases e : y = j
      · rw [e, ← i2, show i = j by omega]
      · exact hj y (by omega) y2
/-- another numbering -/
theorem bL_any (hp : pr9 p) (hi : iv9 p) (hO : nmO A nm c) (hO' : nmO A nm' c) (hC : cuL9 A sg nm c) (hB : bL9 p A sg nm c k d r b) : cuL9 A sg nm' c ∧ bL9 p A sg nm' c k d r b := bL_st hp hi hO' c nm (Nat.le_refl c) hO (fun y y1 y2 => by omega) hC hB
/-- a numbering with chosen last ones -/
theorem nm_last {x : Nat} (hO : nmO A nm (c + 1)) (hx : (x, 0) ∈ A.flatten) : ∃ nm', nmO A nm' (c + 1) ∧ nm' c = x := by
  obtain ⟨i, i1, i2⟩ := hO.2.2 _ hx
  exact ⟨_, nmO_sw (m := c) hO i1 (by omega), by show nm (swp9 i c c) = x; rw [swp_m]; exact i2⟩
theorem nm_last2 {x y : Nat} (hO : nmO A nm (c + 2)) (hx : (x, 0) ∈ A.flatten) (hy : (y, 0) ∈ A.flatten) (hne : x ≠ y) : ∃ nm', nmO A nm' (c + 2) ∧ nm' c = x ∧ nm' (c + 1) = y := by
  obtain ⟨n1, h1, h2⟩ := nm_last (c := c + 1) hO hy
  obtain ⟨i, i1, i2⟩ := h1.2.2 _ hx
  simp only [] at i2
  have hi : i ≠ c + 1 := fun e => hne (by rw [← i2, e, h2])
  refine ⟨_, nmO_sw (m := c) h1 i1 (by omega), ?_, ?_⟩
  · show n1 (swp9 i c c) = x
    rw [swp_m]
    exact i2
  · show n1 (swp9 i c (c + 1)) = y
    rw [swp_o (by omega) (by omega)]
    exact h2
/-- the numbers of what is left -/
theorem nmO_wox {x : Nat} (h2 : ∀ p, p ∈ A.flatten → p.2 < 2) (hO : nmO A nm (c + 1)) (hx : nm c = x) : nmO (wox A x) nm c := by
  have ne : ∀ y, y < c → nm y ≠ x := fun y hy h9 => by
    have := hO.2.1 y c (by omega) (by omega) (h9.trans hx.symm)
    omega
  refine ⟨fun y hy => ⟨(wox_mem h2).mpr ⟨(hO.1 y (by omega)).1, ne y hy⟩, (wox_mem h2).mpr ⟨(hO.1 y (by omega)).2, ne y hy⟩⟩, fun y y' hy hy' e => hO.2.1 y y' (by omega) (by omega) e, fun q hq => ?_⟩
  obtain ⟨q1, q2⟩ := (wox_mem h2).mp hq
  obtain ⟨y, y1, y2⟩ := hO.2.2 q q1
  refine ⟨y, ?_, y2⟩
  rcases Nat.lt_or_ge y c with c1 | c1
  · exact c1
  · rw [show y = c by omega, hx] at y2
    exact absurd y2.symm q2
end XCHZ
/-- how many crossings with - -/
def ng9 (A : rn_L) (sg : Nat → Bool) : Nat := (A.flatten.filter (fun p => decide (p.2 = 0) && sg p.1)).length
section XCI1
variable {A : rn_L} {sg : Nat → Bool} {nm nm' : Nat → Nat} {n k x y : Nat} {p d b : Int} {r9 : Nat}
theorem ng_wox {x : Nat} (hn : A.flatten.Nodup) (hx : (x, 0) ∈ A.flatten) : ng9 A sg = ng9 (wox A x) sg + (if sg x = true then 1 else 0) := by
  unfold ng9 wox
  rw [rmv_fl, rmv_fl, List.filter_filter, List.filter_filter]
  have e : ∀ l : List vT, l.Nodup → (l.filter (fun p => decide (p.2 = 0) && sg p.1)).length = (l.filter (fun a => decide (a ≠ (x, 0)) && (decide (a ≠ (x, 1)) && (decide (a.2 = 0) && sg a.1)))).length + (if (x, 0) ∈ l ∧ sg x = true then 1 else 0) := by
    intro l
    induction l with
    | nil => intro _; simp
    | cons a l ih =>
      intro h
      obtain ⟨h1, h2⟩ := List.nodup_cons.mp h
      have ih := ih h2
      by_cases c : a = (x, 0)
      · have n0 : ¬ ((x, 0) ∈ l ∧ sg x = true) := fun h9 => h1 (c ▸ h9.1)
        rw [if_neg n0] at ih
        rw [List.filter_cons, List.filter_cons, c]
        by_cases s : sg x = true
        · simp [s]
          simp [s] at ih
          omega
        · simp [s]
          simp at ih
          omega
      · have n1 : ((x, 0) ∈ a :: l ∧ sg x = true) ↔ ((x, 0) ∈ l ∧ sg x = true) := ⟨fun h9 => ⟨(List.mem_cons.mp h9.1).elim (fun h8 => absurd h8.symm c) id, h9.2⟩, fun h9 => ⟨List.mem_cons_of_mem _ h9.1, h9.2⟩⟩
        simp only [n1]
        rw [List.filter_cons, List.filter_cons]
        by_cases s : (decide (a.2 = 0) && sg a.1) = true
        · have n2 : a ≠ (x, 1) := fun h9 => by
            rw [h9] at s
            simp at s
          simp only [s, c, n2, ne_eq, not_false_eq_true, decide_true, Bool.and_self, if_true, List.length_cons]
          simp only [ne_eq] at ih
          omega
        · have s2 : ¬ (decide (a ≠ (x, 0)) && (decide (a ≠ (x, 1)) && (decide (a.2 = 0) && sg a.1))) = true := fun h9 => by
            simp only [Bool.and_eq_true] at h9
            exact s (by simp only [Bool.and_eq_true]; exact h9.2.2)
          rw [if_neg s, if_neg s2]
          exact ih
  rw [e _ hn]
  have e2 : (if (x, 0) ∈ A.flatten ∧ sg x = true then 1 else 0) = (if sg x = true then 1 else 0 : Nat) := by
    by_cases s : sg x = true
    · rw [if_pos ⟨hx, s⟩, if_pos s]
    · rw [if_neg (fun h9 => s h9.2), if_neg s]
  rw [e2]
  congr 2
  congr 1
  funext a
  simp only [Bool.and_assoc, Bool.and_comm, Bool.and_left_comm]
end XCI1
end
section
/-! 99zzzzzzzzzzzzzzzzyza.xchp -/
-- CHAIN: the class's tidy leaves the numbers
section XCI2
variable {A : rn_L} {sg : Nat → Bool} {nm nm' : Nat → Nat} {n c k x y : Nat} {p d b : Int} {r9 : Nat}
theorem cu_any (hp : pr9 p) (hi : iv9 p) (hO : nmO A nm c) (hO' : nmO A nm' c) (hC : cuL9 A sg nm c) : cuL9 A sg nm' c := by
  obtain ⟨E, N, he⟩ := fi_en (Sg_en (k := 0) (d := 0) hC)
  exact (bL_any (k := 0) (d := 0) (r := 0) (b := (N 1 : Int) - rn9 p E N (D9 (fun y => gV9 (nm y, 0)) (fun y => gV9 (prA9 A (nm y, 0))) (fun y => gV9 (prA9 A (nm y, 0))) (relL9 A sg nm c) c) 1 - rn9 p E N (D9 (fun y => gV9 (nm y, 0)) (fun y => gV9 (prA9 A (nm y, 0))) (fun y => gV9 (prA9 A (nm y, 0))) (relL9 A sg nm c) c) 0) hp hi hO hO' hC ⟨E, N, he, by rw [Nat.zero_add]; omega⟩).1
/-- a loop goes -/
theorem td_1 (hp : pr9 p) (hi : iv9 p) (hk : 1 ≤ k) (hb : bdA A) (hO : nmO A nm (n + 1)) (hO' : nmO (wox A x) nm' n) (hC : cuL9 A sg nm (n + 1)) (hC' : cuL9 (wox A x) sg nm' n) (h0 : (x, 0) ∈ A.flatten) (ha : adjA A (x, 0) (x, 1)) (hB : bL9 p A sg nm (n + 1) k d r9 b) : bL9 p (wox A x) sg nm' n (k + (if sg x = true then 1 else 0)) (d + 1 - 3 * (if sg x = true then 1 else 0)) r9 b := by
  have u2 : ∀ p, p ∈ A.flatten → p.2 < 2 := fun p hp => (hb.2.1 p hp).2
  obtain ⟨n1, o1, e1⟩ := nm_last hO h0
  obtain ⟨C1, B1⟩ := bL_any hp hi hO o1 hC hB
  have o2 : nmO (wox A x) n1 n := nmO_wox u2 o1 e1
  have C2 := cu_any hp hi hO' o2 hC'
  obtain ⟨L, r, r', hkk, hw⟩ : ∃ L r r', kkO A L (n1 n) r r' ∧ rmv (rmv A r) r' = wox A x := by
    rw [e1]
    obtain ⟨L, hL, m0, m1, e | e⟩ := ha
    · exact ⟨L, (x, 0), (x, 1), ⟨hL, m0, e, Or.inl ⟨rfl, rfl⟩⟩, rfl⟩
    · exact ⟨L, (x, 1), (x, 0), ⟨hL, m1, e, Or.inr ⟨rfl, rfl⟩⟩, rmv_cm⟩
  have C2' : cuL9 (rmv (rmv A r) r') sg n1 n := by
    rw [hw]
    exact C2
  obtain ⟨f1, f2⟩ := cR1 hp hi hb o1 hkk C1 C2' B1
  rw [e1, hw] at f1 f2
  by_cases s : sg x = true
  · rw [if_pos s, if_pos s]
    have f3 := f2 s hk
    rw [show d + 1 - 3 * 1 = d - 2 by omega]
    exact (bL_any hp hi o2 hO' C2 f3).2
  · rw [if_neg s, if_neg s]
    have f3 := f1 (ff_of s)
    rw [show d + 1 - 3 * 0 = d + 1 by omega]
    exact (bL_any hp hi o2 hO' C2 f3).2
theorem rm4 {a b c e : vT} : rmv (rmv (rmv (rmv A a) b) c) e = rmv (rmv (rmv (rmv A a) c) b) e := by rw [rmv_cm (A := rmv A a) (r := b) (s := c)]
/-- a pair goes -/
theorem td_2 (hp : pr9 p) (hi : iv9 p) (hk : 1 ≤ k) (hb : bdA A) (hO : nmO A nm (n + 2)) (hO' : nmO (wox (wox A x) y) nm' n) (hC : cuL9 A sg nm (n + 2)) (hC' : cuL9 (wox (wox A x) y) sg nm' n) (x0 : (x, 0) ∈ A.flatten) (y0 : (y, 0) ∈ A.flatten) (hne : x ≠ y) (hs : sg x ≠ sg y) (h0 : adjA A (x, 0) (y, 0)) (h1 : adjA A (x, 1) (y, 1)) (hB : bL9 p A sg nm (n + 2) k d r9 b) : bL9 p (wox (wox A x) y) sg nm' n (k + 1) (d - 1) r9 b := by
  have u2 : ∀ p, p ∈ A.flatten → p.2 < 2 := fun p hp => (hb.2.1 p hp).2
  obtain ⟨L0, r0, r0', a1, a2, a3, a4⟩ : ∃ L r r', L ∈ A ∧ r ∈ L ∧ sc L r = r' ∧ ((r = (x, 0) ∧ r' = (y, 0)) ∨ (r = (y, 0) ∧ r' = (x, 0))) := by
    obtain ⟨L, hL, m0, m1, e | e⟩ := h0
    · exact ⟨L, _, _, hL, m0, e, Or.inl ⟨rfl, rfl⟩⟩
    · exact ⟨L, _, _, hL, m1, e, Or.inr ⟨rfl, rfl⟩⟩
  obtain ⟨L1, r1, r1', b1, b2, b3, b4⟩ : ∃ L r r', L ∈ A ∧ r ∈ L ∧ sc L r = r' ∧ ((r = (x, 1) ∧ r' = (y, 1)) ∨ (r = (y, 1) ∧ r' = (x, 1))) := by
    obtain ⟨L, hL, m0, m1, e | e⟩ := h1
    · exact ⟨L, _, _, hL, m0, e, Or.inl ⟨rfl, rfl⟩⟩
    · exact ⟨L, _, _, hL, m1, e, Or.inr ⟨rfl, rfl⟩⟩
  have hw : rmv (rmv (rmv (rmv A r0) r0') r1) r1' = wox (wox A x) y := by
    unfold wox
    rcases a4 with ⟨rfl, rfl⟩ | ⟨rfl, rfl⟩ <;> rcases b4 with ⟨rfl, rfl⟩ | ⟨rfl, rfl⟩
    · exact rm4
    · rw [rmv_cm (A := rmv (rmv A (x, 0)) (y, 0)) (r := (y, 1)) (s := (x, 1))]
      exact rm4
    · rw [rmv_cm (A := A) (r := (y, 0)) (s := (x, 0))]
      exact rm4
    · rw [rmv_cm (A := A) (r := (y, 0)) (s := (x, 0)), rmv_cm (A := rmv (rmv A (x, 0)) (y, 0)) (r := (y, 1)) (s := (x, 1))]
      exact rm4
  -- which is which
  obtain ⟨X, Y, xy, hS⟩ : ∃ X Y, ((X = x ∧ Y = y) ∨ (X = y ∧ Y = x)) ∧ bgS sg X Y r0 r1 := by
    have key : ∀ t : Bool, ∃ X Y, ((X = x ∧ Y = y) ∨ (X = y ∧ Y = x)) ∧ sg X = t ∧ sg Y = !t := fun t => by
      by_cases c1 : sg x = t
      · refine ⟨x, y, Or.inl ⟨rfl, rfl⟩, c1, ?_⟩
        rw [c1] at hs
        revert hs
        cases sg y <;> cases t <;> simp
      · refine ⟨y, x, Or.inr ⟨rfl, rfl⟩, ?_, ?_⟩
        · revert hs c1
          cases sg x <;> cases sg y <;> cases t <;> simp
        · revert c1
          cases sg x <;> cases t <;> simp
    by_cases c1 : r1.1 = r0.1
    · obtain ⟨X, Y, h2, h3, h4⟩ := key false
      exact ⟨X, Y, h2, Or.inl ⟨c1, h3, h4⟩⟩
    · obtain ⟨X, Y, h2, h3, h4⟩ := key true
      exact ⟨X, Y, h2, Or.inr ⟨c1, h3, h4⟩⟩
  have hX : (X, 0) ∈ A.flatten ∧ (Y, 0) ∈ A.flatten ∧ X ≠ Y := by
    rcases xy with ⟨rfl, rfl⟩ | ⟨rfl, rfl⟩
    · exact ⟨x0, y0, hne⟩
    · exact ⟨y0, x0, hne.symm⟩
  have hG : bgO A L0 L1 X Y r0 r0' r1 r1' := by
    refine ⟨⟨a1, a2, a3⟩, ⟨b1, b2, b3⟩, hX.2.2, ?_, ?_⟩
    · rcases xy with ⟨rfl, rfl⟩ | ⟨rfl, rfl⟩
      · exact a4
      · exact a4.symm
    · rcases xy with ⟨rfl, rfl⟩ | ⟨rfl, rfl⟩
      · exact b4
      · exact b4.symm
  obtain ⟨n1, o1, e1, e2⟩ := nm_last2 hO hX.1 hX.2.1 hX.2.2
  obtain ⟨C1, B1⟩ := bL_any hp hi hO o1 hC hB
  have o2 : nmO (wox (wox A x) y) n1 n := by
    have q1 : nmO (wox A Y) n1 (n + 1) := nmO_wox u2 o1 e2
    have q2 : nmO (wox (wox A Y) X) n1 n := nmO_wox (fun p hp => u2 p ((wox_mem u2).mp hp).1) q1 e1
    have q3 : wox (wox A Y) X = wox (wox A x) y := by
      rcases xy with ⟨rfl, rfl⟩ | ⟨rfl, rfl⟩
      · unfold wox
        rw [rm4, rmv_cm (A := A) (r := (Y, 0)) (s := (X, 0)), rmv_cm (A := rmv (rmv A (X, 0)) (Y, 0)) (r := (Y, 1)) (s := (X, 1)), rm4]
      · rfl
    rw [← q3]
    exact q2
  have C2 := cu_any hp hi hO' o2 hC'
  have C2' : cuL9 (rmv (rmv (rmv (rmv A r0) r0') r1) r1') sg n1 n := by
    rw [hw]
    exact C2
  rw [← e1, ← e2] at hG hS
  have f := cR2 hp hi hk hb o1 hG hS C1 C2' B1
  rw [hw] at f
  exact (bL_any hp hi o2 hO' C2 f).2
end XCI2
/-- the numbers of A, told by A' -/
def tdT (p : Int) (sg : Nat → Bool) (A : rn_L) (c : Nat) (A' : rn_L) (c' : Nat) : Prop := ∃ κ, (ng9 A sg = ng9 A' sg + κ ∧ c' + κ ≤ c) ∧ ∀ nm nm', nmO A nm c → nmO A' nm' c' → ∀ (k : Nat) (d : Int) (r : Nat) (b : Int), 1 ≤ k → bL9 p A sg nm c k d r b → bL9 p A' sg nm' c' (k + κ) (d + c - c' - 3 * κ) r b
def tdJ (p : Int) (sg : Nat → Bool) (A0 : rn_L) (c0 : Nat) (T : ow_NT) : Prop := pm1 T ∧ ∃ A f w, isoV A sg f T ∧ gaA A w ∧ bdA A ∧ tdT p sg A0 c0 A T.1
section XCI3
variable {A A0 : rn_L} {sg : Nat → Bool} {f : Nat → Nat} {w : vT → Bool} {nm : Nat → Nat} {p : Int} {c0 : Nat} {T : ow_NT}
theorem nmT_ex (h : isoV A sg f T) : ∃ nm, nmT A f nm T.1 := ⟨fun y => @dite _ (y < T.1) (Classical.propDecidable _) (fun hy => (nm_of h hy).choose) (fun _ => 0), fun y hy => by
  dsimp only
  rw [dif_pos hy]
  exact ⟨(nm_of h hy).choose_spec.1, (nm_of h hy).choose_spec.2.1⟩⟩
theorem cuA (hp : pr9 p) (hi : iv9 p) (h : isoV A sg f T) (hT : pm1 T) (hw : gaA A w) (hb : bdA A) (hO : nmO A nm T.1) : cuL9 A sg nm T.1 := by
  obtain ⟨n1, hn⟩ := nmT_ex h
  refine cu_any hp hi (nm_O h hn) hO (cuL h (fun x hx => ?_) hw hn hb.2.2)
  rcases hT x hx with e | e <;> rw [e] <;> decide
theorem wox_bd {x : Nat} (hb : bdA A) : bdA (wox A x) := rm_bd hb
theorem tdJ_1 {x : Nat} (hp : pr9 p) (hi : iv9 p) (h : tdJ p sg A0 c0 T) (hx : x < T.1) (e : mv_bs T.2.2.1.1 (2 * x) (2 * x + 1) = true) : tdJ p sg A0 c0 (nt_rm T x) := by
  obtain ⟨hT, A, f, w, h3, h4, h5, κ, k1, k2⟩ := h
  obtain ⟨x0, rfl, m0, m1⟩ := nm_of h3 hx
  obtain ⟨f', i1, -⟩ := iso_rm h3 m0
  have ad := bs_adj h3 m0 m1 e
  have g2 := gaA_1 h3.1.1.1 h4 ad
  have hT2 := pm1_rm hT hx
  have hb2 : bdA (wox A x0) := wox_bd h5
  refine ⟨hT2, wox A x0, f', w, i1, g2, hb2, κ + (if sg x0 = true then 1 else 0), ⟨?_, ?_⟩, fun nm nm' o1 o2 k d r b hk hB => ?_⟩
  · rw [k1.1, ng_wox h3.1.1.1 m0]
    omega
  · have := k1.2
    show T.1 - 1 + _ ≤ _
    split <;> omega
  · obtain ⟨n1, hn⟩ := nmT_ex h3
    have o3 := nm_O h3 hn
    have B2 := k2 nm n1 o1 o3 k d r b hk hB
    have C3 := cuA hp hi h3 hT h4 h5 o3
    have C4 := cuA hp hi i1 hT2 g2 hb2 o2
    have hc : T.1 = (T.1 - 1) + 1 := by omega
    have hc2 : (nt_rm T (f x0)).1 = T.1 - 1 := rfl
    rw [hc2] at o2 C4 ⊢
    rw [hc] at o3 C3 B2
    have R := td_1 hp hi (by omega) h5 o3 o2 C3 C4 m0 ad B2
    rw [Nat.add_assoc] at R
    have e2 : d + (c0 : Int) - ((T.1 - 1 + 1 : Nat) : Int) - 3 * (κ : Int) + 1 - 3 * (if sg x0 = true then 1 else 0) = d + c0 - ((T.1 - 1 : Nat) : Int) - 3 * ((κ + (if sg x0 = true then 1 else 0) : Nat) : Int) := by
      split <;> omega
    rw [e2] at R
    exact R
theorem tdJ_2 {x y : Nat} (hp : pr9 p) (hi : iv9 p) (h : tdJ p sg A0 c0 T) (hx : x < T.1) (hy : y < x) (e : mv_pair T.2.2.1.1 T.2.2.2 x y = true) : tdJ p sg A0 c0 (nt_rm (nt_rm T x) y) := by
  obtain ⟨hT, A, f, w, h3, h4, h5, κ, k1, k2⟩ := h
  obtain ⟨x0, rfl, m0, m1⟩ := nm_of h3 hx
  obtain ⟨y0, rfl, n0, n1⟩ := nm_of h3 (show y < T.1 by omega)
  have hne : x0 ≠ y0 := fun h9 => by
    rw [h9] at hy
    omega
  unfold mv_pair at e
  obtain ⟨e1, e2⟩ := Bool.and_eq_true_iff.mp e
  obtain ⟨e0, e1⟩ := Bool.and_eq_true_iff.mp e1
  have hu := fun (p : vT) (hp : p ∈ A.flatten) => (h3.1.1.2 p hp).2.1
  have hs : sg x0 ≠ sg y0 := fun h9 => by
    have e0 := of_decide_eq_true e0
    have a := h3.1.2.2.2.2.2.2.1 _ m0
    have a2 := h3.1.2.2.2.2.2.2.1 _ n0
    simp only [] at a a2
    rw [← h9] at a2
    rcases hT _ hx with q | q <;> rcases hT (f y0) (by omega) with q2 | q2
    · exact e0 (q.trans q2.symm)
    · rw [q] at a
      rw [q2] at a2
      exact absurd (a.mpr (a2.mp (by decide))) (by decide)
    · rw [q] at a
      rw [q2] at a2
      exact absurd (a2.mpr (a.mp (by decide))) (by decide)
    · exact e0 (q.trans q2.symm)
  obtain ⟨f', i1, i2⟩ := iso_rm h3 m0
  have i3 := i2 y0
  rw [if_neg (by omega)] at i3
  have n2 : (y0, 0) ∈ (wox A x0).flatten := (wox_mem hu).mpr ⟨n0, fun h9 => hne h9.symm⟩
  obtain ⟨f2, j1, -⟩ := iso_rm i1 n2
  rw [i3] at j1
  have hx1 : (nt_rm T (f x0)).1 = T.1 - 1 := rfl
  have ad0 := bs_adj h3 m0 n0 e1
  have ad1 := bs_adj h3 m1 n1 e2
  have g2 := gaA_2 h3.1.1.1 h4 hne ad0 ad1
  have hT2 : pm1 (nt_rm (nt_rm T (f x0)) (f y0)) := pm1_rm (pm1_rm hT hx) (by omega)
  have hb2 : bdA (wox (wox A x0) y0) := wox_bd (wox_bd h5)
  refine ⟨hT2, wox (wox A x0) y0, f2, w, j1, g2, hb2, κ + 1, ⟨?_, ?_⟩, fun nm nm' o1 o2 k d r b hk hB => ?_⟩
  · have u1 := ng_wox (sg := sg) h3.1.1.1 m0
    have u2 := ng_wox (sg := sg) (wox_bd h5).1 n2
    rw [k1.1, u1, u2]
    have : (if sg x0 = true then 1 else 0) + (if sg y0 = true then 1 else 0) = 1 := by
      revert hs
      cases sg x0 <;> cases sg y0 <;> simp
    omega
  · have := k1.2
    show T.1 - 1 - 1 + _ ≤ _
    omega
  · obtain ⟨n3, hn⟩ := nmT_ex h3
    have o3 := nm_O h3 hn
    have B2 := k2 nm n3 o1 o3 k d r b hk hB
    have C3 := cuA hp hi h3 hT h4 h5 o3
    have C4 := cuA hp hi j1 hT2 g2 hb2 o2
    have hc : T.1 = (T.1 - 2) + 2 := by omega
    have hc2 : (nt_rm (nt_rm T (f x0)) (f y0)).1 = T.1 - 2 := rfl
    rw [hc2] at o2 C4 ⊢
    rw [hc] at o3 C3 B2
    have R := td_2 hp hi (by omega) h5 o3 o2 C3 C4 m0 n0 hne hs ad0 ad1 B2
    rw [Nat.add_assoc] at R
    have e3 : d + (c0 : Int) - ((T.1 - 2 + 2 : Nat) : Int) - 3 * (κ : Int) - 1 = d + c0 - ((T.1 - 2 : Nat) : Int) - 3 * ((κ + 1 : Nat) : Int) := by omega
    rw [e3] at R
    exact R
theorem tdJ_0 (hT : pm1 T) (h : isoV A sg f T) (hw : gaA A w) (hb : bdA A) (hp : pr9 p) (hi : iv9 p) : tdJ p sg A T.1 T := by
  refine ⟨hT, A, f, w, h, hw, hb, 0, ⟨rfl, Nat.le_refl _⟩, fun nm nm' o1 o2 k d r b hk hB => ?_⟩
  have R := (bL_any hp hi o1 o2 (cuA hp hi h hT hw hb o1) hB).2
  rw [Nat.add_zero, show d + (T.1 : Int) - T.1 - 3 * ((0 : Nat) : Int) = d by omega]
  exact R
end XCI3
section XCI4
variable {vl : Nat → Nat} {y : ow_MS} {T : ow_NT} {J : ow_NT → Prop}
theorem te_tidyOnce (h1 : ∀ T x, J T → tyI T → x < T.1 → mv_bs T.2.2.1.1 (2 * x) (2 * x + 1) = true → J (nt_rm T x)) (h2 : ∀ T x u, J T → tyI T → x < T.1 → u < x → mv_pair T.2.2.1.1 T.2.2.2 x u = true → J (nt_rm (nt_rm T x) u)) (hy : cAt y 44000 T) (hT : tyI T) (hJ : J T) : Te (fun K => ce_X1_tidyOnce vl K 43000 y) (fun r => (∃ T', cAt r.2 44000 T' ∧ tyI T' ∧ J T') ∧ fr (cP 44000) y r.2) := by
  let Q : Int32 × ow_MS → Prop := fun r => (∃ T', cAt r.2 44000 T' ∧ tyI T' ∧ J T') ∧ fr (cP 44000) y r.2
  have hb := hT.1.2.2.1
  have h12 := hT.1.2.1
  have c1 : ∀ (d x : Nat), x + d = T.1 → Tt (fun K k => c_X1_tidyOnce vl K k 1 (nI x) 0 43000 y) Q := by
    intro d
    induction d with
    | zero =>
      intro x hx
      refine u_X1_tidyOnce_1 ?_; unfold cm_X1_tidyOnce_1
      exact w_rdF hy.1 (w_leT (by omega) (by omega) (w_okZ (Or.inl rfl) (w_some ⟨⟨T, hy, hT, hJ⟩, fr_rf⟩)))
    | succ d ih =>
      intro x hx
      have c2 : ∀ (d2 u : Nat), u + d2 = x → Tt (fun K k => c_X1_tidyOnce vl K k 2 (nI x) (nI u) 43000 y) Q := by
        intro d2
        induction d2 with
        | zero =>
          intro u hu
          refine u_X1_tidyOnce_2 ?_; unfold cm_X1_tidyOnce_2
          refine w_leT (by omega) (by omega) ?_
          rw [nI_1]
          exact ih (x + 1) (by omega)
        | succ d2 ih2 =>
          intro u hu
          refine u_X1_tidyOnce_2 ?_; unfold cm_X1_tidyOnce_2
          refine w_leF (by omega) (by omega) (w_cs1 (tc_isPair nH44 hy hb (by omega) (by omega)) ?_)
          rintro a z1 ⟨r1, r2⟩
          dsimp only at r1 r2
          subst r2
          rw [r1]
          cases e : mv_pair T.2.2.1.1 T.2.2.2 x u with
          | false =>
            refine w_ifT rfl ?_
            rw [nI_1]
            exact ih2 (u + 1) (by omega)
          | true =>
            refine w_ifF (by decide) (w_cs0 (tc_removeCrossing nH44 hy hb (by omega) h12) ?_)
            rintro z2 ⟨q1, q2⟩
            have hx1 : (nt_rm T x).1 = T.1 - 1 := rfl
            have hv1 := nv_rm hT.1 (show x < T.1 by omega)
            refine w_cs0 (tc_removeCrossing nH44 q1 hv1.2.2.1 (by omega) hv1.2.1) ?_
            rintro z3 ⟨q3, q4⟩
            exact w_okZ (Or.inr rfl) (w_some ⟨⟨_, q3, tyI_2 hT (by omega) (by omega) e, h2 T x u hJ hT (by omega) (by omega) e⟩, fr_tr q2 q4⟩)
      refine u_X1_tidyOnce_1 ?_; unfold cm_X1_tidyOnce_1
      refine w_rdF hy.1 (w_leF (by omega) (by omega) (w_cs1 (tc_isLoop nH44 hy hb (by omega)) ?_))
      rintro a z1 ⟨r1, r2⟩
      dsimp only at r1 r2
      subst r2
      rw [r1]
      cases e : mv_bs T.2.2.1.1 (2 * x) (2 * x + 1) with
      | false => exact w_ifT rfl (c2 x 0 (by omega))
      | true =>
        refine w_ifF (by decide) (w_cs0 (tc_removeCrossing nH44 hy hb (by omega) h12) ?_)
        rintro z2 ⟨q1, q2⟩
        exact w_okZ (Or.inr rfl) (w_some ⟨⟨_, q1, tyI_1 hT (by omega) e, h1 T x hJ hT (by omega) e⟩, q2⟩)
  refine e_X1_tidyOnce ?_
  refine u_X1_tidyOnce_0 ?_; unfold cm_X1_tidyOnce_0
  exact c1 T.1 0 (by omega)
theorem te_tidy (h1 : ∀ T x, J T → tyI T → x < T.1 → mv_bs T.2.2.1.1 (2 * x) (2 * x + 1) = true → J (nt_rm T x)) (h2 : ∀ T x u, J T → tyI T → x < T.1 → u < x → mv_pair T.2.2.1.1 T.2.2.2 x u = true → J (nt_rm (nt_rm T x) u)) (hy : cAt y 44000 T) (hT : tyI T) (hJ : J T) : Te (fun K => ce_X1_tidy vl K 43000 y) (fun y1 => (∃ T', cAt y1 44000 T' ∧ tyI T' ∧ J T') ∧ fr (cP 44000) y y1) := by
  let Q : ow_MS → Prop := fun y1 => (∃ T', cAt y1 44000 T' ∧ tyI T' ∧ J T') ∧ fr (cP 44000) y y1
  have c1 : ∀ (d i : Nat) (x1 : Int32) (z : ow_MS), i + d = 9 → Q z → Tt (fun K k => c_X1_tidy vl K k 1 x1 (nI i) 43000 z) Q := by
    intro d
    induction d with
    | zero =>
      intro i x1 z hi hz
      refine u_X1_tidy_1 ?_; unfold cm_X1_tidy_1
      exact w_ltT (a := 8) (b := i) (by omega) (by omega) (w_some hz)
    | succ d ih =>
      intro i x1 z hi hz
      refine u_X1_tidy_1 ?_; unfold cm_X1_tidy_1
      refine w_ltF (a := 8) (b := i) (by omega) (by omega) (w_if (fun _ => w_some hz) (fun _ => ?_))
      obtain ⟨⟨T1, t1, t2, t4⟩, t3⟩ := hz
      refine w_cs1 (te_tidyOnce h1 h2 t1 t2 t4) ?_
      rintro a z1 ⟨q1, q2⟩
      rw [nI_1]
      exact ih (i + 1) _ z1 (by omega) ⟨q1, fr_tr t3 q2⟩
  refine e_X1_tidy ?_
  refine u_X1_tidy_0 ?_; unfold cm_X1_tidy_0
  exact c1 9 0 _ y (by omega) ⟨⟨T, hy, hT, hJ⟩, fr_rf⟩
end XCI4
end
section
/-! 99zzzzzzzzzzzzzzzzyzb.xchq -/
-- CHAIN: elimination row by row
/-- rows by the column where they begin; a row of 0 where none is kept -/
def ech9 (p : Int) (W : Nat) (d : Nat → vc9) : Prop := ∀ k, k < W → (∀ j, j < k → p ∣ d k j) ∧ ((∀ j, j < W → p ∣ d k j) ∨ ¬ p ∣ d k k)
section XCI5
variable {p : Int} {W n i : Nat} {d M : Nat → vc9} {u v w : vc9}
theorem ap_at (hd : ech9 p W d) {a : vc9} {k : Nat} (hk : k < W) (ha : ∀ j, j < k → p ∣ a j) : ∀ {n : Nat}, n ≤ W → p ∣ ap9 d n a k - (if k < n then a k * d k k else 0)
  | 0, _ => by
    rw [if_neg (by omega)]
    show p ∣ (0 : Int) - 0
    exact Int.dvd_zero p
  | n + 1, hn => by
    have ih := ap_at (a := a) hd hk ha (n := n) (by omega)
    show p ∣ ap9 d n a k + a n * d n k - _
    rcases Nat.lt_trichotomy k n with c | c | c
    · rw [if_pos c] at ih
      rw [if_pos (by omega)]
      have h9 := dvr9 (a n) ((hd n (by omega)).1 k c)
      rw [show ap9 d n a k + a n * d n k - a k * d k k = (ap9 d n a k - a k * d k k) + a n * d n k by omega]
      exact Int.dvd_add ih h9
    · rw [if_neg (by omega)] at ih
      rw [if_pos (by omega), ← c]
      rw [← c] at ih
      rw [show ap9 d k a k + a k * d k k - a k * d k k = ap9 d k a k - 0 by omega]
      exact ih
    · rw [if_neg (by omega)] at ih
      rw [if_neg (by omega)]
      have h9 := dvl9 (d n k) (ha n c)
      rw [show ap9 d n a k + a n * d n k - 0 = (ap9 d n a k - 0) + a n * d n k by omega]
      exact Int.dvd_add ih h9
/-- what lies in the span begins where a row begins -/
theorem el_in (hp : pr9 p) (hd : ech9 p W d) (hu : sp9 p W (rwl9 d W) u) {k : Nat} (hk : k < W) (h0 : ∀ j, j < k → p ∣ u j) (hz : ∀ j, j < W → p ∣ d k j) : p ∣ u k := by
  obtain ⟨a, ha⟩ := sp_ap.mp hu
  -- all numbers before k are 0 or stand at empty rows
  have key : ∀ m, m ≤ k → ∃ a', zq9 p W u (ap9 d W a') ∧ ∀ j, j < m → p ∣ a' j := by
    intro m
    induction m with
    | zero => exact fun _ => ⟨a, ha, fun j hj => absurd hj (Nat.not_lt_zero _)⟩
    | succ m ih =>
      intro hm
      obtain ⟨a', h1, h2⟩ := ih (by omega)
      have e := ap_at (a := a') hd (show m < W by omega) h2 (Nat.le_refl W)
      rw [if_pos (by omega)] at e
      have e2 := h1 m (by omega)
      have e3 : p ∣ a' m * d m m := by
        have := Int.dvd_sub (h0 m (by omega)) (Int.dvd_add e2 e)
        rw [show u m - (u m - ap9 d W a' m + (ap9 d W a' m - a' m * d m m)) = a' m * d m m by omega] at this
        exact this
      rcases (hd m (by omega)).2 with c | c
      · refine ⟨fun j => if j = m then 0 else a' j, zq_t h1 ?_, fun j hj => ?_⟩
        · have q : ∀ n, ∀ j, j < W → p ∣ ap9 d n a' j - ap9 d n (fun j => if j = m then 0 else a' j) j := by
            intro n
            induction n with
            | zero => exact fun j _ => by show p ∣ (0 : Int) - 0; exact Int.dvd_zero p
            | succ n ih2 =>
              intro j hj
              show p ∣ (ap9 d n a' j + a' n * d n j) - (ap9 d n (fun j => if j = m then 0 else a' j) j + (if n = m then 0 else a' n) * d n j)
              have i2 := ih2 j hj
              by_cases cn : n = m
              · rw [if_pos cn, Int.zero_mul, Int.add_zero]
                have i3 := dvr9 (a' n) (c j hj)
                rw [cn] at i3 i2 ⊢
                rw [show ap9 d m a' j + a' m * d m j - ap9 d m (fun j => if j = m then 0 else a' j) j = (ap9 d m a' j - ap9 d m (fun j => if j = m then 0 else a' j) j) + a' m * d m j by omega]
                exact Int.dvd_add i2 i3
              · rw [if_neg cn]
                rw [show ap9 d n a' j + a' n * d n j - (ap9 d n (fun j => if j = m then 0 else a' j) j + a' n * d n j) = ap9 d n a' j - ap9 d n (fun j => if j = m then 0 else a' j) j by omega]
                exact i2
          exact fun j hj => q W j hj
        · show p ∣ if j = m then 0 else a' j
          by_cases cj : j = m
          · rw [if_pos cj]
            exact Int.dvd_zero p
          · rw [if_neg cj]
            exact h2 j (by omega)
      · refine ⟨a', h1, fun j hj => ?_⟩
        rcases Nat.lt_or_ge j m with c1 | c1
        · exact h2 j c1
        · rw [show j = m by omega]
          exact (hp.2 _ _ e3).elim id (fun h9 => absurd h9 c)
  obtain ⟨a', h1, h2⟩ := key k (Nat.le_refl k)
  have e := ap_at (a := a') hd hk h2 (Nat.le_refl W)
  rw [if_pos hk] at e
  have e2 := h1 k hk
  have e3 := dvr9 (a' k) (hz k hk)
  have := Int.dvd_add (Int.dvd_add e2 e) e3
  rw [show u k - ap9 d W a' k + (ap9 d W a' k - a' k * d k k) + a' k * d k k = u k by omega] at this
  exact this
/-- after i rows of M the kept rows d -/
def El9 (p : Int) (W : Nat) (M : Nat → vc9) (i : Nat) (d : Nat → vc9) : Prop := ech9 p W d ∧ ∀ v, sp9 p W (rwl9 M i) v ↔ sp9 p W (rwl9 d W) v
theorem rwl_in : ∀ {n k : Nat}, k < n → d k ∈ rwl9 d n
  | 0, k, h => absurd h (Nat.not_lt_zero _)
  | n + 1, k, h => by
    rcases Nat.lt_or_ge k n with c | c
    · exact List.mem_cons_of_mem _ (rwl_in c)
    · rw [show k = n by omega]
      exact List.mem_cons_self
theorem rwl_mem : ∀ {n : Nat}, u ∈ rwl9 d n → ∃ k, k < n ∧ u = d k
  | 0, h => absurd h List.not_mem_nil
  | n + 1, h => by
    rcases List.mem_cons.mp h with e | e
    · exact ⟨n, by omega, e⟩
    · obtain ⟨k, k1, k2⟩ := rwl_mem e
      exact ⟨k, by omega, k2⟩
theorem El_0 : El9 p W M 0 (fun _ _ => 0) := by
  refine ⟨fun k _ => ⟨fun j _ => Int.dvd_zero p, Or.inl (fun j _ => Int.dvd_zero p)⟩, fun v => ?_⟩
  constructor
  · intro h
    exact sp_tr h (fun u hu => absurd hu List.not_mem_nil)
  · intro h
    refine sp_tr h (fun u hu => ?_)
    obtain ⟨k, -, e⟩ := rwl_mem hu
    rw [e]
    exact sp_0
/-- nothing new -/
theorem El_n (h : El9 p W M i d) (hv : sp9 p W (rwl9 d W) (M i)) : El9 p W M (i + 1) d ∧ rk9 p W (rwl9 M (i + 1)) = rk9 p W (rwl9 M i) := by
  have hv' := (h.2 _).mpr hv
  refine ⟨⟨h.1, fun v => ?_⟩, rk_y hv'⟩
  rw [← h.2 v]
  constructor
  · intro h9
    refine sp_tr h9 (fun u hu => ?_)
    rcases List.mem_cons.mp hu with e | e
    · rw [e]
      exact hv'
    · exact sp_in e
  · exact sp_c
/-- a new row -/
theorem El_y (hp : pr9 p) (h : El9 p W M i d) {k : Nat} {t t' : Int} (hk : k < W) (hz : ∀ j, j < W → p ∣ d k j) (hv : sp9 p W (rwl9 d W) (fun j => M i j - w j)) (h0 : ∀ j, j < k → p ∣ w j) (hn : ¬ p ∣ w k) (ht : p ∣ t * t' - 1) (hu : zq9 p W u (fun j => t * w j)) : El9 p W M (i + 1) (fun j => if j = k then u else d j) ∧ rk9 p W (rwl9 M (i + 1)) = rk9 p W (rwl9 M i) + 1 := by
  have tn : ¬ p ∣ t := fun h9 => by
    have := Int.dvd_sub (dvl9 t' h9) ht
    rw [show t * t' - (t * t' - 1) = 1 by omega] at this
    have := Int.le_of_dvd (by omega) this
    have := hp.1
    omega
  have nin : ¬ sp9 p W (rwl9 M i) (M i) := fun h9 => by
    have h8 := (h.2 _).mp h9
    have h7 : sp9 p W (rwl9 d W) w := by
      have := sp_a h8 (sp_m (-1) hv)
      refine sp_q (fun j _ => ?_) this
      rw [show w j - (M i j + -1 * (M i j - w j)) = 0 by omega]
      exact Int.dvd_zero p
    exact hn (el_in hp h.1 h7 hk h0 hz)
  refine ⟨⟨fun j hj => ?_, fun v => ?_⟩, rk_n nin⟩
  · dsimp only
    by_cases c : j = k
    · rw [if_pos c]
      refine ⟨fun m hm => ?_, Or.inr ?_⟩
      · have := hu m (by omega)
        have h9 := dvr9 t (h0 m (by omega))
        have := Int.dvd_add this h9
        rw [show u m - t * w m + t * w m = u m by omega] at this
        exact this
      · rw [c]
        intro h9
        have := Int.dvd_sub h9 (hu k hk)
        rw [show u k - (u k - t * w k) = t * w k by omega] at this
        exact (hp.2 _ _ this).elim tn hn
    · rw [if_neg c]
      exact h.1 j hj
  · have ku : sp9 p W (rwl9 (fun j => if j = k then u else d j) W) u := sp_in (by
      have := rwl_in (d := fun j => if j = k then u else d j) hk
      rw [if_pos rfl] at this
      exact this)
    have kd : ∀ x, sp9 p W (rwl9 d W) x → sp9 p W (rwl9 (fun j => if j = k then u else d j) W) x := fun x hx => sp_tr hx (fun y hy => by
      obtain ⟨j, j1, e⟩ := rwl_mem hy
      by_cases c : j = k
      · rw [e, c]
        exact sp_q (fun m hm => by rw [Int.sub_zero]; exact hz m hm) sp_0
      · have := rwl_in (d := fun j => if j = k then u else d j) j1
        rw [if_neg c] at this
        rw [e]
        exact sp_in this)
    have kw : sp9 p W (rwl9 (fun j => if j = k then u else d j) W) w := by
      refine sp_q (fun j hj => ?_) (sp_m t' ku)
      have a := dvr9 t' (hu j hj)
      have b := dvl9 (w j) ht
      have := Int.dvd_add a b
      have e : t' * (u j - t * w j) + (t * t' - 1) * w j = -(w j - t' * u j) := by
        rw [Int.mul_sub, Int.sub_mul, Int.one_mul, show t' * (t * w j) = t * t' * w j by rw [← Int.mul_assoc, Int.mul_comm t' t]]
        omega
      rw [e] at this
      exact (Int.dvd_neg).mp this
    constructor
    · intro h9
      refine sp_tr h9 (fun y hy => ?_)
      rcases List.mem_cons.mp hy with e | e
      · rw [e]
        have := sp_a (kd _ hv) kw
        refine sp_q (fun j _ => ?_) this
        rw [show M i j - (M i j - w j + w j) = 0 by omega]
        exact Int.dvd_zero p
      · exact kd y ((h.2 y).mp (sp_in e))
    · intro h9
      refine sp_tr h9 (fun y hy => ?_)
      obtain ⟨j, j1, e⟩ := rwl_mem hy
      by_cases c : j = k
      · rw [if_pos c] at e
        rw [e]
        have h8 : sp9 p W (rwl9 M (i + 1)) w := by
          have a : sp9 p W (rwl9 M (i + 1)) (M i) := sp_in List.mem_cons_self
          have b : sp9 p W (rwl9 M (i + 1)) (fun j => M i j - w j) := sp_c ((h.2 _).mpr hv)
          refine sp_q (fun j _ => ?_) (sp_a a (sp_m (-1) b))
          rw [show w j - (M i j + -1 * (M i j - w j)) = 0 by omega]
          exact Int.dvd_zero p
        exact sp_q hu (sp_m t h8)
      · rw [if_neg c] at e
        rw [e]
        exact sp_c ((h.2 _).mpr (sp_in (rwl_in j1)))
/-- rows that need not be looked at -/
theorem rk_cl (hp : pr9 p) (hi : iv9 p) {n : Nat} {M' : Nat → vc9} (cl : Nat → Prop) (h1 : ∀ i, i < n → ¬ cl i → M' i = M i) (h2 : ∀ i, i < n → cl i → M' i = fun _ => 0) (h3 : ∀ i, i < n → cl i → ∃ a : vc9, zq9 p W (M i) (fun j => sN9 (fun k => if i < k then a k * M k j else 0) n)) : rk9 p W (rwl9 M' n) = rk9 p W (rwl9 M n) := by
  refine rk_sp hp hi (fun v hv => ?_) (fun v hv => ?_)
  · obtain ⟨k, k1, e⟩ := rwl_mem hv
    by_cases c : cl k
    · rw [e, h2 k k1 c]
      exact sp_0
    · rw [e, h1 k k1 c]
      exact sp_in (rwl_in k1)
  · obtain ⟨k, k1, e⟩ := rwl_mem hv
    rw [e]
    have key : ∀ e, ∀ k, k + e = n → 0 < e → sp9 p W (rwl9 M' n) (M k) := by
      intro e
      induction e using Nat.strongRecOn with
      | ind e ih =>
        intro k hk h0
        by_cases c : cl k
        · obtain ⟨a, ha⟩ := h3 k (by omega) c
          refine sp_q ha ?_
          have q : ∀ m, m ≤ n → sp9 p W (rwl9 M' n) (fun j => sN9 (fun x => if k < x then a x * M x j else 0) m) := by
            intro m
            induction m with
            | zero => exact fun _ => sp_0
            | succ m ih2 =>
              intro hm
              have s1 := ih2 (by omega)
              by_cases cm : k < m
              · have s2 := sp_m (a m) (ih (n - m) (by omega) m (by omega) (by omega))
                refine sp_q (fun j _ => ?_) (sp_a s1 s2)
                show p ∣ sN9 (fun x => if k < x then a x * M x j else 0) m + (if k < m then a m * M m j else 0) - _
                rw [if_pos cm, Int.sub_self]
                exact Int.dvd_zero p
              · refine sp_q (fun j _ => ?_) s1
                show p ∣ sN9 (fun x => if k < x then a x * M x j else 0) m + (if k < m then a m * M m j else 0) - _
                rw [if_neg cm, Int.add_zero, Int.sub_self]
                exact Int.dvd_zero p
          exact q n (Nat.le_refl n)
        · rw [← h1 k (by omega) c]
          exact sp_in (rwl_in (by omega))
    exact key (n - k) k (by omega) (by omega)
end XCI5
end
section
/-! 99zzzzzzzzzzzzzzzzyzc.xchr -/
-- CHAIN: the generators in their order
/-- loops by number -/
def LT9 (c : Nat) (G : Nat → Prop) (rel : (Nat → Bool) → Nat → Nat → Prop) (Ls : Nat → Nat → Nat) (ns : Nat → Nat) : Prop := ∀ s, s < 2 ^ c → (∀ g, G g → Ls s g < ns s) ∧ (∀ l, l < ns s → ∃ g, G g ∧ Ls s g = l) ∧ (∀ g g', G g → G g' → (Ls s g = Ls s g' ↔ rel (tb s) g g')) ∧ ns s ≤ 20
noncomputable def ge9 (G : Nat → Prop) (Ls : Nat → Nat → Nat) (s m : Nat) : gn9 := (tb s, fun g => dcb (G g) && decide (btN m (Ls s g) = 0))
def va9 (c : Nat) (ns : Nat → Nat) (dg : Int) (h s m : Nat) : Prop := s < 2 ^ c ∧ pc s = h ∧ m < 2 ^ ns s ∧ kpF (ns s) (pc s) dg = some (pc m)
def ix9 (ns : Nat → Nat) (dg : Int) (s m : Nat) : Nat := smH (bkF ns dg) (pc s) 0 s + cpN (pc m) m
def sz9 (c : Nat) (ns : Nat → Nat) (dg : Int) (h : Nat) : Nat := smH (bkF ns dg) h 0 (2 ^ c)
section XCI6
variable {c V k r : Nat} {G : Nat → Prop} {P1 P2 P3 : Nat → Nat} {rel : (Nat → Bool) → Nat → Nat → Prop} {Ls : Nat → Nat → Nat} {ns : Nat → Nat} {dg : Int} {s m : Nat}
theorem tb_b (m y : Nat) : tb m y = decide (btN m y = 1) := rfl
theorem bt_01 (m y : Nat) : btN m y = 0 ∨ btN m y = 1 := by
  unfold btN
  omega
theorem nb_ex : ∀ (n : Nat) (b : Nat → Bool), (∀ y, n ≤ y → b y = false) → ∃ m, m < 2 ^ n ∧ ∀ y, tb m y = b y
  | 0, b, h => ⟨0, by decide, fun y => by
    rw [h y (Nat.zero_le y)]
    unfold tb
    rw [Nat.zero_div]
    rfl⟩
  | n + 1, b, h => by
    obtain ⟨m, m1, m2⟩ := nb_ex n (off9 b n) (fun y hy => by
      by_cases c : y = n
      · rw [c]
        exact off_x
      · rw [off_o c]
        exact h y (by omega))
    have pw : (2 : Nat) ^ (n + 1) = 2 ^ n + 2 ^ n := by
      rw [Nat.pow_succ]
      omega
    by_cases cb : b n = true
    · refine ⟨m + 2 ^ n, by omega, fun y => ?_⟩
      rw [tb_b, bt_add m1]
      by_cases c : y = n
      · rw [if_pos c, c, cb]
        rfl
      · rw [if_neg c, ← tb_b, m2, off_o c]
    · refine ⟨m, by omega, fun y => ?_⟩
      rw [m2, off_f (ff_of cb)]
theorem tb_in : ∀ (n : Nat) {m m' : Nat}, m < 2 ^ n → m' < 2 ^ n → (∀ y, y < n → tb m y = tb m' y) → m = m'
  | 0, m, m', h, h', _ => by
    have : (2 : Nat) ^ 0 = 1 := rfl
    omega
  | n + 1, m, m', h, h', e => by
    have pw : (2 : Nat) ^ (n + 1) = 2 * 2 ^ n := by
      rw [Nat.pow_succ]
      omega
    have sh : ∀ m y, tb (m / 2) y = tb m (y + 1) := fun m y => by
      unfold tb
      rw [Nat.div_div_eq_div_mul, Nat.pow_succ, Nat.mul_comm 2]
    have q := tb_in n (m := m / 2) (m' := m' / 2) (by omega) (by omega) (fun y hy => by rw [sh, sh]; exact e (y + 1) (by omega))
    have e0 := e 0 (by omega)
    unfold tb at e0
    rw [Nat.pow_zero, Nat.div_one, Nat.div_one] at e0
    have e1 := decide_eq_decide.mp e0
    omega
theorem tb_hi {n y : Nat} (h : m < 2 ^ n) (hy : n ≤ y) : tb m y = false := by
  rw [tb_b, bt_lt h hy]
  rfl
theorem ons_sb : ∀ n, ons9 (tb m) n = sbt m n
  | 0 => rfl
  | n + 1 => by
    show ons9 (tb m) n + (if tb m n = true then 1 else 0) = sbt m n + btN m n
    rw [ons_sb n, tb_b]
    rcases bt_01 m n with e | e <;> rw [e] <;> rfl
theorem ons_pc (hs : s < 2 ^ c) (hc : c ≤ 32) : ons9 (tb s) c = pc s := by rw [ons_sb, pc_sbt hc hs]
theorem cn_all : ∀ n, cn9 (fun _ => True) n = n
  | 0 => rfl
  | n + 1 => by rw [cn_y trivial, cn_all n]
theorem cn_bt : ∀ n, cn9 (fun l => btN m l = 0) n + sbt m n = n
  | 0 => rfl
  | n + 1 => by
    have ih := cn_bt n
    show cn9 (fun l => btN m l = 0) (n + 1) + (sbt m n + btN m n) = n + 1
    rcases bt_01 m n with e | e
    · rw [cn_y (P := fun l => btN m l = 0) e]
      omega
    · rw [cn_n (P := fun l => btN m l = 0) (by rw [e]; omega)]
      omega
theorem cls_Eq {n : Nat} {Q : Nat → Prop} : cls9 (fun a b => a = b) (fun l => l < n) n Q = cn9 Q n := cn_cg (fun l hl => ⟨fun h => h.2, fun h => ⟨⟨hl, fun h' h1 _ h2 => by omega⟩, h⟩⟩)
theorem cls_lp (hC : cu9 c V G P1 P2 P3 rel) (hL : LT9 c G rel Ls ns) (hs : s < 2 ^ c) {Q Q' : Nat → Prop} (hQ : ∀ g h, rel (tb s) g h → (Q g ↔ Q h)) (hq : ∀ g, G g → (Q' (Ls s g) ↔ Q g)) : cls9 (rel (tb s)) G V Q = cn9 Q' (ns s) := by
  obtain ⟨l1, l2, l3, -⟩ := hL s hs
  obtain ⟨φ, hφ⟩ : ∃ φ : Nat → Nat, ∀ l, l < ns s → G (φ l) ∧ Ls s (φ l) = l := ⟨fun l => @dite _ (l < ns s) (Classical.propDecidable _) (fun h => (l2 l h).choose) (fun _ => 0), fun l hl => by
    dsimp only
    rw [dif_pos hl]
    exact (l2 l hl).choose_spec⟩
  rw [← cls_Eq]
  refine cls_ph (φ := φ) (hC.1.1 _) ⟨fun _ => rfl, fun _ _ h => h.symm, fun _ _ _ h h' => h.trans h'⟩ hC.2.2.1 (fun g hg => hg) (fun l hl => (hφ l hl).1) (fun l l' hl hl' => ?_) (fun g hg => ?_) hQ (fun l hl => ?_)
  · rw [← l3 _ _ (hφ l hl).1 (hφ l' hl').1, (hφ l hl).2, (hφ l' hl').2]
  · exact ⟨Ls s g, l1 g hg, (l3 _ _ hg (hφ _ (l1 g hg)).1).mp (hφ _ (l1 g hg)).2.symm⟩
  · rw [← hq _ (hφ l hl).1, (hφ l hl).2]
theorem ge_rel (hC : cu9 c V G P1 P2 P3 rel) (hL : LT9 c G rel Ls ns) (hs : s < 2 ^ c) : vl9 rel (ge9 G Ls s m) := fun g h h9 => by
  obtain ⟨l1, l2, l3, -⟩ := hL s hs
  by_cases e : g = h
  · rw [e]
  · obtain ⟨a, b⟩ := hC.2.1 (tb s) (fun y hy => tb_hi hs hy) g h h9 e
    show (dcb (G g) && decide (btN m (Ls s g) = 0)) = (dcb (G h) && decide (btN m (Ls s h) = 0))
    rw [dcb_t.mpr a, dcb_t.mpr b, (l3 g h a b).mpr h9]
theorem ge_dg (hC : cu9 c V G P1 P2 P3 rel) (hL : LT9 c G rel Ls ns) (hc : c ≤ 32) (hs : s < 2 ^ c) (hm : m < 2 ^ ns s) : dg9 rel G V c (ge9 G Ls s m) = 2 * (pc m : Int) - ns s + pc s := by
  have h20 := (hL s hs).2.2.2
  unfold dg9
  have e1 : cls9 (rel (ge9 G Ls s m).1) G V (fun _ => True) = ns s := (cls_lp hC hL hs (Q := fun _ => True) (Q' := fun _ => True) (fun _ _ _ => Iff.rfl) (fun _ _ => Iff.rfl)).trans (cn_all _)
  have e2 : cls9 (rel (ge9 G Ls s m).1) G V (fun g => (ge9 G Ls s m).2 g = true) = cn9 (fun l => btN m l = 0) (ns s) := cls_lp hC hL hs (fun g h h9 => by rw [ge_rel hC hL hs g h h9]) (fun g hg => by
    show btN m (Ls s g) = 0 ↔ (dcb (G g) && decide (btN m (Ls s g) = 0)) = true
    rw [dcb_t.mpr hg, Bool.true_and, decide_eq_true_iff])
  have e3 : ons9 (ge9 G Ls s m).1 c = pc s := ons_pc hs hc
  rw [e1, e2, e3]
  have e4 := cn_bt (m := m) (ns s)
  rw [← pc_sbt (by omega) hm] at e4
  omega
theorem kp_iff {n h k : Nat} {dg : Int} (hk : k ≤ n) : kpF n h dg = some k ↔ 2 * (k : Int) - n + h = dg := by
  unfold kpF
  constructor
  · intro h9
    split at h9
    · have := Option.some.inj h9
      omega
    · cases h9
  · intro h9
    rw [if_pos (by omega)]
    congr 1
    omega
theorem Sg_va (hC : cu9 c V G P1 P2 P3 rel) (hL : LT9 c G rel Ls ns) (hc : c ≤ 32) {γ : gn9} : Sg9 c V G rel k dg r γ ↔ ∃ s m, va9 c ns dg (pc s) s m ∧ pc s + k = r ∧ γ = ge9 G Ls s m := by
  constructor
  · rintro ⟨z1, z2, z3, z4, z5⟩
    obtain ⟨s, s1, s2⟩ := nb_ex c γ.1 z1
    have es : tb s = γ.1 := funext s2
    obtain ⟨l1, l2, l3, l4⟩ := hL s s1
    obtain ⟨m, m1, m2⟩ := nb_ex (ns s) (fun l => @dite _ (l < ns s) (Classical.propDecidable _) (fun h => !γ.2 (l2 l h).choose) (fun _ => false)) (fun y hy => dif_neg (by omega))
    have eγ : γ = ge9 G Ls s m := by
      refine Prod.ext es.symm (funext (fun g => ?_))
      show γ.2 g = (dcb (G g) && decide (btN m (Ls s g) = 0))
      by_cases hg : G g
      · rw [dcb_t.mpr hg, Bool.true_and]
        have h2 := m2 (Ls s g)
        rw [dif_pos (l1 g hg)] at h2
        obtain ⟨q1, q2⟩ := (l2 _ (l1 g hg)).choose_spec
        have q3 := (l3 _ _ q1 hg).mp q2
        rw [es] at q3
        rw [z3 _ _ q3, tb_b] at h2
        rcases bt_01 m (Ls s g) with e | e
        · rw [e] at h2 ⊢
          revert h2
          cases γ.2 g <;> simp
        · rw [e] at h2 ⊢
          revert h2
          cases γ.2 g <;> simp
      · rw [dcb_f.mpr hg, z2 g hg]
        rfl
    refine ⟨s, m, ⟨s1, rfl, m1, ?_⟩, ?_, eγ⟩
    · rw [eγ, ge_dg hC hL hc s1 m1] at z5
      exact (kp_iff (pc_le m1)).mpr z5
    · rw [← z4, ← es, ons_pc s1 hc]
  · rintro ⟨s, m, ⟨s1, -, m1, hk⟩, e1, rfl⟩
    refine ⟨fun y hy => tb_hi s1 hy, fun g hg => ?_, ge_rel hC hL s1, ?_, ?_⟩
    · show (dcb (G g) && _) = false
      rw [dcb_f.mpr hg]
      rfl
    · rw [← e1]
      show ons9 (tb s) c + k = _
      rw [ons_pc s1 hc]
    · rw [ge_dg hC hL hc s1 m1]
      exact (kp_iff (pc_le m1)).mp hk
theorem ge_in (hL : LT9 c G rel Ls ns) {s' m' : Nat} (hs : s < 2 ^ c) (hs' : s' < 2 ^ c) (hm : m < 2 ^ ns s) (hm' : m' < 2 ^ ns s') (e : ge9 G Ls s m = ge9 G Ls s' m') : s = s' ∧ m = m' := by
  have e1 : tb s = tb s' := congrArg Prod.fst e
  have es : s = s' := tb_in c hs hs' (fun y _ => congrFun e1 y)
  refine ⟨es, ?_⟩
  subst es
  obtain ⟨l1, l2, l3, l4⟩ := hL s hs
  refine tb_in (ns s) hm hm' (fun l hl => ?_)
  obtain ⟨g, g1, g2⟩ := l2 l hl
  have e2 : (dcb (G g) && decide (btN m (Ls s g) = 0)) = (dcb (G g) && decide (btN m' (Ls s g) = 0)) := congrFun (congrArg Prod.snd e) g
  rw [dcb_t.mpr g1, Bool.true_and, Bool.true_and, g2] at e2
  have e3 := decide_eq_decide.mp e2
  rw [tb_b, tb_b]
  rcases bt_01 m l with a | a <;> rcases bt_01 m' l with b | b <;> rw [a, b] at e3 ⊢ <;> simp at e3
/-- the place of a generator -/
theorem bk_va {h : Nat} (hv : va9 c ns dg h s m) (hn : ns s < 32) : bkF ns dg s = biN (ns s) (pc m) ∧ cpN (pc m) m < bkF ns dg s := by
  have e : bkF ns dg s = biN (ns s) (pc m) := by
    unfold bkF
    rw [hv.2.2.2]
  exact ⟨e, by rw [e]; exact cpN_lt hn hv.2.2.1⟩
theorem smH_s (w : Nat → Nat) (h n : Nat) : smH w h 0 (n + 1) = smH w h 0 n + if pc n = h then w n else 0 := by
  show smH w h 0 n + (if pc n = h then w (0 + n) else 0) = _
  rw [Nat.zero_add]
theorem ix_sz {h : Nat} (hv : va9 c ns dg h s m) (hn : ns s < 32) : ix9 ns dg s m < sz9 c ns dg h := by
  obtain ⟨e1, e2⟩ := bk_va hv hn
  unfold ix9 sz9
  rw [← hv.2.1]
  have a := smH_mono (w := bkF ns dg) (h := pc s) (t := 0) (a := s + 1) (2 ^ c) hv.1
  rw [smH_s, if_pos rfl] at a
  omega
theorem ix_in {h s' m' : Nat} (hv : va9 c ns dg h s m) (hv' : va9 c ns dg h s' m') (hn : ns s < 32) (hn' : ns s' < 32) (e : ix9 ns dg s m = ix9 ns dg s' m') : s = s' ∧ m = m' := by
  obtain ⟨e1, e2⟩ := bk_va hv hn
  obtain ⟨f1, f2⟩ := bk_va hv' hn'
  have lt : ∀ {a b x y : Nat}, pc a = h → pc b = h → a < b → x < bkF ns dg a → smH (bkF ns dg) (pc a) 0 a + x ≠ smH (bkF ns dg) (pc b) 0 b + y := fun {a b x y} ha hb hab hx h9 => by
    have q := smH_mono (w := bkF ns dg) (h := h) (t := 0) (a := a + 1) b hab
    rw [smH_s, if_pos ha] at q
    rw [ha, hb] at h9
    omega
  unfold ix9 at e
  have es : s = s' := by
    rcases Nat.lt_trichotomy s s' with q | q | q
    · exact absurd e (lt hv.2.1 hv'.2.1 q e2)
    · exact q
    · exact absurd e.symm (lt hv'.2.1 hv.2.1 q f2)
  subst es
  refine ⟨rfl, ?_⟩
  have ep : pc m = pc m' := by
    have a := hv.2.2.2
    rw [hv'.2.2.2] at a
    exact (Option.some.inj a).symm
  rw [ep] at e
  have e : cpN (pc m') m = cpN (pc m') m' := by omega
  rcases Nat.lt_trichotomy m m' with q | q | q
  · have a := cpN_mono (r := pc m') (a := m + 1) m' q
    have b : cpN (pc m') (m + 1) = cpN (pc m') m + 1 := by
      show cpN (pc m') m + (if pc m = pc m' then 1 else 0) = _
      rw [if_pos ep]
    omega
  · exact q
  · have a := cpN_mono (r := pc m') (a := m' + 1) m q
    have b : cpN (pc m') (m' + 1) = cpN (pc m') m' + 1 := by
      show cpN (pc m') m' + (if pc m' = pc m' then 1 else 0) = _
      rw [if_pos rfl]
    omega
theorem sm_at {w : Nat → Nat} {h i : Nat} (n : Nat) : i < smH w h 0 n → ∃ s, s < n ∧ pc s = h ∧ smH w h 0 s ≤ i ∧ i < smH w h 0 s + w s := by
  induction n with
  | zero => exact fun h9 => absurd h9 (Nat.not_lt_zero _)
  | succ n ih =>
    intro h9
    rcases Nat.lt_or_ge i (smH w h 0 n) with q | q
    · obtain ⟨s, a, b⟩ := ih q
      exact ⟨s, by omega, b⟩
    · rw [smH_s] at h9
      by_cases e : pc n = h
      · rw [if_pos e] at h9
        exact ⟨n, by omega, e, q, h9⟩
      · rw [if_neg e] at h9
        omega
theorem cp_at {k j : Nat} (n : Nat) : j < cpN k n → ∃ m, m < n ∧ pc m = k ∧ cpN k m = j := by
  induction n with
  | zero => exact fun h9 => absurd h9 (Nat.not_lt_zero _)
  | succ n ih =>
    intro h9
    rcases Nat.lt_or_ge j (cpN k n) with q | q
    · obtain ⟨s, a, b⟩ := ih q
      exact ⟨s, by omega, b⟩
    · have h9 : j < cpN k n + (if pc n = k then 1 else 0) := h9
      by_cases e : pc n = k
      · rw [if_pos e] at h9
        exact ⟨n, by omega, e, by omega⟩
      · rw [if_neg e] at h9
        omega
theorem ix_on {h i : Nat} (hn : ∀ s, s < 2 ^ c → ns s < 32) (hi : i < sz9 c ns dg h) : ∃ s m, va9 c ns dg h s m ∧ ix9 ns dg s m = i := by
  obtain ⟨s, s1, s2, s3, s4⟩ := sm_at _ hi
  have s5 : i - smH (bkF ns dg) h 0 s < bkF ns dg s := by omega
  cases e : kpF (ns s) (pc s) dg with
  | none =>
    unfold bkF at s5
    rw [e] at s5
    exact absurd s5 (Nat.not_lt_zero _)
  | some k =>
    have eb : bkF ns dg s = biN (ns s) k := by
      unfold bkF
      rw [e]
    rw [eb, ← cpN_bi _ _ (hn s s1)] at s5
    obtain ⟨m, m1, m2, m3⟩ := cp_at _ s5
    refine ⟨s, m, ⟨s1, s2, m1, by rw [e, m2]⟩, ?_⟩
    unfold ix9
    rw [s2, m2, m3]
    omega
/-- the generators in their order -/
noncomputable def E9 (c : Nat) (G : Nat → Prop) (Ls : Nat → Nat → Nat) (ns : Nat → Nat) (dg : Int) (k r i : Nat) : gn9 := @dite _ (∃ q : Nat × Nat, va9 c ns dg (r - k) q.1 q.2 ∧ ix9 ns dg q.1 q.2 = i) (Classical.propDecidable _) (fun h => ge9 G Ls h.choose.1 h.choose.2) (fun _ => (fun _ => false, fun _ => false))
def N9 (c : Nat) (ns : Nat → Nat) (dg : Int) (k r : Nat) : Nat := if k ≤ r then sz9 c ns dg (r - k) else 0
theorem E_at {i : Nat} (hn : ∀ s, s < 2 ^ c → ns s < 32) (hv : va9 c ns dg (r - k) s m) (hi : ix9 ns dg s m = i) : E9 c G Ls ns dg k r i = ge9 G Ls s m := by
  have h : ∃ q : Nat × Nat, va9 c ns dg (r - k) q.1 q.2 ∧ ix9 ns dg q.1 q.2 = i := ⟨(s, m), hv, hi⟩
  unfold E9
  rw [dif_pos h]
  obtain ⟨a, b⟩ := h.choose_spec
  obtain ⟨e1, e2⟩ := ix_in a hv (hn _ a.1) (hn _ hv.1) (b.trans hi.symm)
  rw [e1, e2]
theorem en_E (hC : cu9 c V G P1 P2 P3 rel) (hL : LT9 c G rel Ls ns) (hc : c ≤ 32) (r : Nat) : en9 (Sg9 c V G rel k dg r) (E9 c G Ls ns dg k r) (N9 c ns dg k r) := by
  have hn : ∀ s, s < 2 ^ c → ns s < 32 := fun s hs => by
    have := (hL s hs).2.2.2
    omega
  unfold N9
  constructor
  · intro i j hi hj e
    by_cases ck : k ≤ r
    · rw [if_pos ck] at hi hj
      obtain ⟨s, m, a, b⟩ := ix_on hn hi
      obtain ⟨s', m', a', b'⟩ := ix_on hn hj
      rw [E_at hn a b, E_at hn a' b'] at e
      obtain ⟨e1, e2⟩ := ge_in hL a.1 a'.1 a.2.2.1 a'.2.2.1 e
      rw [← b, ← b', e1, e2]
    · rw [if_neg ck] at hi
      exact absurd hi (Nat.not_lt_zero _)
  · intro γ
    rw [Sg_va hC hL hc]
    constructor
    · rintro ⟨s, m, a, e, rfl⟩
      have e2 : r - k = pc s := by omega
      refine ⟨ix9 ns dg s m, ?_, ?_⟩
      · rw [if_pos (by omega), e2]
        exact ix_sz a (hn s a.1)
      · rw [← e2] at a
        exact (E_at hn a rfl).symm
    · rintro ⟨i, i1, rfl⟩
      by_cases ck : k ≤ r
      · rw [if_pos ck] at i1
        obtain ⟨s, m, a, b⟩ := ix_on hn i1
        refine ⟨s, m, ?_, ?_, E_at hn a b⟩
        · rw [a.2.1]
          exact a
        · rw [a.2.1]
          omega
      · rw [if_neg ck] at i1
        exact absurd i1 (Nat.not_lt_zero _)
end XCI6
end
section
/-! 99zzzzzzzzzzzzzzzzyzd.xchs -/
-- CHAIN: D of a generator, by numbers
/-- the loops that stay -/
noncomputable def K9 (G : Nat → Prop) (Ls : Nat → Nat → Nat) (ns : Nat → Nat) (P1 P2 : Nat → Nat) (s m x : Nat) : Nat := (nb_ex (ns (s + 2 ^ x)) (fun l => dcb (l < ns (s + 2 ^ x) ∧ l ≠ Ls (s + 2 ^ x) (P1 x) ∧ l ≠ Ls (s + 2 ^ x) (P2 x) ∧ ∃ g, G g ∧ Ls (s + 2 ^ x) g = l ∧ btN m (Ls s g) = 1)) (fun y hy => dcb_f.mpr (fun h => by omega))).choose
/-- what comes of one crossing -/
noncomputable def di9 (G : Nat → Prop) (Ls : Nat → Nat → Nat) (ns : Nat → Nat) (P1 P2 : Nat → Nat) (s m x : Nat) : List Nat :=
  if Ls s (P1 x) = Ls s (P2 x) then (if btN m (Ls s (P1 x)) = 0 then [K9 G Ls ns P1 P2 s m x] else [K9 G Ls ns P1 P2 s m x + 2 ^ Ls (s + 2 ^ x) (P2 x), K9 G Ls ns P1 P2 s m x + 2 ^ Ls (s + 2 ^ x) (P1 x)])
  else (if btN m (Ls s (P1 x)) = 0 ∧ btN m (Ls s (P2 x)) = 0 then [] else if btN m (Ls s (P1 x)) = 0 ∨ btN m (Ls s (P2 x)) = 0 then [K9 G Ls ns P1 P2 s m x] else [K9 G Ls ns P1 P2 s m x + 2 ^ Ls (s + 2 ^ x) (P1 x)])
section XCI7
variable {c V k r : Nat} {G : Nat → Prop} {P1 P2 : Nat → Nat} {rel : (Nat → Bool) → Nat → Nat → Prop} {Ls : Nat → Nat → Nat} {ns : Nat → Nat} {dg : Int} {s m x : Nat}
theorem K_sp : K9 G Ls ns P1 P2 s m x < 2 ^ ns (s + 2 ^ x) ∧ ∀ l, tb (K9 G Ls ns P1 P2 s m x) l = dcb (l < ns (s + 2 ^ x) ∧ l ≠ Ls (s + 2 ^ x) (P1 x) ∧ l ≠ Ls (s + 2 ^ x) (P2 x) ∧ ∃ g, G g ∧ Ls (s + 2 ^ x) g = l ∧ btN m (Ls s g) = 1) := (nb_ex (ns (s + 2 ^ x)) (fun l => dcb (l < ns (s + 2 ^ x) ∧ l ≠ Ls (s + 2 ^ x) (P1 x) ∧ l ≠ Ls (s + 2 ^ x) (P2 x) ∧ ∃ g, G g ∧ Ls (s + 2 ^ x) g = l ∧ btN m (Ls s g) = 1)) (fun y hy => dcb_f.mpr (fun h => by omega))).choose_spec
theorem bt_0 (m y : Nat) : btN m y = 0 ↔ tb m y = false := by
  rw [tb_b]
  rcases bt_01 m y with e | e <;> rw [e] <;> simp
theorem on_tb (h : btN s x = 0) : on9 (tb s) x = tb (s + 2 ^ x) := funext (fun k => (tb_flip h k).symm)
/-- what a turn does to the loops -/
theorem tn_lp (hC : cu9 c V G P1 P2 P2 rel) (hx : x < c) (hb : btN s x = 0) : (∀ g, (rel (tb s) g (P1 x) ∨ rel (tb s) g (P2 x)) ↔ (rel (tb (s + 2 ^ x)) g (P1 x) ∨ rel (tb (s + 2 ^ x)) g (P2 x))) ∧ (∀ g g', ¬ (rel (tb (s + 2 ^ x)) g (P1 x) ∨ rel (tb (s + 2 ^ x)) g (P2 x)) → (rel (tb s) g g' ↔ rel (tb (s + 2 ^ x)) g g')) ∧ (¬ rel (tb s) (P1 x) (P2 x) → rel (tb (s + 2 ^ x)) (P1 x) (P2 x)) ∧ (rel (tb s) (P1 x) (P2 x) → ¬ rel (tb (s + 2 ^ x)) (P1 x) (P2 x)) := by
  have E := hC.1.1
  have s0 : tb s x = false := (bt_0 s x).mp hb
  have h := hC.1.2 (tb s) x hx s0
  rw [on_tb hb] at h
  have gen : ∀ (R Q : Nat → Nat → Prop) (a b : Nat), eqv9 R → eqv9 Q → (∀ g h, Q g h ↔ adr R a b g h) → (∀ g, (R g a ∨ R g b) ↔ (Q g a ∨ Q g b)) ∧ (∀ g g', ¬ (R g a ∨ R g b) → (R g g' ↔ Q g g')) ∧ Q a b := fun R Q a b hR hQ hq => by
    refine ⟨fun g => ⟨fun h9 => h9.imp (fun e => (hq _ _).mpr (Or.inl e)) (fun e => (hq _ _).mpr (Or.inl e)), fun h9 => ?_⟩, fun g g' hn => ⟨fun e => (hq _ _).mpr (Or.inl e), fun e => ?_⟩, (hq _ _).mpr (adr_ab hR)⟩
    · rcases h9 with h9 | h9
      · rcases (hq _ _).mp h9 with e | ⟨e, -⟩ | ⟨e, -⟩
        · exact Or.inl e
        · exact Or.inl e
        · exact Or.inr e
      · rcases (hq _ _).mp h9 with e | ⟨e, -⟩ | ⟨e, -⟩
        · exact Or.inr e
        · exact Or.inl e
        · exact Or.inr e
    · rcases (hq _ _).mp e with e | ⟨e, -⟩ | ⟨e, -⟩
      · exact e
      · exact absurd (Or.inl e) hn
      · exact absurd (Or.inr e) hn
  rcases h with ⟨a, b⟩ | ⟨a, b, e⟩
  · obtain ⟨h1, h2, h3⟩ := gen _ _ _ _ (E (tb s)) (E (tb (s + 2 ^ x))) b
    exact ⟨h1, fun g g' hn => h2 g g' (fun h9 => hn ((h1 g).mp h9)), fun _ => h3, fun h9 => absurd h9 a⟩
  · obtain ⟨h1, h2, h3⟩ := gen _ _ _ _ (E (tb (s + 2 ^ x))) (E (tb s)) e
    exact ⟨fun g => (h1 g).symm, fun g g' hn => (h2 g g' hn).symm, fun h9 => absurd a h9, fun _ => b⟩
theorem s2_lt (hs : s < 2 ^ c) (hx : x < c) (hb : btN s x = 0) : s + 2 ^ x < 2 ^ c := add_lt hs hx hb
/-- the marks of a loop that stays -/
theorem K_bt (hC : cu9 c V G P1 P2 P2 rel) (hL : LT9 c G rel Ls ns) (hs : s < 2 ^ c) (hx : x < c) (hb : btN s x = 0) {g : Nat} (hg : G g) : (Ls (s + 2 ^ x) g = Ls (s + 2 ^ x) (P1 x) ∨ Ls (s + 2 ^ x) g = Ls (s + 2 ^ x) (P2 x) → btN (K9 G Ls ns P1 P2 s m x) (Ls (s + 2 ^ x) g) = 0) ∧ (¬ (Ls (s + 2 ^ x) g = Ls (s + 2 ^ x) (P1 x) ∨ Ls (s + 2 ^ x) g = Ls (s + 2 ^ x) (P2 x)) → btN (K9 G Ls ns P1 P2 s m x) (Ls (s + 2 ^ x) g) = btN m (Ls s g)) := by
  have ht := s2_lt hs hx hb
  obtain ⟨l1, l2, l3, -⟩ := hL s hs
  obtain ⟨t1, t2, t3, -⟩ := hL _ ht
  obtain ⟨q1, q2, -⟩ := hC.2.2.2 x hx
  obtain ⟨a1, a2, -⟩ := tn_lp hC hx hb
  have sp := (K_sp (G := G) (Ls := Ls) (ns := ns) (P1 := P1) (P2 := P2) (s := s) (m := m) (x := x)).2 (Ls (s + 2 ^ x) g)
  constructor
  · intro h
    rw [bt_0, sp]
    exact dcb_f.mpr (fun h9 => h.elim h9.2.1 h9.2.2.1)
  · intro h
    have hn : ¬ (rel (tb (s + 2 ^ x)) g (P1 x) ∨ rel (tb (s + 2 ^ x)) g (P2 x)) := fun h9 => h (h9.imp (fun e => (t3 _ _ hg q1).mpr e) (fun e => (t3 _ _ hg q2).mpr e))
    have key : ∀ g', G g' → Ls (s + 2 ^ x) g' = Ls (s + 2 ^ x) g → Ls s g' = Ls s g := fun g' hg' e => ((l3 _ _ hg hg').mpr ((a2 g g' hn).mpr ((t3 _ _ hg hg').mp e.symm))).symm
    rcases bt_01 m (Ls s g) with e | e
    · rw [e, bt_0, sp]
      refine dcb_f.mpr (fun h9 => ?_)
      obtain ⟨-, -, -, g', g1, g2, g3⟩ := h9
      rw [key g' g1 g2, e] at g3
      omega
    · rw [e]
      have : tb (K9 G Ls ns P1 P2 s m x) (Ls (s + 2 ^ x) g) = true := by
        rw [sp]
        exact dcb_t.mpr ⟨t1 g hg, fun e9 => h (Or.inl e9), fun e9 => h (Or.inr e9), g, hg, rfl, e⟩
      rw [tb_b] at this
      exact of_decide_eq_true this
theorem K_0 (hL : LT9 c G rel Ls ns) : btN (K9 G Ls ns P1 P2 s m x) (Ls (s + 2 ^ x) (P1 x)) = 0 ∧ btN (K9 G Ls ns P1 P2 s m x) (Ls (s + 2 ^ x) (P2 x)) = 0 := by
  have sp := (K_sp (G := G) (Ls := Ls) (ns := ns) (P1 := P1) (P2 := P2) (s := s) (m := m) (x := x)).2
  exact ⟨by rw [bt_0, sp]; exact dcb_f.mpr (fun h9 => h9.2.1 rfl), by rw [bt_0, sp]; exact dcb_f.mpr (fun h9 => h9.2.2.1 rfl)⟩
theorem di_lt (hC : cu9 c V G P1 P2 P2 rel) (hL : LT9 c G rel Ls ns) (hs : s < 2 ^ c) (hx : x < c) (hb : btN s x = 0) {m' : Nat} (h : m' ∈ di9 G Ls ns P1 P2 s m x) : m' < 2 ^ ns (s + 2 ^ x) := by
  have ht := s2_lt hs hx hb
  obtain ⟨t1, -⟩ := hL _ ht
  obtain ⟨q1, q2, -⟩ := hC.2.2.2 x hx
  have sp := (K_sp (G := G) (Ls := Ls) (ns := ns) (P1 := P1) (P2 := P2) (s := s) (m := m) (x := x)).1
  obtain ⟨k1, k2⟩ := K_0 (m := m) (s := s) (x := x) (P1 := P1) (P2 := P2) hL
  have b1 := add_lt sp (t1 _ q1) k1
  have b2 := add_lt sp (t1 _ q2) k2
  unfold di9 at h
  split at h
  · split at h
    · rw [List.mem_singleton.mp h]
      exact sp
    · rcases List.mem_cons.mp h with e | e
      · rw [e]
        exact b2
      · rw [List.mem_singleton.mp e]
        exact b1
  · split at h
    · exact absurd h List.not_mem_nil
    · split at h
      · rw [List.mem_singleton.mp h]
        exact sp
      · rw [List.mem_singleton.mp h]
        exact b1
/-- D at one crossing -/
theorem Dx_ge (hC : cu9 c V G P1 P2 P2 rel) (hL : LT9 c G rel Ls ns) (hs : s < 2 ^ c) (hx : x < c) (hb : btN s x = 0) : Dx9 P1 P2 P2 rel x (ge9 G Ls s m) = (di9 G Ls ns P1 P2 s m x).map (fun m' => ((1 : Int), ge9 G Ls (s + 2 ^ x) m')) := by
  have ht := s2_lt hs hx hb
  obtain ⟨l1, l2, l3, -⟩ := hL s hs
  obtain ⟨t1, t2, t3, -⟩ := hL _ ht
  obtain ⟨q1, q2, -⟩ := hC.2.2.2 x hx
  obtain ⟨a1, a2, a3, a4⟩ := tn_lp hC hx hb
  obtain ⟨k1, k2⟩ := K_0 (m := m) (s := s) (x := x) (P1 := P1) (P2 := P2) hL
  have sp := (K_sp (G := G) (Ls := Ls) (ns := ns) (P1 := P1) (P2 := P2) (s := s) (m := m) (x := x)).1
  have mk : ∀ g, G g → (ge9 G Ls s m).2 g = decide (btN m (Ls s g) = 0) := fun g hg => by
    show (dcb (G g) && _) = _
    rw [dcb_t.mpr hg, Bool.true_and]
  have mt' : ∀ m' g, G g → (ge9 G Ls (s + 2 ^ x) m').2 g = decide (btN m' (Ls (s + 2 ^ x) g) = 0) := fun m' g hg => by
    show (dcb (G g) && _) = _
    rw [dcb_t.mpr hg, Bool.true_and]
  have out : ∀ g, ¬ G g → (ge9 G Ls s m).2 g = false ∧ (∀ m', (ge9 G Ls (s + 2 ^ x) m').2 g = false) ∧ dcb (rel (tb (s + 2 ^ x)) g (P1 x)) = false ∧ dcb (rel (tb (s + 2 ^ x)) g (P2 x)) = false := fun g hg => by
    have hz := fun y hy => tb_hi (y := y) ht hy
    refine ⟨by show (dcb (G g) && _) = _; rw [dcb_f.mpr hg]; rfl, fun m' => by show (dcb (G g) && _) = _; rw [dcb_f.mpr hg]; rfl, dcb_f.mpr (fun h9 => ?_), dcb_f.mpr (fun h9 => ?_)⟩
    · by_cases e : g = P1 x
      · exact hg (by rw [e]; exact q1)
      · exact hg (hC.2.1 _ hz g _ h9 e).1
    · by_cases e : g = P2 x
      · exact hg (by rw [e]; exact q2)
      · exact hg (hC.2.1 _ hz g _ h9 e).1
  have r1 : ∀ g, G g → dcb (rel (tb (s + 2 ^ x)) g (P1 x)) = decide (Ls (s + 2 ^ x) g = Ls (s + 2 ^ x) (P1 x)) := fun g hg => by
    by_cases e : Ls (s + 2 ^ x) g = Ls (s + 2 ^ x) (P1 x)
    · rw [decide_eq_true e]
      exact dcb_t.mpr ((t3 _ _ hg q1).mp e)
    · rw [decide_eq_false e]
      exact dcb_f.mpr (fun h9 => e ((t3 _ _ hg q1).mpr h9))
  have r2 : ∀ g, G g → dcb (rel (tb (s + 2 ^ x)) g (P2 x)) = decide (Ls (s + 2 ^ x) g = Ls (s + 2 ^ x) (P2 x)) := fun g hg => by
    by_cases e : Ls (s + 2 ^ x) g = Ls (s + 2 ^ x) (P2 x)
    · rw [decide_eq_true e]
      exact dcb_t.mpr ((t3 _ _ hg q2).mp e)
    · rw [decide_eq_false e]
      exact dcb_f.mpr (fun h9 => e ((t3 _ _ hg q2).mpr h9))
  -- a gap at the crossing lies in one of its loops, before and behind
  have at' : ∀ g, G g → ((Ls (s + 2 ^ x) g = Ls (s + 2 ^ x) (P1 x) ∨ Ls (s + 2 ^ x) g = Ls (s + 2 ^ x) (P2 x)) ↔ (Ls s g = Ls s (P1 x) ∨ Ls s g = Ls s (P2 x))) := fun g hg => by
    rw [l3 _ _ hg q1, l3 _ _ hg q2, t3 _ _ hg q1, t3 _ _ hg q2]
    exact (a1 g).symm
  have kb := fun g hg => K_bt (m := m) hC hL hs hx hb (g := g) hg
  have bit : ∀ l, l < ns (s + 2 ^ x) → btN (K9 G Ls ns P1 P2 s m x) l = 0 → ∀ j, btN (K9 G Ls ns P1 P2 s m x + 2 ^ l) j = if j = l then 1 else btN (K9 G Ls ns P1 P2 s m x) j := fun l _ h0 j => bt_flip h0 j
  have fst : on9 (ge9 G Ls s m).1 x = tb (s + 2 ^ x) := on_tb hb
  have es : rel (ge9 G Ls s m).1 (P1 x) (P2 x) ↔ Ls s (P1 x) = Ls s (P2 x) := (l3 _ _ q1 q2).symm
  unfold Dx9 di9
  rw [fst]
  by_cases c1 : Ls s (P1 x) = Ls s (P2 x)
  · rw [if_pos (dcb_t.mpr (es.mpr c1)), if_pos c1, mk _ q1]
    have ne : Ls (s + 2 ^ x) (P1 x) ≠ Ls (s + 2 ^ x) (P2 x) := fun h9 => a4 (es.mpr c1) ((t3 _ _ q1 q2).mp h9)
    by_cases c2 : btN m (Ls s (P1 x)) = 0
    · rw [if_pos (decide_eq_true c2), if_pos c2]
      refine congrArg (fun q => [((1 : Int), q)]) (Prod.ext rfl (funext (fun g => ?_)))
      show (ge9 G Ls s m).2 g = (ge9 G Ls (s + 2 ^ x) (K9 G Ls ns P1 P2 s m x)).2 g
      by_cases hg : G g
      · rw [mk g hg, mt' _ g hg]
        by_cases c3 : Ls (s + 2 ^ x) g = Ls (s + 2 ^ x) (P1 x) ∨ Ls (s + 2 ^ x) g = Ls (s + 2 ^ x) (P2 x)
        · rw [(kb g hg).1 c3]
          have : Ls s g = Ls s (P1 x) := ((at' g hg).mp c3).elim id (fun e => e.trans c1.symm)
          rw [this, c2]
        · rw [(kb g hg).2 c3]
      · rw [(out g hg).1, (out g hg).2.1]
    · rw [if_neg (fun h9 => c2 (of_decide_eq_true h9)), if_neg c2]
      have tw : ∀ (a b : Nat) (Pa : Nat), a ≠ b → btN (K9 G Ls ns P1 P2 s m x) b = 0 → b < ns (s + 2 ^ x) → ((a = Ls (s + 2 ^ x) (P1 x) ∧ b = Ls (s + 2 ^ x) (P2 x)) ∨ (a = Ls (s + 2 ^ x) (P2 x) ∧ b = Ls (s + 2 ^ x) (P1 x))) → (∀ g, G g → dcb (rel (tb (s + 2 ^ x)) g Pa) = decide (Ls (s + 2 ^ x) g = a)) → (∀ g, ¬ G g → dcb (rel (tb (s + 2 ^ x)) g Pa) = false) → (fun g => (ge9 G Ls s m).2 g || dcb (rel (tb (s + 2 ^ x)) g Pa)) = (ge9 G Ls (s + 2 ^ x) (K9 G Ls ns P1 P2 s m x + 2 ^ b)).2 := fun a b Pa hab hb0 hbl hw hP hO => funext (fun g => by
        by_cases hg : G g
        · rw [mk g hg, mt' _ g hg, hP g hg, bit b hbl hb0]
          by_cases c3 : Ls (s + 2 ^ x) g = Ls (s + 2 ^ x) (P1 x) ∨ Ls (s + 2 ^ x) g = Ls (s + 2 ^ x) (P2 x)
          · have q : Ls s g = Ls s (P1 x) := ((at' g hg).mp c3).elim id (fun e => e.trans c1.symm)
            rw [q, decide_eq_false c2, Bool.false_or]
            have c4 : Ls (s + 2 ^ x) g = a ∨ Ls (s + 2 ^ x) g = b := by
              rcases hw with ⟨w1, w2⟩ | ⟨w1, w2⟩
              · rw [w1, w2]
                exact c3
              · rw [w1, w2]
                exact c3.symm
            rcases c4 with e | e
            · rw [if_neg (by rw [e]; exact hab), (kb g hg).1 c3, decide_eq_true e]
              rfl
            · rw [if_pos e, e, decide_eq_false (fun h9 => hab h9.symm)]
              rfl
          · have n1 : Ls (s + 2 ^ x) g ≠ a := fun h9 => c3 (hw.elim (fun w => Or.inl (h9.trans w.1)) (fun w => Or.inr (h9.trans w.1)))
            have n2 : Ls (s + 2 ^ x) g ≠ b := fun h9 => c3 (hw.elim (fun w => Or.inr (h9.trans w.2)) (fun w => Or.inl (h9.trans w.2)))
            rw [if_neg n2, (kb g hg).2 c3, decide_eq_false n1, Bool.or_false]
        · rw [(out g hg).1, (out g hg).2.1, hO g hg]
          rfl)
      have e1 := tw _ _ (P1 x) ne k2 (t1 _ q2) (Or.inl ⟨rfl, rfl⟩) r1 (fun g hg => (out g hg).2.2.1)
      have e2 := tw _ _ (P2 x) ne.symm k1 (t1 _ q1) (Or.inr ⟨rfl, rfl⟩) r2 (fun g hg => (out g hg).2.2.2)
      show [((1 : Int), ((tb (s + 2 ^ x), fun g => (ge9 G Ls s m).2 g || dcb (rel (tb (s + 2 ^ x)) g (P1 x))) : gn9)), ((1 : Int), ((tb (s + 2 ^ x), fun g => (ge9 G Ls s m).2 g || dcb (rel (tb (s + 2 ^ x)) g (P2 x))) : gn9))] = _
      rw [e1, e2]
      rfl
  · rw [if_neg (fun h9 => c1 (es.mp (dcb_t.mp h9))), if_neg c1, mk _ q1, mk _ q2]
    have eq : Ls (s + 2 ^ x) (P1 x) = Ls (s + 2 ^ x) (P2 x) := (t3 _ _ q1 q2).mpr (a3 (fun h9 => c1 (es.mp h9)))
    by_cases c2 : btN m (Ls s (P1 x)) = 0 ∧ btN m (Ls s (P2 x)) = 0
    · rw [if_pos ⟨decide_eq_true c2.1, decide_eq_true c2.2⟩, if_pos c2]
      rfl
    · rw [if_neg (fun h9 => c2 ⟨of_decide_eq_true h9.1, of_decide_eq_true h9.2⟩), if_neg c2]
      by_cases c4 : btN m (Ls s (P1 x)) = 0 ∨ btN m (Ls s (P2 x)) = 0
      · rw [if_pos c4]
        have o : (decide (btN m (Ls s (P1 x)) = 0) || decide (btN m (Ls s (P2 x)) = 0)) = true := by
          rw [Bool.or_eq_true, decide_eq_true_iff, decide_eq_true_iff]
          exact c4
        refine congrArg (fun q => [((1 : Int), q)]) (Prod.ext rfl (funext (fun g => ?_)))
        show ((ge9 G Ls s m).2 g || ((decide (btN m (Ls s (P1 x)) = 0) || decide (btN m (Ls s (P2 x)) = 0)) && dcb (rel (tb (s + 2 ^ x)) g (P1 x)))) = (ge9 G Ls (s + 2 ^ x) (K9 G Ls ns P1 P2 s m x)).2 g
        rw [o, Bool.true_and]
        by_cases hg : G g
        · rw [mk g hg, mt' _ g hg, r1 g hg]
          by_cases c3 : Ls (s + 2 ^ x) g = Ls (s + 2 ^ x) (P1 x)
          · rw [(kb g hg).1 (Or.inl c3), decide_eq_true c3, Bool.or_true]
            rfl
          · rw [(kb g hg).2 (fun h9 => c3 (h9.elim id (fun e => e.trans eq.symm))), decide_eq_false c3, Bool.or_false]
        · rw [(out g hg).1, (out g hg).2.1, (out g hg).2.2.1]
          rfl
      · rw [if_neg c4]
        have o : (decide (btN m (Ls s (P1 x)) = 0) || decide (btN m (Ls s (P2 x)) = 0)) = false := by
          rw [Bool.or_eq_false_iff, decide_eq_false_iff_not, decide_eq_false_iff_not]
          exact ⟨fun h9 => c4 (Or.inl h9), fun h9 => c4 (Or.inr h9)⟩
        refine congrArg (fun q => [((1 : Int), q)]) (Prod.ext rfl (funext (fun g => ?_)))
        show ((ge9 G Ls s m).2 g || ((decide (btN m (Ls s (P1 x)) = 0) || decide (btN m (Ls s (P2 x)) = 0)) && dcb (rel (tb (s + 2 ^ x)) g (P1 x)))) = (ge9 G Ls (s + 2 ^ x) (K9 G Ls ns P1 P2 s m x + 2 ^ Ls (s + 2 ^ x) (P1 x))).2 g
        rw [o, Bool.false_and, Bool.or_false]
        by_cases hg : G g
        · rw [mk g hg, mt' _ g hg, bit _ (t1 _ q1) k1]
          by_cases c3 : Ls (s + 2 ^ x) g = Ls (s + 2 ^ x) (P1 x)
          · rw [if_pos c3]
            rcases (at' g hg).mp (Or.inl c3) with e | e
            · rw [e, decide_eq_false (fun h9 => c4 (Or.inl h9))]
              rfl
            · rw [e, decide_eq_false (fun h9 => c4 (Or.inr h9))]
              rfl
          · rw [if_neg c3, (kb g hg).2 (fun h9 => c3 (h9.elim id (fun e => e.trans eq.symm)))]
        · rw [(out g hg).1, (out g hg).2.1]
end XCI7
end
