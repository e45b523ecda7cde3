/-! bits and ones -/
theorem pcF_add : ∀ (x n k : Nat), x < n → k / 2 ^ x % 2 = 0 → pcF n (k + 2 ^ x) = pcF n k + 1
  | 0, n + 1, k, _, h => by
    rw [Nat.pow_zero, Nat.div_one] at h
    show (k + 2 ^ 0) % 2 + pcF n ((k + 2 ^ 0) / 2) = k % 2 + pcF n (k / 2) + 1
    rw [Nat.pow_zero, show (k + 1) / 2 = k / 2 by omega]
    omega
  | x + 1, n + 1, k, h1, h => by
    have e : k / 2 / 2 ^ x % 2 = 0 := by
      rw [Nat.div_div_eq_div_mul, ← Nat.pow_succ']
      exact h
    have ih := pcF_add x n (k / 2) (by omega) e
    show (k + 2 ^ (x + 1)) % 2 + pcF n ((k + 2 ^ (x + 1)) / 2) = k % 2 + pcF n (k / 2) + 1
    rw [Nat.pow_succ, show (k + 2 ^ x * 2) / 2 = k / 2 + 2 ^ x by omega, ih]
    omega
theorem pc_add {x k : Nat} (hx : x < 32) (h : btN k x = 0) : pc (k + 2 ^ x) = pc k + 1 := pcF_add x 32 k hx h
def sbt (m : Nat) : Nat → Nat
  | 0 => 0
  | n + 1 => sbt m n + btN m n
theorem sbt_s (m : Nat) : ∀ n, sbt m (n + 1) = m % 2 + sbt (m / 2) n
  | 0 => by
    show 0 + btN m 0 = m % 2 + 0
    unfold btN
    rw [Nat.pow_zero, Nat.div_one]
    omega
  | n + 1 => by
    show sbt m (n + 1) + btN m (n + 1) = m % 2 + (sbt (m / 2) n + btN (m / 2) n)
    rw [sbt_s m n]
    unfold btN
    have e : m / 2 / 2 ^ n = m / 2 ^ (n + 1) := by
      rw [Nat.div_div_eq_div_mul, ← Nat.pow_succ']
    rw [e]
    omega
theorem pcF_sbt : ∀ (n N m : Nat), n ≤ N → m < 2 ^ n → pcF N m = sbt m n
  | 0, N, m, _, h => by
    have : m = 0 := by simpa using h
    subst this
    have := pcF_le N 0 0 (by decide)
    show pcF N 0 = 0
    omega
  | n + 1, 0, m, h, _ => absurd h (by omega)
  | n + 1, N + 1, m, h, hm => by
    rw [sbt_s]
    show m % 2 + pcF N (m / 2) = _
    rw [pcF_sbt n N (m / 2) (by omega) (by rw [Nat.pow_succ] at hm; omega)]
theorem pc_sbt {n m : Nat} (hn : n ≤ 32) (h : m < 2 ^ n) : pc m = sbt m n := pcF_sbt n 32 m hn h
theorem sbt_sum (m : Nat) : ∀ n, sbt m n = ((List.range n).map (btN m)).sum
  | 0 => rfl
  | n + 1 => by
    show sbt m n + btN m n = _
    rw [sbt_sum m n, List.range_succ, List.map_append, List.sum_append]
    simp
theorem bt_lt {k x l : Nat} (hk : k < 2 ^ l) (hx : l ≤ x) : btN k x = 0 := by
  unfold btN
  rw [Nat.div_eq_of_lt (Nat.lt_of_lt_of_le hk (two_mono hx))]
theorem bt_add {k l x : Nat} (hk : k < 2 ^ l) : btN (k + 2 ^ l) x = if x = l then 1 else btN k x := by
  unfold btN
  by_cases e : x = l
  · subst e
    rw [if_pos rfl, Nat.add_div_right _ (Nat.two_pow_pos x), Nat.div_eq_of_lt hk]
  · rw [if_neg e]
    rcases Nat.lt_or_ge x l with h | h
    · have e2 : 2 ^ l = 2 ^ x * (2 * 2 ^ (l - x - 1)) := by
        rw [← Nat.pow_succ', ← Nat.pow_add]
        congr 1
        omega
      rw [e2, Nat.add_mul_div_left _ _ (Nat.two_pow_pos x), Nat.add_mul_mod_self_left]
    · have h1 : k + 2 ^ l < 2 ^ x := by
        have : 2 ^ (l + 1) ≤ 2 ^ x := two_mono (by omega)
        rw [Nat.pow_succ] at this
        omega
      rw [Nat.div_eq_of_lt h1, Nat.div_eq_of_lt (Nat.lt_of_lt_of_le hk (two_mono h))]
theorem add_lt {k x n : Nat} (hk : k < 2 ^ n) (hx : x < n) (hb : btN k x = 0) : k + 2 ^ x < 2 ^ n := st_lt hk hx hb
/-! two states that differ at a crossing: labels -/
section LAB
variable {S : ow_NP} {c x : Nat} {R R' L L' : Nat → Nat}
def labR (c : Nat) (R L : Nat → Nat) : Prop := ∀ g g', g < 2 * c → g' < 2 * c → (L g = L g' ↔ rt R g = rt R g')
def atL (S : ow_NP) (x : Nat) (L : Nat → Nat) (g : Nat) : Prop := L g = L (2 * x) ∨ L g = L (S.2 (2 * x))
theorem lab_x1 (h1 : 2 * x < 2 * c) (h2 : S.2 (2 * x) < 2 * c) (hL : labR c R L) (hL' : labR c R' L') (h : mgX S c x R R') : (∀ g, g < 2 * c → (atL S x L g ↔ atL S x L' g)) ∧ ∀ g g', g < 2 * c → g' < 2 * c → ¬ atL S x L g → (L g = L g' ↔ L' g = L' g') := by
  obtain ⟨-, m2, -⟩ := h
  have k1 : ∀ g, g < 2 * c → (atL S x L g ↔ (rt R g = rt R (2 * x) ∨ rt R g = rt R (S.2 (2 * x)))) := fun g hg => by
    unfold atL
    rw [hL g _ hg h1, hL g _ hg h2]
  constructor
  · intro g hg
    rw [k1 g hg]
    unfold atL
    rw [hL' g _ hg h1, hL' g _ hg h2, m2 g _ hg h1, m2 g _ hg h2]
    constructor
    · rintro (h9 | h9)
      · exact Or.inl (Or.inl h9)
      · exact Or.inr (Or.inl h9)
    · rintro ((h9 | h9) | (h9 | h9))
      · exact Or.inl h9
      · exact h9.1
      · exact Or.inr h9
      · exact h9.1
  · intro g g' hg hg' hn
    rw [k1 g hg] at hn
    rw [hL g g' hg hg', hL' g g' hg hg', m2 g g' hg hg']
    exact ⟨Or.inl, fun h9 => h9.elim id (fun h8 => absurd h8.1 hn)⟩
theorem lab_x2 (h1 : 2 * x < 2 * c) (h2 : S.2 (2 * x) < 2 * c) (hL : labR c R L) (hL' : labR c R' L') (h : mgX S c x R R' ∨ mgX S c x R' R) : (∀ g, g < 2 * c → (atL S x L g ↔ atL S x L' g)) ∧ ∀ g g', g < 2 * c → g' < 2 * c → ¬ atL S x L g → (L g = L g' ↔ L' g = L' g') := by
  rcases h with h | h
  · exact lab_x1 h1 h2 hL hL' h
  · obtain ⟨a1, a2⟩ := lab_x1 h1 h2 hL' hL h
    refine ⟨fun g hg => (a1 g hg).symm, fun g g' hg hg' hn => ?_⟩
    exact (a2 g g' hg hg' (fun h9 => hn ((a1 g hg).mp h9))).symm
/-- the loops that are not at x, with their bits -/
theorem crr_sum {n n' : Nat} {ga : Nat → Nat} (m : Nat) (h1 : 2 * x < 2 * c) (h2 : S.2 (2 * x) < 2 * c) (hl : ∀ g, g < 2 * c → L g < n) (hl' : ∀ g, g < 2 * c → L' g < n') (hs : ∀ l, l < n → ∃ g, g < 2 * c ∧ L g = l) (hg : ∀ l, l < n' → ga l < 2 * c ∧ L' (ga l) = l) (hx : (∀ g, g < 2 * c → (atL S x L g ↔ atL S x L' g)) ∧ ∀ g g', g < 2 * c → g' < 2 * c → ¬ atL S x L g → (L g = L g' ↔ L' g = L' g')) : (((List.range n').filter (fun l => decide (l ≠ L' (2 * x) ∧ l ≠ L' (S.2 (2 * x))))).map (fun l => btN m (L (ga l)))).sum + btN m (L (2 * x)) + (if L (2 * x) = L (S.2 (2 * x)) then 0 else btN m (L (S.2 (2 * x)))) = sbt m n := by
  obtain ⟨x1, x2⟩ := hx
  have nat : ∀ l, l < n' → (l ≠ L' (2 * x) ∧ l ≠ L' (S.2 (2 * x)) ↔ ¬ atL S x L (ga l)) := fun l hl9 => by
    rw [x1 _ (hg l hl9).1]
    unfold atL
    rw [(hg l hl9).2]
    grind
  have e1 : (((List.range n').filter (fun l => decide (l ≠ L' (2 * x) ∧ l ≠ L' (S.2 (2 * x))))).map (fun l => btN m (L (ga l)))).sum = (((((List.range n').filter (fun l => decide (l ≠ L' (2 * x) ∧ l ≠ L' (S.2 (2 * x))))).map (fun l => L (ga l)))).map (btN m)).sum := by
    rw [List.map_map]
    rfl
  have e2 := sum_nd (g := btN m) (l1 := ((List.range n').filter (fun l => decide (l ≠ L' (2 * x) ∧ l ≠ L' (S.2 (2 * x))))).map (fun l => L (ga l))) (l2 := ((List.range n).erase (L (2 * x))).erase (L (S.2 (2 * x)))) ?_ ((List.nodup_range.erase _).erase _) (fun l => ?_)
  · have m1 : L (2 * x) ∈ List.range n := List.mem_range.mpr (hl _ h1)
    have s1 := sum_er (g := btN m) m1
    rw [e1, e2, sbt_sum, s1]
    by_cases c1 : L (2 * x) = L (S.2 (2 * x))
    · rw [if_pos c1, ← c1, List.erase_of_not_mem (fun h9 => by
        rw [List.nodup_range.mem_erase_iff] at h9
        exact h9.1 rfl)]
      omega
    · have m2 : L (S.2 (2 * x)) ∈ (List.range n).erase (L (2 * x)) := by
        rw [List.nodup_range.mem_erase_iff]
        exact ⟨fun h9 => c1 h9.symm, List.mem_range.mpr (hl _ h2)⟩
      have s2 := sum_er (g := btN m) m2
      rw [if_neg c1, s2]
      omega
  · refine nodup_map (List.nodup_range.filter _) (fun a b ha hb e => ?_)
    obtain ⟨a1, a2⟩ := List.mem_filter.mp ha
    obtain ⟨b1, b2⟩ := List.mem_filter.mp hb
    have a1 := List.mem_range.mp a1
    have b1 := List.mem_range.mp b1
    have a3 := (nat a a1).mp (of_decide_eq_true a2)
    have := (x2 _ _ (hg a a1).1 (hg b b1).1 a3).mp e
    rw [(hg a a1).2, (hg b b1).2] at this
    exact this
  · rw [(List.nodup_range.erase _).mem_erase_iff, List.nodup_range.mem_erase_iff, List.mem_range]
    constructor
    · intro h9
      obtain ⟨k, k1, rfl⟩ := List.mem_map.mp h9
      obtain ⟨k1, k2⟩ := List.mem_filter.mp k1
      have k1 := List.mem_range.mp k1
      have k3 := (nat k k1).mp (of_decide_eq_true k2)
      unfold atL at k3
      exact ⟨fun e => k3 (Or.inr e), fun e => k3 (Or.inl e), hl _ (hg k k1).1⟩
    · rintro ⟨h9, h8, h7⟩
      obtain ⟨g, g1, g2⟩ := hs l h7
      have hna : ¬ atL S x L g := by
        unfold atL
        rw [g2]
        rintro (e | e)
        · exact h8 e
        · exact h9 e
      have hl9 := hl' g g1
      obtain ⟨q1, q2⟩ := hg _ hl9
      have eL : L (ga (L' g)) = l := by
        rw [← g2]
        exact ((x2 g _ g1 q1 hna).mpr q2.symm).symm
      refine List.mem_map.mpr ⟨L' g, List.mem_filter.mpr ⟨List.mem_range.mpr hl9, decide_eq_true ((nat _ hl9).mpr ?_)⟩, eL⟩
      unfold atL
      rw [eL]
      rintro (e | e)
      · exact h8 e
      · exact h9 e
end LAB
