/-! permutations: the reference's tables as numbers, checked -/
def gPX (m : Nat) : Nat := if m = 4 then 0xe4e1d8d2c9c6b4b19c938d8778726c634e4b39362d271e1b else if m = 3 then 0xe4e1d8d2c9c6 else if m = 2 then 0xe4e1 else 0xe4
def gDN9 (m : Nat) : Nat := if m = 4 then 0xbdab49ca307b9ac5a928398a418820bda53a5630635cf214430054b424c7bcab3a5927599487b62c83823208a0bcad49d527428cb18444015af645d0bd6549d840204a363a2f834c85a547bd6d3a4840194244192b3a9cc7c5b0bd92818a305a8a47bab4005ac9c8c7bd843426302154b63653399cfa5420b892345aa0785d459624828d3649a7b8ac81a6a0a382f99a4c3b4ab24550ba4481da47619b322a2b814347d5c0ba6c340a479b4cca06af039445c4b0bca2c209277b42359ab301548a59d0bc84464527185af42ad4838cb9d4a0b8a2464aa0594d3785233b5d445950b8a4c246a0998aba3ac88282f1a5a7bc44c24ad0439541b52f384b35d4c0bc64460ad0a29c8996ab019a37a427bd62f5a440638c8206543a8a39d9b0bd52b7c440419cc196d383424a4947ba62b7d6472283461848039b31d8b0ba6af5c647a05449b6c3814cc409c0bc52f5d6d01b4b34384c0195424827bc6ab7a6d0995a3a2a44385c8608c0 else if m = 3 then 0xa41882000000000000000000000000a40044300000000000000000000000a01844400000000000000000000000a02082300000000000000000000000a30082400000000000000000000000a320440 else if m = 2 then 0x20000000000000000000000000000020 else 0x0
def gBK9 (m : Nat) : Nat := if m = 4 then 0xbdab49ca307b9ac5a928398a418820bda53a5630635cf214430054b424c7bcab3a5927599487b62c83823208a0bd6549d840204a363a2f834c85a547bcad49d527428cb18444015af645d0bd6d3a4840194244192b3a9cc7c5b0bd92818a305a8a47bab4005ac9c8c7bd843426302154b63653399cfa5420bca2c209277b42359ab301548a59d0bd62f5a440638c8206543a8a39d9b0bc84464527185af42ad4838cb9d4a0bd52b7c440419cc196d383424a4947b892345aa0785d459624828d3649a7ba4481da47619b322a2b814347d5c0b8a2464aa0594d3785233b5d445950ba62b7d6472283461848039b31d8b0bc44c24ad0439541b52f384b35d4c0bc52f5d6d01b4b34384c0195424827b8ac81a6a0a382f99a4c3b4ab24550ba6c340a479b4cca06af039445c4b0b8a4c246a0998aba3ac88282f1a5a7ba6af5c647a05449b6c3814cc409c0bc64460ad0a29c8996ab019a37a427bc6ab7a6d0995a3a2a44385c8608c0 else if m = 3 then 0xa41882000000000000000000000000a40044300000000000000000000000a01844400000000000000000000000a30082400000000000000000000000a02082300000000000000000000000a320440 else if m = 2 then 0x20000000000000000000000000000020 else 0x0
def pmX (m p : Nat) : Nat := dgN (gPX m) 8 p
def imP (m p a : Nat) : Nat := pmX m p / 4 ^ a % 4
def dnM (m o x : Nat) : Nat := dgN (gDN9 m) 5 (24 * o + x)
def bkM (m o x : Nat) : Nat := dgN (gBK9 m) 5 (24 * o + x)
def acO (m o x w : Nat) : Nat → Bool
  | 0 => true
  | a + 1 => acO m o x w a && decide (imP m w (imP m o a) = imP m o (imP m x a))
def acT (m o x w : Nat) : Nat → Bool
  | 0 => true
  | a + 1 => acT m o x w a && decide (imP m o (imP m w a) = imP m x (imP m o a))
def pmW (m : Nat) : Nat → Nat → Nat → Bool
  | 0, _, _ => true
  | d + 1, c, k => if pmA m c = true then (decide (pmX m k = c) && pmW m d (c + 1) (k + 1)) else pmW m d (c + 1) k
theorem pmW_c : pmW 1 256 0 0 = true ∧ pmW 2 256 0 0 = true ∧ pmW 3 256 0 0 = true ∧ pmW 4 256 0 0 = true := by decide +kernel
theorem pmW_n {m : Nat} (h1 : 1 ≤ m) (h4 : m ≤ 4) : pmW m 256 0 0 = true := by
  obtain ⟨a, b, c, d⟩ := pmW_c
  have : m = 1 ∨ m = 2 ∨ m = 3 ∨ m = 4 := by omega
  rcases this with rfl | rfl | rfl | rfl
  · exact a
  · exact b
  · exact c
  · exact d
theorem pmW_at {m : Nat} : ∀ (d c : Nat), pmW m d c (pmC m c) = true → ∀ c', c ≤ c' → c' < c + d → pmA m c' = true → pmX m (pmC m c') = c'
  | 0, c, _, c', h1, h3, _ => by omega
  | d + 1, c, h, c', h1, h3, hA => by
    rw [pmW] at h
    have e : pmC m (c + 1) = pmC m c + (if pmA m c = true then 1 else 0) := rfl
    by_cases q : pmA m c = true
    · rw [if_pos q] at h
      rw [if_pos q] at e
      obtain ⟨a1, a2⟩ := (Bool.and_eq_true _ _).mp h
      by_cases k : c' = c
      · rw [k]
        exact of_decide_eq_true a1
      · exact pmW_at d (c + 1) (by rw [e]; exact a2) c' (by omega) (by omega) hA
    · rw [if_neg q] at h
      rw [if_neg q, Nat.add_zero] at e
      by_cases k : c' = c
      · rw [k] at hA
        exact absurd hA q
      · exact pmW_at d (c + 1) (by rw [e]; exact h) c' (by omega) (by omega) hA
theorem pmX_at {m c : Nat} (h1 : 1 ≤ m) (h4 : m ≤ 4) (hc : c < 256) (hA : pmA m c = true) : pmX m (pmC m c) = c := pmW_at 256 0 (pmW_n h1 h4) c (Nat.zero_le _) (by omega) hA
def gAC (m o x w : Nat) : Bool := (acO m o x w m == decide (w = dnM m o x)) && (acT m o x w m == decide (w = bkM m o x)) && decide (dnM m o x < thM m) && decide (bkM m o x < thM m)
theorem ac_1 : ∀ o : Fin 1, ∀ x : Fin 1, ∀ w : Fin 1, gAC 1 o.val x.val w.val = true := by decide +kernel
theorem ac_2 : ∀ o : Fin 2, ∀ x : Fin 2, ∀ w : Fin 2, gAC 2 o.val x.val w.val = true := by decide +kernel
theorem ac_3 : ∀ o : Fin 6, ∀ x : Fin 6, ∀ w : Fin 6, gAC 3 o.val x.val w.val = true := by decide +kernel
theorem ac_4 : ∀ o : Fin 24, ∀ x : Fin 24, ∀ w : Fin 24, gAC 4 o.val x.val w.val = true := by decide +kernel
theorem ac_n {m o x w : Nat} (h1 : 1 ≤ m) (h4 : m ≤ 4) (ho : o < thM m) (hx : x < thM m) (hw : w < thM m) : (acO m o x w m = true ↔ w = dnM m o x) ∧ (acT m o x w m = true ↔ w = bkM m o x) ∧ dnM m o x < thM m ∧ bkM m o x < thM m := by
  have k : gAC m o x w = true := by
    have : m = 1 ∨ m = 2 ∨ m = 3 ∨ m = 4 := by omega
    rcases this with rfl | rfl | rfl | rfl
    · exact ac_1 ⟨o, ho⟩ ⟨x, hx⟩ ⟨w, hw⟩
    · exact ac_2 ⟨o, ho⟩ ⟨x, hx⟩ ⟨w, hw⟩
    · exact ac_3 ⟨o, ho⟩ ⟨x, hx⟩ ⟨w, hw⟩
    · exact ac_4 ⟨o, ho⟩ ⟨x, hx⟩ ⟨w, hw⟩
  unfold gAC at k
  simp only [Bool.and_eq_true, beq_iff_eq, decide_eq_true_eq] at k
  obtain ⟨⟨⟨a1, a2⟩, a3⟩, a4⟩ := k
  exact ⟨by rw [a1, decide_eq_true_eq], by rw [a2, decide_eq_true_eq], a3, a4⟩
