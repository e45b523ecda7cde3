/-! both sides count the same states -/
theorem onC_pcF {b : Nat → Bool} {s : Nat} : ∀ n m, pcF (n + m) s = onC (bxS b 0 s) n + pcF m (s / 2 ^ n)
  | 0, m => by
    rw [Nat.zero_add, Nat.pow_zero, Nat.div_one]
    exact (Nat.zero_add _).symm
  | n + 1, m => by
    rw [show n + 1 + m = n + (m + 1) by omega, onC_pcF n (m + 1)]
    show onC (bxS b 0 s) n + (s / 2 ^ n % 2 + pcF m (s / 2 ^ n / 2)) = onC (bxS b 0 s) n + (if bxS b 0 s n = true then 1 else 0) + pcF m (s / 2 ^ (n + 1))
    have e2 : s / 2 ^ n / 2 = s / 2 ^ (n + 1) := by rw [Nat.div_div_eq_div_mul, Nat.pow_succ]
    rw [e2]
    have e : s / 2 ^ n % 2 = if bxS b 0 s n = true then 1 else 0 := by
      unfold bxS
      rw [if_neg (Nat.not_lt_zero _), Nat.sub_zero]
      by_cases h : s / 2 ^ n % 2 = 1
      · rw [if_pos (decide_eq_true h), h]
      · rw [if_neg (fun h9 => h (of_decide_eq_true h9))]
        omega
    rw [e]
    omega
theorem pcF_0 : ∀ m, pcF m 0 = 0
  | 0 => rfl
  | m + 1 => by
    show 0 % 2 + pcF m (0 / 2) = 0
    rw [Nat.zero_div, pcF_0 m]
theorem onC_pc {b : Nat → Bool} {s c : Nat} (hs : s < 2 ^ c) (hc : c ≤ 32) : onC (bxS b 0 s) c = pc s := by
  have h := onC_pcF (b := b) (s := s) c (32 - c)
  rw [show c + (32 - c) = 32 by omega, Nat.div_eq_of_lt hs, pcF_0, Nat.add_zero] at h
  exact h.symm
theorem tb_jI {A : rn_L} {sg : Nat → Bool} {c s : Nat} {S : ow_NP} {G : Nat → Int32} {b : Nat → Bool} (hj : jnN A sg c S G) (hs : s < 2 ^ c) : ∃ L, L < 24 ∧ pc s ≤ c ∧ tbF S G (cirs A) c (bxS b 0 s) = 24 * pc s + L ∧ jI A sg c s = 24 * (c - pc s) + L := by
  obtain ⟨h1, h2, h3, h4⟩ := hj
  have hc : c ≤ 12 := h1.2.2.2.1
  have h2c : 2 ^ c ≤ 4096 := two_mono (b := 12) hc
  have hal : ∀ v, v < A.flatten.length → uns A v = 0 → alS sg (nI s) (crs A v) = alB G (bxS b 0 s) (crs A v) := by
    intro v hv hu
    have hx : crs A v < c := ((h1.1.2 _).mp (vAt_mem hv)).1
    unfold alS alB sgP bxS
    rw [gbit (show s < 2 ^ 24 by omega) (by omega), if_neg (Nat.not_lt_zero _), Nat.sub_zero, h4 _ hx]
    rcases (show s / 2 ^ crs A v % 2 = 0 ∨ s / 2 ^ crs A v % 2 = 1 by omega) with e | e <;> rw [e] <;> cases sg (crs A v) <;> decide
  have hl := loops_eq (st := nI s) (b := bxS b 0 s) h2 h3 hal
  have hle := loops_le (sg := sg) (st := nI s) h1.1 (by omega)
  have hne := neC_eC A
  have h6 := h1.2.2.2.2
  have hce := cirs_eC A
  refine ⟨cirs A + rtsN (lpA A sg (nI s) A.flatten.length) A.flatten.length, by omega, pc_le hs, ?_, ?_⟩
  · unfold tbF
    rw [onC_pc hs (by omega), hl]
  · unfold jI
    omega
theorem ct_map {f g : Nat → Nat} {a b : Nat} : ∀ L : List Nat, (∀ s, s ∈ L → (f s = a ↔ g s = b)) → (L.map f).count a = (L.map g).count b
  | [], _ => rfl
  | s :: L, h => by
    have ih := ct_map L (fun t ht => h t (List.mem_cons_of_mem _ ht))
    have hs := h s List.mem_cons_self
    rw [List.map_cons, List.map_cons, List.count_cons, List.count_cons, ih]
    by_cases e : f s = a
    · rw [if_pos (by simpa using e), if_pos (by simpa using hs.mp e)]
    · rw [if_neg (by simpa using e), if_neg (by simpa using fun h9 => e (hs.mpr h9))]
/-- the class's row of states with o ones is the reference's row with c - o noughts -/
theorem tb_jN {A : rn_L} {sg : Nat → Bool} {c o l : Nat} {S : ow_NP} {G : Nat → Int32} (hj : jnN A sg c S G) (ho : o ≤ c) (hl : l < 24) : jN A sg c (2 ^ c) (24 * (c - o) + l) = Int64.ofNat ((tbL S G (cirs A) c 0 (fun _ => false)).count (24 * o + l)) := by
  unfold jN
  congr 1
  rw [(tbL_pm (S := S) (G := G) (ci := cirs A) c 0 (fun _ => false)).count_eq]
  refine (ct_map (List.range (2 ^ c)) (fun s hs => ?_)).symm
  obtain ⟨L, h1, h2, h3, h4⟩ := tb_jI (b := fun _ => false) hj (List.mem_range.mp hs)
  rw [Nat.zero_add, h3, h4]
  omega
