/-! the states in the order of their numbers -/
def bxS (b : Nat → Bool) (x s k : Nat) : Bool := if k < x then b k else decide (s / 2 ^ (k - x) % 2 = 1)
def tbF (S : ow_NP) (G : Nat → Int32) (ci n : Nat) (b : Nat → Bool) : Nat := 24 * onC b n + (ci + rtsN (uPx S G b n) (2 * n))
theorem ev_od (F : Nat → Nat) : ∀ n, ((List.range (2 * n)).map F).Perm ((List.range n).map (fun s => F (2 * s)) ++ (List.range n).map (fun s => F (2 * s + 1)))
  | 0 => List.Perm.refl _
  | n + 1 => by
    have ih := ev_od F n
    refine List.perm_iff_count.mpr (fun a => ?_)
    have h := List.perm_iff_count.mp ih a
    rw [show 2 * (n + 1) = 2 * n + 1 + 1 by omega, List.range_succ, List.range_succ, List.range_succ (n := n)]
    simp only [List.map_append, List.count_append, List.map_cons, List.map_nil] at h ⊢
    omega
theorem tbF_c {S : ow_NP} {G : Nat → Int32} {ci n : Nat} {b b' : Nat → Bool} (h : ∀ k, k < n → b k = b' k) : tbF S G ci n b = tbF S G ci n b' := by
  obtain ⟨h1, h2⟩ := uPx_c (S := S) (G := G) n h
  unfold tbF
  rw [h1, h2]
theorem tbL_pm {S : ow_NP} {G : Nat → Int32} {ci : Nat} : ∀ (d x : Nat) (b : Nat → Bool), (tbL S G ci d x b).Perm ((List.range (2 ^ d)).map (fun s => tbF S G ci (x + d) (bxS b x s)))
  | 0, x, b => by
    have e : tbF S G ci x b = tbF S G ci (x + 0) (bxS b x 0) := tbF_c (n := x) (fun k hk => by unfold bxS; rw [if_pos hk])
    show [tbF S G ci x b].Perm [tbF S G ci (x + 0) (bxS b x 0)]
    rw [e]
  | d + 1, x, b => by
    have h0 := tbL_pm (S := S) (G := G) (ci := ci) d (x + 1) (seB b x false)
    have h1 := tbL_pm (S := S) (G := G) (ci := ci) d (x + 1) (seB b x true)
    have key : ∀ (v : Bool) (s : Nat), (fun s => tbF S G ci (x + 1 + d) (bxS (seB b x v) (x + 1) s)) s = tbF S G ci (x + (d + 1)) (bxS b x (2 * s + if v then 1 else 0)) := by
      intro v s
      show tbF S G ci (x + 1 + d) _ = _
      rw [show x + 1 + d = x + (d + 1) by omega]
      refine tbF_c (fun k hk => ?_)
      unfold bxS seB
      by_cases e1 : k < x
      · rw [if_pos (show k < x + 1 by omega), if_pos e1, if_neg (show ¬ k = x by omega)]
      · rw [if_neg e1]
        by_cases e2 : k = x
        · rw [if_pos (show k < x + 1 by omega), if_pos e2, e2, Nat.sub_self]
          cases v
          · show false = decide ((2 * s + 0) / 1 % 2 = 1)
            rw [decide_eq_false (by omega)]
          · show true = decide ((2 * s + 1) / 1 % 2 = 1)
            rw [decide_eq_true (by omega)]
        · rw [if_neg (show ¬ k < x + 1 by omega)]
          have e3 : k - x = k - (x + 1) + 1 := by omega
          rw [e3, Nat.pow_succ, Nat.mul_comm (2 ^ (k - (x + 1))) 2, ← Nat.div_div_eq_div_mul]
          have e4 : (2 * s + if v = true then 1 else 0) / 2 = s := by
            cases v
            · show (2 * s + 0) / 2 = s
              omega
            · show (2 * s + 1) / 2 = s
              omega
          rw [e4]
    have e0 : (List.range (2 ^ d)).map (fun s => tbF S G ci (x + 1 + d) (bxS (seB b x false) (x + 1) s)) = (List.range (2 ^ d)).map (fun s => tbF S G ci (x + (d + 1)) (bxS b x (2 * s))) := List.map_congr_left (fun s _ => key false s)
    have e1 : (List.range (2 ^ d)).map (fun s => tbF S G ci (x + 1 + d) (bxS (seB b x true) (x + 1) s)) = (List.range (2 ^ d)).map (fun s => tbF S G ci (x + (d + 1)) (bxS b x (2 * s + 1))) := List.map_congr_left (fun s _ => key true s)
    rw [e0] at h0
    rw [e1] at h1
    have hp : 2 ^ (d + 1) = 2 * 2 ^ d := by rw [Nat.pow_succ]; omega
    rw [hp]
    exact (List.Perm.append h0 h1).trans (ev_od (fun s => tbF S G ci (x + (d + 1)) (bxS b x s)) (2 ^ d)).symm
