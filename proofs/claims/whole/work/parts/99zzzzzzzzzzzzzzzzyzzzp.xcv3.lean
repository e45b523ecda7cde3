/-! cover: rows and columns exchanged -/
section XCV3
theorem zS_hd {f : Nat → Int} : ∀ {m : Nat}, zS9 f (m + 1) = f 0 + zS9 (fun i => f (i + 1)) m := by
  intro m
  induction m with
  | zero =>
    show (0 : Int) + f 0 = f 0 + 0
    omega
  | succ m ih =>
    show zS9 f (m + 1) + f (m + 1) = f 0 + (zS9 (fun i => f (i + 1)) m + f (m + 1))
    rw [ih]
    omega
theorem sk_0 (a : Nat) : skD9 0 a = a + 1 := if_neg (Nat.not_lt_zero _)
theorem sk_s (i a : Nat) : skD9 (i + 1) (a + 1) = skD9 i a + 1 := by
  unfold skD9
  by_cases h : a < i
  · rw [if_pos h, if_pos (by omega)]
  · rw [if_neg h, if_neg (by omega)]
/-- along the first row -/
theorem dt_R : ∀ (k : Nat) (m : Nat → Nat → Int), dtD9 (k + 1) m = zS9 (fun j => zn9 j * m 0 j * dtD9 k (fun a b => m (a + 1) (skD9 j b))) (k + 1) := by
  intro k
  induction k with
  | zero => exact fun m => rfl
  | succ k ih =>
    intro m
    show zS9 (fun i => zn9 i * m i 0 * dtD9 (k + 1) (fun a b => m (skD9 i a) (b + 1))) (k + 1 + 1) = _
    rw [zS_hd, zS_hd (f := fun j => zn9 j * m 0 j * dtD9 (k + 1) (fun a b => m (a + 1) (skD9 j b)))]
    have e0 : dtD9 (k + 1) (fun a b => m (skD9 0 a) (b + 1)) = dtD9 (k + 1) (fun a b => m (a + 1) (skD9 0 b)) := dt_cg _ (fun a b _ _ => by rw [sk_0, sk_0])
    have e1 : zS9 (fun i => zn9 (i + 1) * m (i + 1) 0 * dtD9 (k + 1) (fun a b => m (skD9 (i + 1) a) (b + 1))) (k + 1) = zS9 (fun i => zS9 (fun j => -(zn9 i * zn9 j * m (i + 1) 0 * m 0 (j + 1) * dtD9 k (fun a b => m (skD9 i a + 1) (skD9 j b + 1)))) (k + 1)) (k + 1) := zS_cg (fun i _ => by
      rw [ih (fun a b => m (skD9 (i + 1) a) (b + 1)), ← zS_mul]
      refine zS_cg (fun j _ => ?_)
      have a1 : skD9 (i + 1) 0 = 0 := if_pos (by omega)
      have a2 : dtD9 k (fun a b => m (skD9 (i + 1) (a + 1)) (skD9 j b + 1)) = dtD9 k (fun a b => m (skD9 i a + 1) (skD9 j b + 1)) := dt_cg k (fun a b _ _ => by rw [sk_s])
      rw [a1, a2, zn_s]
      generalize dtD9 k (fun a b => m (skD9 i a + 1) (skD9 j b + 1)) = D
      grind)
    have e2 : zS9 (fun j => zn9 (j + 1) * m 0 (j + 1) * dtD9 (k + 1) (fun a b => m (a + 1) (skD9 (j + 1) b))) (k + 1) = zS9 (fun j => zS9 (fun i => -(zn9 i * zn9 j * m (i + 1) 0 * m 0 (j + 1) * dtD9 k (fun a b => m (skD9 i a + 1) (skD9 j b + 1)))) (k + 1)) (k + 1) := zS_cg (fun j _ => by
      show zn9 (j + 1) * m 0 (j + 1) * zS9 (fun i => zn9 i * m (i + 1) (skD9 (j + 1) 0) * dtD9 k (fun a b => m (skD9 i a + 1) (skD9 (j + 1) (b + 1)))) (k + 1) = _
      rw [← zS_mul]
      refine zS_cg (fun i _ => ?_)
      have a1 : skD9 (j + 1) 0 = 0 := if_pos (by omega)
      have a2 : dtD9 k (fun a b => m (skD9 i a + 1) (skD9 (j + 1) (b + 1))) = dtD9 k (fun a b => m (skD9 i a + 1) (skD9 j b + 1)) := dt_cg k (fun a b _ _ => by rw [sk_s])
      rw [a1, a2, zn_s]
      generalize dtD9 k (fun a b => m (skD9 i a + 1) (skD9 j b + 1)) = D
      grind)
    rw [e0, e1, e2, zS_sw]
/-- rows for columns -/
theorem dt_tr : ∀ (k : Nat) (m : Nat → Nat → Int), dtD9 k (fun a b => m b a) = dtD9 k m := by
  intro k
  induction k with
  | zero => exact fun m => rfl
  | succ k ih =>
    intro m
    rw [dt_R k m]
    show zS9 (fun i => zn9 i * m 0 i * dtD9 k (fun a b => m (b + 1) (skD9 i a))) (k + 1) = _
    refine zS_cg (fun i _ => ?_)
    rw [ih (fun a b => m (a + 1) (skD9 i b))]
theorem mn_tr {B : Nat → Nat → Int} {k : Nat} {f g : Nat → Nat} : mnD9 (fun a b => B b a) k g f = mnD9 B k f g := dt_tr k (fun a b => B (f a) (g b))
theorem dvD_tr {R n : Nat} {B : Nat → Nat → Int} {k : Nat} {d : Int} (h : dvD9 R n B k d) : dvD9 n R (fun a b => B b a) k d := fun f g hf hg => by
  rw [mn_tr]
  exact h g f hg hf
/-- a multiple of column t added to column r -/
theorem dv_col {R n : Nat} {B : Nat → Nat → Int} {r t : Nat} (ht : t < n) (hne : r ≠ t) (q : Int) {k : Nat} {d : Int} (h : dvD9 R n B k d) : dvD9 R n (fun a b => if b = r then B a r + q * B a t else B a b) k d := by
  have a := dvD_tr (dv_row (r := r) ht hne q (dvD_tr h))
  intro f g hf hg
  have e : mnD9 (fun a b => if b = r then B a r + q * B a t else B a b) k f g = mnD9 (fun a b => rwD9 (fun a b => B b a) r (fun b => (fun a b => B b a) r b + q * (fun a b => B b a) t b) b a) k f g := dt_cg k (fun x y _ _ => by
    unfold rwD9
    rfl)
  rw [e]
  exact a f g hf hg
end XCV3
