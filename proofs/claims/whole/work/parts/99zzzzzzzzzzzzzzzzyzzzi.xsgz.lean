/-! signature: sums in another order -/
section XSGZ
theorem zS_add {f g : Nat → Int} : ∀ {n : Nat}, zS9 (fun i => f i + g i) n = zS9 f n + zS9 g n := by
  intro n
  induction n with
  | zero => rfl
  | succ n ih =>
    show zS9 (fun i => f i + g i) n + (f n + g n) = zS9 f n + f n + (zS9 g n + g n)
    rw [ih]
    omega
theorem zS_sw {f : Nat → Nat → Int} {m : Nat} : ∀ {k : Nat}, zS9 (fun i => zS9 (fun j => f i j) m) k = zS9 (fun j => zS9 (fun i => f i j) k) m := by
  intro k
  induction k with
  | zero => exact (zS_0 m).symm
  | succ k ih =>
    show zS9 (fun i => zS9 (fun j => f i j) m) k + zS9 (fun j => f k j) m = zS9 (fun j => zS9 (fun i => f i j) k + f k j) m
    rw [ih, zS_add]
/-- just one place counts -/
theorem zS_one {P : Nat → Bool} {g : Nat → Int} {a : Nat} : ∀ {n : Nat}, a < n → P a = true → (∀ b, b < n → P b = true → b = a) → zS9 (fun i => if P i = true then g i else 0) n = g a := by
  intro n
  induction n with
  | zero => exact fun h => absurd h (Nat.not_lt_zero _)
  | succ n ih =>
    intro ha hP hu
    show zS9 (fun i => if P i = true then g i else 0) n + (if P n = true then g n else 0) = g a
    by_cases h9 : a = n
    · subst h9
      rw [if_pos hP, zS_cg (g := fun _ => 0) (fun i hi => if_neg (fun h => by have := hu i (by omega) h; omega)), zS_0]
      omega
    · rw [ih (by omega) hP (fun b hb hb2 => hu b (by omega) hb2), if_neg (fun h => h9 (hu n (by omega) h).symm)]
      omega
theorem zS_none {P : Nat → Bool} {g : Nat → Int} {n : Nat} (h : ∀ b, b < n → P b = false) : zS9 (fun i => if P i = true then g i else 0) n = 0 := by
  rw [zS_cg (g := fun _ => 0) (fun i hi => if_neg (by rw [h i hi]; decide)), zS_0]
/-- sums over the visits over of a part are sums over its crossings -/
theorem reord {A : rn_L} {sg : Nat → Bool} {T : ow_NT} (hi : isoN A sg idN T) {q qA : Nat → Bool} (hqA : ∀ v, v < A.flatten.length → qA v = q (lbv A idN v)) (H : Nat → Int) : zS9 (fun o => if uns A o = 0 ∧ qA o = true then H (crs A o) else 0) A.flatten.length = zS9 (fun x => if q (2 * x) = true then H x else 0) T.1 := by
  have e1 : ∀ o, o < A.flatten.length → (if uns A o = 0 ∧ qA o = true then H (crs A o) else 0) = zS9 (fun x => if decide (lbv A idN o = 2 * x) = true then (if q (2 * x) = true then H x else 0) else 0) T.1 := fun o ho => by
    obtain ⟨a1, a2⟩ := lbv_hf hi ho
    have hu := uns_lt hi.1 ho
    have hl := lbv_lt hi ho
    have hid : idN (crs A o) = crs A o := rfl
    rw [hid] at a1
    by_cases h9 : uns A o = 0
    · have e : lbv A idN o = 2 * crs A o := by omega
      rw [zS_one (P := fun x => decide (lbv A idN o = 2 * x)) (a := crs A o) (by omega) (decide_eq_true e) (fun b _ hb => by
        have := of_decide_eq_true hb
        omega)]
      rw [hqA o ho, e]
      by_cases h8 : q (2 * crs A o) = true
      · rw [if_pos ⟨h9, h8⟩, if_pos h8]
      · rw [if_neg (fun h => h8 h.2), if_neg h8]
    · rw [if_neg (fun h => h9 h.1), zS_none (P := fun x => decide (lbv A idN o = 2 * x)) (fun b _ => decide_eq_false (fun h => by omega))]
  rw [zS_cg e1, zS_sw]
  refine zS_cg (fun x hx => ?_)
  obtain ⟨o, o1, o2⟩ := lbv_sur hi (k := 2 * x) (by omega)
  exact zS_one (P := fun o => decide (lbv A idN o = 2 * x)) (g := fun _ => if q (2 * x) = true then H x else 0) (a := o) o1 (decide_eq_true o2) (fun b hb hb2 => lbv_inj hi hb o1 ((of_decide_eq_true hb2).trans o2.symm))
theorem cr_sum {G : Nat → Int32} {w q : Nat → Bool} {κ : Bool} : ∀ c, crG9 G w q κ c = zS9 (fun x => if q (2 * x) = true then (if w (fV9 G x) = κ then 0 else sgI9 G x) else 0) c := by
  intro c
  induction c with
  | zero => rfl
  | succ c ih =>
    show crG9 G w q κ c + _ = zS9 _ c + _
    rw [ih]
/-- the matrix of the reference holds B -/
def mtB9 (y : ow_MS) (B : Nat → Nat → Int) : Prop := ∀ i j, i < 16 → j < 16 → y.2.2 54 (16 * i + j) = Int64.ofInt (B i j)
theorem mtB_w {y : ow_MS} {a b : Nat} {B : Nat → Nat → Int} {s : Int} (h : mtB9 y B) (ha : a < 16) (hb : b < 16) : mtB9 (usJ y 54 (16 * a + b) (Int64.ofInt (B a b + s))) (fun i j => B i j + s * (zd9 a i * zd9 b j)) := by
  intro i j hi hj
  by_cases h9 : i = a ∧ j = b
  · obtain ⟨h8, h7⟩ := h9
    subst h8
    subst h7
    rw [usJ_at]
    dsimp only
    rw [show zd9 i i = 1 from if_pos rfl, show zd9 j j = 1 from if_pos rfl, Int.mul_one, Int.mul_one]
  · rw [usJ_ne (by omega), h i j hi hj]
    refine congrArg Int64.ofInt ?_
    have : zd9 a i * zd9 b j = 0 := by
      by_cases h8 : i = a
      · rw [show zd9 b j = 0 from if_neg (fun h7 => h9 ⟨h8, h7⟩), Int.mul_zero]
      · rw [show zd9 a i = 0 from if_neg h8, Int.zero_mul]
    dsimp only
    rw [this, Int.mul_zero, Int.add_zero]
theorem zd_sy (a b : Nat) : zd9 a b = zd9 b a := by
  unfold zd9
  by_cases h9 : b = a
  · rw [if_pos h9, if_pos h9.symm]
  · rw [if_neg h9, if_neg (fun h8 => h9 h8.symm)]
/-- four writes -/
theorem mtB_4 {y : ow_MS} {u v : Nat} {B : Nat → Nat → Int} {t : Int} (h : mtB9 y B) (hu : u < 16) (hv : v < 16) : ∃ a1 a2 a3 a4 : Int, y.2.2 54 (16 * u + u) = Int64.ofInt a1 ∧ (usJ y 54 (16 * u + u) (Int64.ofInt (a1 + t))).2.2 54 (16 * v + v) = Int64.ofInt a2 ∧ (usJ (usJ y 54 (16 * u + u) (Int64.ofInt (a1 + t))) 54 (16 * v + v) (Int64.ofInt (a2 + t))).2.2 54 (16 * u + v) = Int64.ofInt a3 ∧ (usJ (usJ (usJ y 54 (16 * u + u) (Int64.ofInt (a1 + t))) 54 (16 * v + v) (Int64.ofInt (a2 + t))) 54 (16 * u + v) (Int64.ofInt (a3 + -t))).2.2 54 (16 * v + u) = Int64.ofInt a4 ∧ mtB9 (usJ (usJ (usJ (usJ y 54 (16 * u + u) (Int64.ofInt (a1 + t))) 54 (16 * v + v) (Int64.ofInt (a2 + t))) 54 (16 * u + v) (Int64.ofInt (a3 + -t))) 54 (16 * v + u) (Int64.ofInt (a4 + -t))) (fun i j => B i j + t * (zd9 i u - zd9 i v) * (zd9 j u - zd9 j v)) := by
  have k1 := mtB_w (s := t) h hu hu
  have k2 := mtB_w (s := t) k1 hv hv
  have k3 := mtB_w (s := -t) k2 hu hv
  have k4 := mtB_w (s := -t) k3 hv hu
  refine ⟨_, _, _, _, h u u hu hu, k1 v v hv hv, k2 u v hu hv, k3 v u hv hu, fun i j hi hj => (k4 i j hi hj).trans (congrArg Int64.ofInt ?_)⟩
  dsimp only
  rw [zd_sy u i, zd_sy u j, zd_sy v i, zd_sy v j]
  grind
end XSGZ
