/-! chain: numbers modulo a prime; rows, their span, how many of them count -/
abbrev vc9 : Type := Nat → Int
/-- alike modulo p, up to n -/
def zq9 (p : Int) (n : Nat) (u v : vc9) : Prop := ∀ i, i < n → p ∣ u i - v i
def lc9 : List Int → List vc9 → vc9
  | c :: cs, v :: vs => fun i => c * v i + lc9 cs vs i
  | _, _ => fun _ => 0
def sp9 (p : Int) (n : Nat) (vs : List vc9) (v : vc9) : Prop := ∃ cs, zq9 p n v (lc9 cs vs)
theorem dvr9 {p a : Int} (c : Int) (h : p ∣ a) : p ∣ c * a := Int.dvd_trans h (Int.dvd_mul_left c a)
theorem dvl9 {p a : Int} (c : Int) (h : p ∣ a) : p ∣ a * c := Int.dvd_trans h (Int.dvd_mul_right a c)
def pr9 (p : Int) : Prop := 2 ≤ p ∧ ∀ a b : Int, p ∣ a * b → p ∣ a ∨ p ∣ b
def iv9 (p : Int) : Prop := ∀ a : Int, ¬ p ∣ a → ∃ b, p ∣ a * b - 1
section XCH1
variable {p : Int} {n : Nat} {u v w : vc9} {vs us : List vc9}
theorem zq_r : zq9 p n v v := fun i _ => by rw [Int.sub_self]; exact Int.dvd_zero p
theorem zq_s (h : zq9 p n u v) : zq9 p n v u := fun i hi => by
  have := Int.dvd_neg.mpr (h i hi)
  rw [Int.neg_sub] at this
  exact this
theorem zq_t (h1 : zq9 p n u v) (h2 : zq9 p n v w) : zq9 p n u w := fun i hi => by
  have := Int.dvd_add (h1 i hi) (h2 i hi)
  rw [show u i - v i + (v i - w i) = u i - w i by omega] at this
  exact this
theorem zq_a {u' v' : vc9} (h1 : zq9 p n u v) (h2 : zq9 p n u' v') : zq9 p n (fun i => u i + u' i) (fun i => v i + v' i) := fun i hi => by
  have := Int.dvd_add (h1 i hi) (h2 i hi)
  rw [show u i - v i + (u' i - v' i) = u i + u' i - (v i + v' i) by omega] at this
  exact this
theorem zq_m (c : Int) (h : zq9 p n u v) : zq9 p n (fun i => c * u i) (fun i => c * v i) := fun i hi => by
  have := dvr9 c (h i hi)
  rw [Int.mul_sub] at this
  exact this
theorem lc_nil (cs : List Int) : lc9 cs [] = fun _ => 0 := by cases cs <;> rfl
theorem lc_z (vs : List vc9) : lc9 [] vs = fun _ => 0 := by cases vs <;> rfl
/-- sums of combinations -/
theorem lc_add : ∀ (vs : List vc9) (cs ds : List Int), ∃ es, ∀ i, lc9 es vs i = lc9 cs vs i + lc9 ds vs i
  | [], cs, ds => ⟨[], fun i => by rw [lc_nil, lc_nil, lc_nil]; rfl⟩
  | v :: vs, [], ds => ⟨ds, fun i => by rw [lc_z]; show _ = 0 + _; omega⟩
  | v :: vs, c :: cs, [] => ⟨c :: cs, fun i => by rw [lc_z]; show _ = _ + 0; omega⟩
  | v :: vs, c :: cs, d :: ds => by
    obtain ⟨es, h⟩ := lc_add vs cs ds
    refine ⟨(c + d) :: es, fun i => ?_⟩
    show (c + d) * v i + lc9 es vs i = c * v i + lc9 cs vs i + (d * v i + lc9 ds vs i)
    rw [h i, Int.add_mul]
    omega
theorem lc_mul (c : Int) : ∀ (vs : List vc9) (cs : List Int), ∃ es, ∀ i, lc9 es vs i = c * lc9 cs vs i
  | [], cs => ⟨[], fun i => by rw [lc_nil, lc_nil]; exact (Int.mul_zero c).symm⟩
  | v :: vs, [] => ⟨[], fun i => by rw [lc_z]; exact (Int.mul_zero c).symm⟩
  | v :: vs, d :: ds => by
    obtain ⟨es, h⟩ := lc_mul c vs ds
    refine ⟨(c * d) :: es, fun i => ?_⟩
    show (c * d) * v i + lc9 es vs i = c * (d * v i + lc9 ds vs i)
    rw [h i, Int.mul_add, Int.mul_assoc]
theorem sp_0 : sp9 p n vs (fun _ => 0) := ⟨[], by rw [lc_z]; exact zq_r⟩
theorem sp_q (h : zq9 p n u v) (hv : sp9 p n vs v) : sp9 p n vs u := by
  obtain ⟨cs, hc⟩ := hv
  exact ⟨cs, zq_t h hc⟩
theorem sp_a (hu : sp9 p n vs u) (hv : sp9 p n vs v) : sp9 p n vs (fun i => u i + v i) := by
  obtain ⟨cs, hc⟩ := hu
  obtain ⟨ds, hd⟩ := hv
  obtain ⟨es, he⟩ := lc_add vs cs ds
  refine ⟨es, ?_⟩
  rw [show lc9 es vs = fun i => lc9 cs vs i + lc9 ds vs i from funext he]
  exact zq_a hc hd
theorem sp_m (c : Int) (hu : sp9 p n vs u) : sp9 p n vs (fun i => c * u i) := by
  obtain ⟨cs, hc⟩ := hu
  obtain ⟨es, he⟩ := lc_mul c vs cs
  refine ⟨es, ?_⟩
  rw [show lc9 es vs = fun i => c * lc9 cs vs i from funext he]
  exact zq_m c hc
theorem sp_h : sp9 p n (v :: vs) v := ⟨[1], by
  show zq9 p n v (fun i => 1 * v i + lc9 [] vs i)
  rw [lc_z]
  exact fun i _ => by
    show p ∣ v i - (1 * v i + 0)
    rw [Int.one_mul, Int.add_zero, Int.sub_self]
    exact Int.dvd_zero p⟩
theorem sp_c (h : sp9 p n vs u) : sp9 p n (v :: vs) u := by
  obtain ⟨cs, hc⟩ := h
  refine ⟨0 :: cs, ?_⟩
  show zq9 p n u (fun i => 0 * v i + lc9 cs vs i)
  rw [show (fun i => 0 * v i + lc9 cs vs i) = lc9 cs vs from funext (fun i => by rw [Int.zero_mul, Int.zero_add])]
  exact hc
theorem sp_in : ∀ {vs : List vc9}, v ∈ vs → sp9 p n vs v
  | [], h => absurd h List.not_mem_nil
  | w :: vs, h => by
    rcases List.mem_cons.mp h with e | e
    · rw [e]
      exact sp_h
    · exact sp_c (sp_in e)
theorem lc_sp : ∀ (cs : List Int) (us : List vc9), (∀ u, u ∈ us → sp9 p n vs u) → sp9 p n vs (lc9 cs us)
  | [], us, _ => by
    rw [lc_z]
    exact sp_0
  | c :: cs, [], _ => sp_0
  | c :: cs, u :: us, h => sp_a (sp_m c (h u List.mem_cons_self)) (lc_sp cs us (fun t ht => h t (List.mem_cons_of_mem _ ht)))
/-- spans within spans -/
theorem sp_tr (h : sp9 p n us w) (h2 : ∀ u, u ∈ us → sp9 p n vs u) : sp9 p n vs w := by
  obtain ⟨cs, hc⟩ := h
  exact sp_q hc (lc_sp cs us h2)
theorem sp_cons (h : sp9 p n (v :: vs) u) : ∃ c w, sp9 p n vs w ∧ zq9 p n u (fun i => c * v i + w i) := by
  obtain ⟨cs, hc⟩ := h
  cases cs with
  | nil =>
    rw [lc_z] at hc
    refine ⟨0, fun _ => 0, sp_0, fun i hi => ?_⟩
    have := hc i hi
    show p ∣ u i - (0 * v i + 0)
    rw [Int.zero_mul, Int.add_zero]
    exact this
  | cons c cs => exact ⟨c, lc9 cs vs, ⟨cs, zq_r⟩, hc⟩
end XCH1
/-- the highest places of the vectors of a set -/
def Ld9 (p : Int) (n : Nat) (S : vc9 → Prop) (i : Nat) : Prop := i < n ∧ ∃ v, S v ∧ ¬ p ∣ v i ∧ ∀ j, i < j → j < n → p ∣ v j
noncomputable def cn9 (P : Nat → Prop) : Nat → Nat
  | 0 => 0
  | k + 1 => cn9 P k + @ite _ (P k) (Classical.propDecidable _) 1 0
/-- how many count -/
noncomputable def dm9 (p : Int) (n : Nat) (S : vc9 → Prop) : Nat := cn9 (Ld9 p n S) n
noncomputable def rk9 (p : Int) (n : Nat) : List vc9 → Nat
  | [] => 0
  | v :: vs => rk9 p n vs + @ite _ (sp9 p n vs v) (Classical.propDecidable _) 0 1
theorem cn_y {P : Nat → Prop} {k : Nat} (h : P k) : cn9 P (k + 1) = cn9 P k + 1 := by
  show cn9 P k + @ite _ (P k) (Classical.propDecidable _) 1 0 = _
  rw [if_pos h]
theorem cn_n {P : Nat → Prop} {k : Nat} (h : ¬ P k) : cn9 P (k + 1) = cn9 P k := by
  show cn9 P k + @ite _ (P k) (Classical.propDecidable _) 1 0 = _
  rw [if_neg h, Nat.add_zero]
theorem cn_cg {P Q : Nat → Prop} : ∀ {k : Nat}, (∀ i, i < k → (P i ↔ Q i)) → cn9 P k = cn9 Q k
  | 0, _ => rfl
  | k + 1, h => by
    have ih := cn_cg (P := P) (Q := Q) (k := k) (fun i hi => h i (by omega))
    by_cases c : P k
    · rw [cn_y c, cn_y ((h k (by omega)).mp c), ih]
    · rw [cn_n c, cn_n (fun h9 => c ((h k (by omega)).mpr h9)), ih]
theorem cn_one {P Q : Nat → Prop} {a : Nat} : ∀ {k : Nat}, a < k → ¬ P a → (∀ i, i < k → (Q i ↔ P i ∨ i = a)) → cn9 Q k = cn9 P k + 1
  | 0, h, _, _ => absurd h (Nat.not_lt_zero _)
  | k + 1, h, hP, hQ => by
    by_cases e : a = k
    · rw [← e, cn_y ((hQ a h).mpr (Or.inr rfl)), cn_n hP]
      exact congrArg (· + 1) (cn_cg (fun i hi => by
        rw [hQ i (by omega)]
        exact ⟨fun h9 => h9.elim id (fun h8 => by omega), Or.inl⟩))
    · have ih := cn_one (k := k) (P := P) (Q := Q) (by omega) hP (fun i hi => hQ i (by omega))
      by_cases c : P k
      · rw [cn_y c, cn_y ((hQ k (by omega)).mpr (Or.inl c)), ih]
      · rw [cn_n c, cn_n (fun h9 => ((hQ k (by omega)).mp h9).elim c (fun h8 => e h8.symm)), ih]
theorem cn_not {P : Nat → Prop} : ∀ {k : Nat}, cn9 P k + cn9 (fun i => ¬ P i) k = k
  | 0 => rfl
  | k + 1 => by
    have ih := cn_not (P := P) (k := k)
    by_cases c : P k
    · rw [cn_y c, cn_n (P := fun i => ¬ P i) (fun h9 => h9 c)]
      omega
    · rw [cn_n c, cn_y (P := fun i => ¬ P i) c]
      omega
section XCH2
variable {p : Int} {n : Nat} {u v w : vc9} {vs us : List vc9}
theorem rk_y (h : sp9 p n vs v) : rk9 p n (v :: vs) = rk9 p n vs := by
  show rk9 p n vs + @ite _ (sp9 p n vs v) (Classical.propDecidable _) 0 1 = _
  rw [if_pos h, Nat.add_zero]
theorem rk_n (h : ¬ sp9 p n vs v) : rk9 p n (v :: vs) = rk9 p n vs + 1 := by
  show rk9 p n vs + @ite _ (sp9 p n vs v) (Classical.propDecidable _) 0 1 = _
  rw [if_neg h]
/-- a vector that is not in the span can be changed by the span so that its highest place is new -/
theorem ld_red (hp : pr9 p) (hi : iv9 p) : ∀ (d : Nat) (v : vc9), (∀ j, d ≤ j → j < n → p ∣ v j) → ¬ sp9 p n vs v → ∃ (w : vc9) (a : Nat), a < n ∧ sp9 p n vs (fun i => v i - w i) ∧ ¬ p ∣ w a ∧ (∀ j, a < j → j < n → p ∣ w j) ∧ ¬ Ld9 p n (sp9 p n vs) a
  | 0, v, h, hs => absurd (sp_q (fun i hi => by
      show p ∣ v i - 0
      rw [Int.sub_zero]
      exact h i (by omega) hi) sp_0) hs
  | d + 1, v, h, hs => by
    by_cases hd : d < n
    · by_cases c : p ∣ v d
      · exact ld_red hp hi d v (fun j h1 h2 => by
          by_cases e : j = d
          · rw [e]
            exact c
          · exact h j (by omega) h2) hs
      · by_cases hl : Ld9 p n (sp9 p n vs) d
        · obtain ⟨-, w, w1, w2, w3⟩ := hl
          obtain ⟨b, hb⟩ := hi (w d) w2
          -- v - (v d * b) w
          have s9 : sp9 p n vs (fun i => (v d * b) * w i) := sp_m _ w1
          have h2 : ¬ sp9 p n vs (fun i => v i - (v d * b) * w i) := fun h9 => hs (sp_q (fun i hi => by
            show p ∣ v i - (v i - v d * b * w i + v d * b * w i)
            rw [show v i - (v i - v d * b * w i + v d * b * w i) = 0 by omega]
            exact Int.dvd_zero p) (sp_a h9 s9))
          obtain ⟨w', a, a1, a2, a3, a4, a5⟩ := ld_red hp hi d (fun i => v i - (v d * b) * w i) (fun j h1 h3 => by
            show p ∣ v j - v d * b * w j
            by_cases e : j = d
            · rw [e]
              have := dvr9 (-(v d)) hb
              rw [show -(v d) * (w d * b - 1) = v d - v d * b * w d by rw [Int.mul_sub, Int.mul_one, Int.neg_mul, Int.sub_neg, Int.mul_comm (w d) b, ← Int.mul_assoc]; omega] at this
              exact this
            · exact Int.dvd_sub (h j (by omega) h3) (dvr9 _ (w3 j (by omega) h3))) h2
          refine ⟨w', a, a1, sp_q (fun i hi => ?_) (sp_a a2 s9), a3, a4, a5⟩
          show p ∣ v i - w' i - (v i - v d * b * w i - w' i + v d * b * w i)
          rw [show v i - w' i - (v i - v d * b * w i - w' i + v d * b * w i) = 0 by omega]
          exact Int.dvd_zero p
        · refine ⟨v, d, hd, sp_q (fun i hi => ?_) sp_0, c, fun j h1 h2 => h j (by omega) h2, hl⟩
          show p ∣ v i - v i - 0
          rw [show v i - v i - 0 = 0 by omega]
          exact Int.dvd_zero p
    · exact ld_red hp hi d v (fun j h1 h2 => absurd h2 (by omega)) hs
theorem dm_cg {S T : vc9 → Prop} (h : ∀ v, S v ↔ T v) : dm9 p n S = dm9 p n T := cn_cg (fun i _ => ⟨fun ⟨h1, v, h2, h3⟩ => ⟨h1, v, (h v).mp h2, h3⟩, fun ⟨h1, v, h2, h3⟩ => ⟨h1, v, (h v).mpr h2, h3⟩⟩)
/-- the number that counts hangs on the span alone -/
theorem rk_dm (hp : pr9 p) (hi : iv9 p) : ∀ vs : List vc9, rk9 p n vs = dm9 p n (sp9 p n vs)
  | [] => by
    have h0 : ∀ k, k ≤ n → cn9 (Ld9 p n (sp9 p n [])) k = 0 := by
      intro k
      induction k with
      | zero => intro _; rfl
      | succ k ih =>
        intro hk
        rw [cn_n (fun h9 => ?_), ih (by omega)]
        obtain ⟨h1, v, ⟨cs, hc⟩, h3, -⟩ := h9
        rw [lc_nil] at hc
        have := hc k h1
        rw [Int.sub_zero] at this
        exact h3 this
    exact (h0 n (Nat.le_refl n)).symm
  | v :: vs => by
    have ih := rk_dm hp hi vs
    by_cases c : sp9 p n vs v
    · rw [rk_y c, ih]
      refine dm_cg (fun w => ⟨sp_c, fun h => sp_tr h (fun u hu => ?_)⟩)
      rcases List.mem_cons.mp hu with e | e
      · rw [e]
        exact c
      · exact sp_in e
    · rw [rk_n c, ih]
      obtain ⟨w, a, a1, a2, a3, a4, a5⟩ := ld_red hp hi n v (fun j h1 h2 => absurd h2 (by omega)) c
      have hwv : sp9 p n (v :: vs) w := sp_q (fun i hi => by
        show p ∣ w i - (v i + (-1) * (v i - w i))
        rw [show w i - (v i + (-1) * (v i - w i)) = 0 by omega]
        exact Int.dvd_zero p) (sp_a sp_h (sp_m (-1) (sp_c a2)))
      refine (cn_one (P := Ld9 p n (sp9 p n vs)) a1 a5 (fun i hi9 => ⟨fun h => ?_, fun h => ?_⟩)).symm
      · obtain ⟨h1, x, h2, h3, h4⟩ := h
        obtain ⟨c1, y, y1, y2⟩ := sp_cons h2
        -- x = c1 v + y = c1 w + (c1 (v - w) + y)
        have y3 : sp9 p n vs (fun i => c1 * (v i - w i) + y i) := sp_a (sp_m c1 a2) y1
        have x2 : ∀ t, t < n → p ∣ x t - (c1 * w t + (c1 * (v t - w t) + y t)) := fun t ht => by
          have := y2 t ht
          rw [show x t - (c1 * w t + (c1 * (v t - w t) + y t)) = x t - (c1 * v t + y t) by rw [Int.mul_sub]; omega]
          exact this
        by_cases e : i = a
        · exact Or.inr e
        refine Or.inl ?_
        by_cases hc1 : p ∣ c1
        · refine ⟨h1, fun t => c1 * (v t - w t) + y t, y3, fun h9 => h3 ?_, fun t t1 t2 => ?_⟩
          · have := Int.dvd_add (x2 i hi9) (Int.dvd_add (dvl9 (w i) hc1) h9)
            rw [show x i - (c1 * w i + (c1 * (v i - w i) + y i)) + (c1 * w i + (c1 * (v i - w i) + y i)) = x i by omega] at this
            exact this
          · have := Int.dvd_sub (h4 t t1 t2) (Int.dvd_add (x2 t t2) (dvl9 (w t) hc1))
            rw [show x t - (x t - (c1 * w t + (c1 * (v t - w t) + y t)) + c1 * w t) = c1 * (v t - w t) + y t by omega] at this
            exact this
        · rcases Nat.lt_trichotomy i a with e9 | e9 | e9
          · -- then a is a highest place of the span: no
            exfalso
            refine a5 ⟨a1, fun t => c1 * (v t - w t) + y t, y3, fun h9 => ?_, fun t t1 t2 => ?_⟩
            · have := Int.dvd_sub (h4 a e9 a1) (Int.dvd_add (x2 a a1) h9)
              rw [show x a - (x a - (c1 * w a + (c1 * (v a - w a) + y a)) + (c1 * (v a - w a) + y a)) = c1 * w a by omega] at this
              exact (hp.2 _ _ this).elim hc1 a3
            · have := Int.dvd_sub (h4 t (by omega) t2) (Int.dvd_add (x2 t t2) (dvr9 c1 (a4 t t1 t2)))
              rw [show x t - (x t - (c1 * w t + (c1 * (v t - w t) + y t)) + c1 * w t) = c1 * (v t - w t) + y t by omega] at this
              exact this
          · exact absurd e9 e
          · refine ⟨h1, fun t => c1 * (v t - w t) + y t, y3, fun h9 => h3 ?_, fun t t1 t2 => ?_⟩
            · have := Int.dvd_add (x2 i hi9) (Int.dvd_add (dvr9 c1 (a4 i e9 hi9)) h9)
              rw [show x i - (c1 * w i + (c1 * (v i - w i) + y i)) + (c1 * w i + (c1 * (v i - w i) + y i)) = x i by omega] at this
              exact this
            · have := Int.dvd_sub (h4 t t1 t2) (Int.dvd_add (x2 t t2) (dvr9 c1 (a4 t (by omega) t2)))
              rw [show x t - (x t - (c1 * w t + (c1 * (v t - w t) + y t)) + c1 * w t) = c1 * (v t - w t) + y t by omega] at this
              exact this
      · rcases h with ⟨h1, x, h2, h3⟩ | h
        · exact ⟨h1, x, sp_c h2, h3⟩
        · rw [h]
          exact ⟨a1, w, hwv, a3, a4⟩
/-- lists with the same span -/
theorem rk_sp (hp : pr9 p) (hi : iv9 p) (h1 : ∀ v, v ∈ vs → sp9 p n us v) (h2 : ∀ u, u ∈ us → sp9 p n vs u) : rk9 p n vs = rk9 p n us := by
  rw [rk_dm hp hi, rk_dm hp hi]
  exact dm_cg (fun w => ⟨fun h => sp_tr h h1, fun h => sp_tr h h2⟩)
end XCH2
