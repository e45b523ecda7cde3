-- CHAIN: other numbers of crossings
def tau9 (x y : Nat) : Nat := if y = x then x + 1 else if y = x + 1 then x else y
def swp9 (x m y : Nat) : Nat := if y = x then m else if y = m then x else y
def sgb9 (b : Bool) : Int := if b = true then -1 else 1
section XCHK
variable {n V k x : Nat} {G : Nat → Prop} {P1 P2 P3 : Nat → Nat} {rel : (Nat → Bool) → Nat → Nat → Prop} {d : Int} {p b : Int} {γ : gn9} {s : Nat → Bool}
theorem tau_1 : tau9 x x = x + 1 := if_pos rfl
theorem tau_2 : tau9 x (x + 1) = x := (if_neg (by omega)).trans (if_pos rfl)
theorem tau_3 {y : Nat} (h1 : y ≠ x) (h2 : y ≠ x + 1) : tau9 x y = y := (if_neg h1).trans (if_neg h2)
theorem tau_i (x y : Nat) : tau9 x (tau9 x y) = y := by
  by_cases c : y = x
  · rw [c, tau_1, tau_2]
  · by_cases c2 : y = x + 1
    · rw [c2, tau_2, tau_1]
    · rw [tau_3 c c2, tau_3 c c2]
theorem tau_lt {y : Nat} (hx : x + 1 < n) (hy : y < n) : tau9 x y < n := by
  by_cases c : y = x
  · rw [c, tau_1]
    exact hx
  · by_cases c2 : y = x + 1
    · rw [c2, tau_2]
      omega
    · rw [tau_3 c c2]
      exact hy
theorem tau_ge {y : Nat} (hx : x + 1 < n) (hy : n ≤ y) : tau9 x y = y := tau_3 (by omega) (by omega)
theorem on_tau (s : Nat → Bool) (x y : Nat) : (fun z => on9 s y (tau9 x z)) = on9 (fun z => s (tau9 x z)) (tau9 x y) := funext (fun z => by
  by_cases c : z = tau9 x y
  · rw [c, on_x, tau_i, on_x]
  · rw [on_o c, on_o (fun h9 => c (by rw [← h9, tau_i]))])
theorem tau_tau (s : Nat → Bool) : (fun z => (fun w => s (tau9 x w)) (tau9 x z)) = s := funext (fun z => congrArg s (tau_i x z))
theorem sN_tau {f : Nat → Int} : ∀ {n : Nat}, x + 1 < n → sN9 (fun y => f (tau9 x y)) n = sN9 f n
  | 0, h => absurd h (Nat.not_lt_zero _)
  | n + 1, h => by
    show sN9 (fun y => f (tau9 x y)) n + f (tau9 x n) = sN9 f n + f n
    by_cases c : x + 1 = n
    · rw [← c, tau_2]
      show sN9 (fun y => f (tau9 x y)) x + f (tau9 x x) + f x = sN9 f x + f x + f (x + 1)
      rw [tau_1, sN_cg (f := fun y => f (tau9 x y)) (g := f) (fun i hi => congrArg f (tau_3 (by omega) (by omega)))]
      omega
    · rw [sN_tau (n := n) (by omega), tau_3 (by omega) (by omega)]
theorem sN_mulc {f : Nat → Int} (c : Int) : ∀ {n : Nat}, sN9 (fun i => c * f i) n = c * sN9 f n
  | 0 => (Int.mul_zero c).symm
  | n + 1 => by
    show sN9 (fun i => c * f i) n + c * f n = c * (sN9 f n + f n)
    rw [sN_mulc, Int.mul_add]
theorem smf_D (φ : gn9 → Int) : ∀ n, smf9 φ (D9 P1 P2 P3 rel n γ) = sN9 (fun y => if γ.1 y = true then 0 else par9 γ.1 y * smf9 φ (Dx9 P1 P2 P3 rel y γ)) n
  | 0 => rfl
  | n + 1 => by
    show smf9 φ (D9 P1 P2 P3 rel n γ ++ (if γ.1 n = true then [] else scf9 (par9 γ.1 n) (Dx9 P1 P2 P3 rel n γ))) = sN9 _ n + (if γ.1 n = true then 0 else par9 γ.1 n * smf9 φ (Dx9 P1 P2 P3 rel n γ))
    rw [sm_a, smf_D φ n]
    by_cases c : γ.1 n = true
    · rw [if_pos c, if_pos c]
      rfl
    · rw [if_neg c, if_neg c, sm_sc]
theorem par_s (s : Nat → Bool) (y : Nat) : par9 s (y + 1) = par9 s y * sgb9 (s y) := by
  show (if s y = true then -par9 s y else par9 s y) = par9 s y * (if s y = true then -1 else 1)
  by_cases c : s y = true
  · rw [if_pos c, if_pos c]
    omega
  · rw [if_neg c, if_neg c]
    omega
theorem par_cg {t : Nat → Bool} : ∀ {y : Nat}, (∀ z, z < y → s z = t z) → par9 s y = par9 t y
  | 0, _ => rfl
  | y + 1, h => by rw [par_s, par_s, par_cg (fun z hz => h z (by omega)), h y (by omega)]
theorem par_t1 {y : Nat} (h : y ≤ x) : par9 (fun z => s (tau9 x z)) y = par9 s y := par_cg (fun z hz => congrArg s (tau_3 (by omega) (by omega)))
theorem par_t2 : par9 (fun z => s (tau9 x z)) (x + 1) = par9 s x * sgb9 (s (x + 1)) := by
  rw [par_s, par_t1 (Nat.le_refl x), tau_1]
theorem par_t3 : ∀ {y : Nat}, x + 2 ≤ y → par9 (fun z => s (tau9 x z)) y = par9 s y
  | 0, h => by omega
  | y + 1, h => by
    by_cases c : y = x + 1
    · rw [c, par_s, par_t2, tau_2, par_s, par_s, Int.mul_assoc, Int.mul_assoc, Int.mul_comm (sgb9 (s (x + 1)))]
    · rw [par_s, par_s, par_t3 (by omega), tau_3 (by omega) (by omega)]
theorem ons_s (s : Nat → Bool) (y : Nat) : ons9 s (y + 1) = ons9 s y + if s y = true then 1 else 0 := rfl
theorem ons_cg {t : Nat → Bool} : ∀ {y : Nat}, (∀ z, z < y → s z = t z) → ons9 s y = ons9 t y
  | 0, _ => rfl
  | y + 1, h => by rw [ons_s, ons_s, ons_cg (fun z hz => h z (by omega)), h y (by omega)]
theorem ons_t : ∀ {y : Nat}, x + 2 ≤ y → ons9 (fun z => s (tau9 x z)) y = ons9 s y
  | 0, h => by omega
  | y + 1, h => by
    by_cases c : y = x + 1
    · rw [c, ons_s, ons_s, ons_s, ons_s, tau_1, tau_2, ons_cg (t := s) (fun z hz => congrArg s (tau_3 (by omega) (by omega)))]
      omega
    · rw [ons_s, ons_s, ons_t (by omega), tau_3 (by omega) (by omega)]
/-- the sign of a state when x and x + 1 are exchanged -/
def eps9 (x : Nat) (γ : gn9) : Int := if γ.1 x = true ∧ γ.1 (x + 1) = true then -1 else 1
theorem eps_par {y : Nat} (hs : s y = false) (m m' : Nat → Bool) : par9 s y * eps9 x (on9 s y, m) = eps9 x (s, m') * par9 (fun z => s (tau9 x z)) (tau9 x y) := by
  have e0 : ∀ t m, eps9 x (t, m) = if t x = true ∧ t (x + 1) = true then -1 else 1 := fun _ _ => rfl
  rw [e0, e0]
  by_cases c : y = x
  · rw [c] at hs ⊢
    rw [tau_1, par_t2, on_x, on_o (by omega), hs, if_neg (show ¬ (false = true ∧ s (x + 1) = true) from fun h9 => by cases h9.1), Int.one_mul]
    unfold sgb9
    by_cases c2 : s (x + 1) = true
    · rw [if_pos ⟨rfl, c2⟩, if_pos c2]
    · rw [if_neg (fun h9 => c2 h9.2), if_neg c2]
  · by_cases c2 : y = x + 1
    · rw [c2] at hs ⊢
      rw [tau_2, par_t1 (Nat.le_refl x), on_x, on_o (by omega), hs, if_neg (show ¬ (s x = true ∧ false = true) from fun h9 => by cases h9.2), Int.one_mul, par_s]
      unfold sgb9
      by_cases c3 : s x = true
      · rw [if_pos c3, if_pos ⟨c3, rfl⟩]
        omega
      · rw [if_neg c3, if_neg (fun h9 => c3 h9.1)]
        omega
    · rw [tau_3 c c2, on_o (fun h9 => c h9.symm), on_o (fun h9 => c2 h9.symm), Int.mul_comm]
      congr 1
      rcases Nat.lt_or_ge y x with h | h
      · exact (par_t1 (by omega)).symm
      · exact (par_t3 (by omega)).symm
theorem tau_cu (hx : x + 1 < n) (hC : cu9 n V G P1 P2 P3 rel) : cu9 n V G (fun y => P1 (tau9 x y)) (fun y => P2 (tau9 x y)) (fun y => P3 (tau9 x y)) (fun s => rel (fun z => s (tau9 x z))) := by
  refine ⟨⟨fun s => hC.1.1 _, fun s y hy hs => ?_⟩, fun s hz => hC.2.1 _ (fun y hy => ?_), hC.2.2.1, fun y hy => hC.2.2.2 _ (tau_lt hx hy)⟩
  · have := hC.1.2 (fun z => s (tau9 x z)) (tau9 x y) (tau_lt hx hy) (by show s (tau9 x (tau9 x y)) = false; rw [tau_i]; exact hs)
    rw [← on_tau] at this
    exact this
  · show s (tau9 x y) = false
    rw [tau_ge hx hy]
    exact hz y hy
noncomputable def dxv9 (R R' : Nat → Nat → Prop) (a b c : Nat) (t m : Nat → Bool) : fc9 := if dcb (R a c) = true then (if m a = true then [(1, (t, m))] else [(1, (t, fun g => m g || dcb (R' g a))), (1, (t, fun g => m g || dcb (R' g b)))]) else (if m a = true ∧ m c = true then [] else [(1, (t, fun g => m g || ((m a || m c) && dcb (R' g a))))])
theorem Dx_tau (y : Nat) : Dx9 (fun y => P1 (tau9 x y)) (fun y => P2 (tau9 x y)) (fun y => P3 (tau9 x y)) (fun s => rel (fun z => s (tau9 x z))) (tau9 x y) ((fun z => γ.1 (tau9 x z)), γ.2) = (Dx9 P1 P2 P3 rel y γ).map (fun q => (q.1, ((fun z => q.2.1 (tau9 x z)), q.2.2))) := by
  have e1 : rel (fun z => (fun z => γ.1 (tau9 x z)) (tau9 x z)) = rel γ.1 := congrArg rel (tau_tau γ.1)
  have e2 : on9 (fun z => γ.1 (tau9 x z)) (tau9 x y) = fun z => on9 γ.1 y (tau9 x z) := (on_tau γ.1 x y).symm
  have e3 : rel (fun z => (fun z => on9 γ.1 y (tau9 x z)) (tau9 x z)) = rel (on9 γ.1 y) := congrArg rel (tau_tau (on9 γ.1 y))
  show dxv9 (rel (fun z => (fun z => γ.1 (tau9 x z)) (tau9 x z))) (rel (fun z => on9 (fun z => γ.1 (tau9 x z)) (tau9 x y) (tau9 x z))) (P1 (tau9 x (tau9 x y))) (P2 (tau9 x (tau9 x y))) (P3 (tau9 x (tau9 x y))) (on9 (fun z => γ.1 (tau9 x z)) (tau9 x y)) γ.2 = (dxv9 (rel γ.1) (rel (on9 γ.1 y)) (P1 y) (P2 y) (P3 y) (on9 γ.1 y) γ.2).map _
  rw [e1, e2, tau_i]
  show dxv9 (rel γ.1) (rel (fun z => (fun z => on9 γ.1 y (tau9 x z)) (tau9 x z))) (P1 y) (P2 y) (P3 y) (fun z => on9 γ.1 y (tau9 x z)) γ.2 = (dxv9 (rel γ.1) (rel (on9 γ.1 y)) (P1 y) (P2 y) (P3 y) (on9 γ.1 y) γ.2).map _
  rw [e3]
  unfold dxv9
  split
  · split <;> rfl
  · split <;> rfl
theorem be_tau {r : Nat} (hp : pr9 p) (hi : iv9 p) (hx : x + 1 < n) (hC : cu9 n V G P1 P2 P3 rel) (hb : be9 p (Sg9 n V G rel k d) (D9 P1 P2 P3 rel n) r b) : be9 p (Sg9 n V G (fun s => rel (fun z => s (tau9 x z))) k d) (D9 (fun y => P1 (tau9 x y)) (fun y => P2 (tau9 x y)) (fun y => P3 (tau9 x y)) (fun s => rel (fun z => s (tau9 x z))) n) r b := by
  have hC' := tau_cu hx hC
  obtain ⟨E', N', he'⟩ := fi_en (Sg_en (k := k) (d := d) hC')
  refine ⟨E', N', he', ?_⟩
  have inv : ∀ γ : gn9, (((fun z => (fun w => γ.1 (tau9 x w)) (tau9 x z)), γ.2) : gn9) = γ := fun γ => Prod.ext (tau_tau γ.1) rfl
  refine isoT hp hi (cu_cg hC) (cu_cg hC') (fun γ => ((fun z => γ.1 (tau9 x z)), γ.2)) (fun γ => ((fun z => γ.1 (tau9 x z)), γ.2)) (eps9 x) (fun γ => ?_) (fun r γ hγ => ⟨?_, inv γ⟩) (fun r γ hγ => ⟨?_, inv γ⟩) (fun r γ hγ δ => ?_) r hb he'
  · unfold eps9
    split <;> rfl
  · obtain ⟨z1, z2, z3, z4, z5⟩ := hγ
    have e1 : rel (fun z => (fun z => γ.1 (tau9 x z)) (tau9 x z)) = rel γ.1 := congrArg rel (tau_tau γ.1)
    refine ⟨fun y hy => ?_, z2, fun g h h1 => ?_, ?_, ?_⟩
    · show γ.1 (tau9 x y) = false
      rw [tau_ge hx hy]
      exact z1 y hy
    · have h1 : rel (fun z => (fun z => γ.1 (tau9 x z)) (tau9 x z)) g h := h1
      rw [e1] at h1
      exact z3 g h h1
    · show ons9 (fun z => γ.1 (tau9 x z)) n + k = r
      rw [ons_t (by omega)]
      exact z4
    · show (cls9 (rel (fun z => (fun z => γ.1 (tau9 x z)) (tau9 x z))) G V (fun _ => True) : Int) - 2 * cls9 (rel (fun z => (fun z => γ.1 (tau9 x z)) (tau9 x z))) G V (fun g => γ.2 g = true) + ons9 (fun z => γ.1 (tau9 x z)) n = d
      rw [e1, ons_t (by omega)]
      exact z5
  · obtain ⟨z1, z2, z3, z4, z5⟩ := hγ
    refine ⟨fun y hy => ?_, z2, fun g h h1 => z3 g h h1, ?_, ?_⟩
    · show γ.1 (tau9 x y) = false
      rw [tau_ge hx hy]
      exact z1 y hy
    · show ons9 (fun z => γ.1 (tau9 x z)) n + k = r
      rw [ons_t (by omega)]
      exact z4
    · show (cls9 (rel (fun z => γ.1 (tau9 x z))) G V (fun _ => True) : Int) - 2 * cls9 (rel (fun z => γ.1 (tau9 x z))) G V (fun g => γ.2 g = true) + ons9 (fun z => γ.1 (tau9 x z)) n = d
      rw [ons_t (by omega)]
      exact z5
  · rw [cf_bd, smf_D, cf_sc]
    have e2 : cf9 (D9 (fun y => P1 (tau9 x y)) (fun y => P2 (tau9 x y)) (fun y => P3 (tau9 x y)) (fun s => rel (fun z => s (tau9 x z))) n ((fun z => γ.1 (tau9 x z)), γ.2)) δ = sN9 (fun y => if γ.1 (tau9 x y) = true then 0 else par9 (fun z => γ.1 (tau9 x z)) y * cf9 (Dx9 (fun y => P1 (tau9 x y)) (fun y => P2 (tau9 x y)) (fun y => P3 (tau9 x y)) (fun s => rel (fun z => s (tau9 x z))) y ((fun z => γ.1 (tau9 x z)), γ.2)) δ) n := smf_D (id9 δ) n
    rw [e2]
    refine Eq.trans ?_ (congrArg (fun t => eps9 x γ * t) (sN_tau hx))
    rw [← sN_mulc]
    refine sN_cg (fun y hy => ?_)
    show (if γ.1 y = true then 0 else _) = eps9 x γ * (if γ.1 (tau9 x (tau9 x y)) = true then 0 else _)
    rw [tau_i]
    by_cases c : γ.1 y = true
    · rw [if_pos c, if_pos c, Int.mul_zero]
    · have c0 : γ.1 y = false := by
        cases h9 : γ.1 y
        · rfl
        · exact absurd h9 c
      rw [if_neg c, if_neg c, Dx_tau]
      have e3 : ∀ l : fc9, (∀ q, q ∈ l → q.2.1 = on9 γ.1 y) → smf9 (fun ε => cf9 [(eps9 x ε, ((fun z => ε.1 (tau9 x z)), ε.2))] δ) l = eps9 x (on9 γ.1 y, γ.2) * cf9 (l.map (fun q => (q.1, ((fun z => q.2.1 (tau9 x z)), q.2.2)))) δ := fun l hl => by
        induction l with
        | nil => exact (Int.mul_zero _).symm
        | cons q l ih =>
          show q.1 * cf9 [(eps9 x q.2, ((fun z => q.2.1 (tau9 x z)), q.2.2))] δ + smf9 _ l = eps9 x (on9 γ.1 y, γ.2) * (q.1 * id9 δ ((fun z => q.2.1 (tau9 x z)), q.2.2) + cf9 (l.map (fun q => (q.1, ((fun z => q.2.1 (tau9 x z)), q.2.2)))) δ)
          rw [ih (fun t ht => hl t (List.mem_cons_of_mem _ ht)), cf_1, Int.mul_add]
          have e4 : eps9 x q.2 = eps9 x (on9 γ.1 y, γ.2) := by
            unfold eps9
            rw [hl q List.mem_cons_self]
          rw [e4, ← Int.mul_assoc, ← Int.mul_assoc, Int.mul_comm q.1]
      rw [e3 _ (fun q hq => Dx_st hq), ← Int.mul_assoc, ← Int.mul_assoc, eps_par c0 γ.2 γ.2]
end XCHK
