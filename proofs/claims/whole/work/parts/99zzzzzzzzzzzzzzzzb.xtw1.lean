/-! two: polynomials in x and z as tables; the skein relation; the tree along a list of first visits -/
abbrev pz9 : Type := Int → Int → Int
def sgz (b : Bool) : Int := if b then 1 else -1
/-- the value at a crossing of sign b, out of the values of the changed and of the smoothed one -/
def skz (b : Bool) (P Q : pz9) : pz9 := fun i j => P (i - 2 * sgz b) j + sgz b * Q (i - sgz b) (j - 1)
/-- k + 1 circles -/
def lfz : Nat → pz9
  | 0 => fun i j => if i = 0 ∧ j = 0 then 1 else 0
  | k + 1 => fun i j => lfz k (i + 1) (j + 1) - lfz k (i - 1) (j + 1)
/-- a circle more -/
def crz (P : pz9) : pz9 := fun i j => P (i + 1) (j + 1) - P (i - 1) (j + 1)
theorem lfz_s (k : Nat) : lfz (k + 1) = crz (lfz k) := rfl
theorem sgz_t : sgz true = 1 := rfl
theorem sgz_f : sgz false = -1 := rfl
theorem skz_bk (b : Bool) (P Q : pz9) : skz b (skz (!b) P Q) Q = P := by
  funext i j
  cases b
  · show P (i - 2 * -1 - 2 * 1) j + 1 * Q (i - 2 * -1 - 1) (j - 1) + -1 * Q (i - -1) (j - 1) = P i j
    rw [show i - 2 * -1 - 2 * 1 = i by omega, show i - 2 * -1 - 1 = i - -1 by omega]
    omega
  · show P (i - 2 * 1 - 2 * -1) j + -1 * Q (i - 2 * 1 - -1) (j - 1) + 1 * Q (i - 1) (j - 1) = P i j
    rw [show i - 2 * 1 - 2 * -1 = i by omega, show i - 2 * 1 - -1 = i - 1 by omega]
    omega
theorem skz_inj {b : Bool} {P P' Q : pz9} (h : skz b P Q = skz b P' Q) : P = P' := by
  funext i j
  have e := congrFun (congrFun h (i + 2 * sgz b)) j
  unfold skz at e
  rw [show i + 2 * sgz b - 2 * sgz b = i by omega] at e
  omega
theorem skz_cm (b c : Bool) (P A B C : pz9) : skz b (skz c P A) (skz c B C) = skz c (skz b P B) (skz b A C) := by
  funext i j
  unfold skz
  rw [show i - 2 * sgz b - 2 * sgz c = i - 2 * sgz c - 2 * sgz b by omega, show i - 2 * sgz b - sgz c = i - sgz c - 2 * sgz b by omega, show i - sgz b - 2 * sgz c = i - 2 * sgz c - sgz b by omega, show i - sgz b - sgz c = i - sgz c - sgz b by omega, Int.mul_add, Int.mul_add, Int.mul_left_comm (sgz b) (sgz c)]
  omega
/-- a loop: what is smoothed has a circle more -/
theorem skz_lp (b : Bool) (P : pz9) : skz b P (crz P) = P := by
  funext i j
  cases b
  · show P (i - 2 * -1) j + -1 * (P (i - -1 + 1) (j - 1 + 1) - P (i - -1 - 1) (j - 1 + 1)) = P i j
    rw [show j - 1 + 1 = j by omega, show i - 2 * -1 = i - -1 + 1 by omega, show i - -1 - 1 = i by omega]
    omega
  · show P (i - 2 * 1) j + 1 * (P (i - 1 + 1) (j - 1 + 1) - P (i - 1 - 1) (j - 1 + 1)) = P i j
    rw [show j - 1 + 1 = j by omega, show i - 2 * 1 = i - 1 - 1 by omega, show i - 1 + 1 = i by omega]
    omega
theorem crz_sk (b : Bool) (P Q : pz9) : crz (skz b P Q) = skz b (crz P) (crz Q) := by
  funext i j
  show P (i + 1 - 2 * sgz b) (j + 1) + sgz b * Q (i + 1 - sgz b) (j + 1 - 1) - (P (i - 1 - 2 * sgz b) (j + 1) + sgz b * Q (i - 1 - sgz b) (j + 1 - 1)) = P (i - 2 * sgz b + 1) (j + 1) - P (i - 2 * sgz b - 1) (j + 1) + sgz b * (Q (i - sgz b + 1) (j - 1 + 1) - Q (i - sgz b - 1) (j - 1 + 1))
  rw [show i + 1 - 2 * sgz b = i - 2 * sgz b + 1 by omega, show i - 1 - 2 * sgz b = i - 2 * sgz b - 1 by omega, show i + 1 - sgz b = i - sgz b + 1 by omega, show i - 1 - sgz b = i - sgz b - 1 by omega, show j + 1 - 1 = j - 1 + 1 by omega, Int.mul_sub]
  omega
/-- a change of one crossing -/
def flz (ov : Nat → Bool) (x : Nat) : Nat → Bool := fun y => if y = x then !ov y else ov y
theorem flz_at (ov : Nat → Bool) (x : Nat) : flz ov x x = !ov x := if_pos rfl
theorem flz_ot {ov : Nat → Bool} {x y : Nat} (h : y ≠ x) : flz ov x y = ov y := if_neg h
theorem flz_2 (ov : Nat → Bool) (x : Nat) : flz (flz ov x) x = ov := by
  funext y
  by_cases h : y = x
  · rw [h, flz_at, flz_at, Bool.not_not]
  · rw [flz_ot h, flz_ot h]
theorem flz_cm (ov : Nat → Bool) (x y : Nat) : flz (flz ov x) y = flz (flz ov y) x := by
  funext t
  by_cases h : x = y
  · rw [h]
  · by_cases h1 : t = x
    · rw [h1, flz_at, flz_ot h, flz_at, flz_ot h]
    · by_cases h2 : t = y
      · rw [h2, flz_at, flz_ot (Ne.symm h), flz_ot (Ne.symm h), flz_at]
      · rw [flz_ot h2, flz_ot h1, flz_ot h1, flz_ot h2]
/-- along the first visits: each one that comes under is smoothed, then changed -/
def goz (P : pz9) (G : Nat → (Nat → Bool) → pz9) : List (Nat × Bool) → (Nat → Bool) → pz9
  | [], _ => P
  | p :: r, ov => if p.2 = ov p.1 then goz P G r ov else skz (ov p.1) (goz P G r (flz ov p.1)) (G p.1 ov)
section XTW1
variable {P : pz9} {G : Nat → (Nat → Bool) → pz9}
theorem goz_g {p : Nat × Bool} {r : List (Nat × Bool)} {ov : Nat → Bool} (h : p.2 = ov p.1) : goz P G (p :: r) ov = goz P G r ov := if_pos h
theorem goz_b {p : Nat × Bool} {r : List (Nat × Bool)} {ov : Nat → Bool} (h : ¬ p.2 = ov p.1) : goz P G (p :: r) ov = skz (ov p.1) (goz P G r (flz ov p.1)) (G p.1 ov) := if_neg h
theorem goz_all : ∀ {l : List (Nat × Bool)} {ov : Nat → Bool}, (∀ p, p ∈ l → p.2 = ov p.1) → goz P G l ov = P
  | [], _, _ => rfl
  | p :: r, ov, h => by
    rw [goz_g (h p List.mem_cons_self)]
    exact goz_all (fun q hq => h q (List.mem_cons_of_mem _ hq))
/-- what the smoothed ones must be -/
def okz (S : List Nat) (G : Nat → (Nat → Bool) → pz9) : Prop := (∀ x ov, x ∈ S → G x (flz ov x) = G x ov) ∧ ∃ H : Nat → Nat → (Nat → Bool) → pz9, (∀ x y ov, H x y ov = H y x ov) ∧ ∀ x y ov, x ∈ S → y ∈ S → x ≠ y → G x ov = skz (ov y) (G x (flz ov y)) (H x y ov)
/-- THE SKEIN RELATION AT EVERY CROSSING -/
theorem goz_sk {S : List Nat} (hG : okz S G) : ∀ (l : List (Nat × Bool)) (ov : Nat → Bool) (y : Nat), (l.map Prod.fst).Nodup → (∀ p, p ∈ l → p.1 ∈ S) → y ∈ l.map Prod.fst → goz P G l ov = skz (ov y) (goz P G l (flz ov y)) (G y ov)
  | [], _, _, _, _, h => absurd h List.not_mem_nil
  | p :: r, ov, y, hn, hS, hy => by
    obtain ⟨g1', H, g2, g3⟩ := id hG
    rw [List.map_cons, List.nodup_cons] at hn
    have hpS := hS p List.mem_cons_self
    by_cases e : p.1 = y
    · subst e
      by_cases c : p.2 = ov p.1
      · have c' : ¬ p.2 = flz ov p.1 p.1 := by
          rw [flz_at, c]
          cases ov p.1 <;> decide
        rw [goz_g c, goz_b c', flz_2, flz_at, g1' _ _ hpS, skz_bk]
      · have c' : p.2 = flz ov p.1 p.1 := by
          rw [flz_at]
          revert c
          cases p.2 <;> cases ov p.1 <;> decide
        rw [goz_b c, goz_g c']
    · have hyr : y ∈ r.map Prod.fst := by
        rw [List.map_cons] at hy
        rcases List.mem_cons.mp hy with h | h
        · exact absurd h.symm e
        · exact h
      obtain ⟨q, hq, rfl⟩ := List.mem_map.mp hyr
      have hyS := hS q (List.mem_cons_of_mem _ hq)
      have ih := fun ov => goz_sk hG r ov q.1 hn.2 (fun p hp => hS p (List.mem_cons_of_mem _ hp)) hyr
      have ep : flz ov q.1 p.1 = ov p.1 := flz_ot e
      by_cases c : p.2 = ov p.1
      · rw [goz_g c, goz_g (c.trans ep.symm)]
        exact ih ov
      · rw [goz_b c, goz_b (by rw [ep]; exact c), ih (flz ov p.1), flz_ot (Ne.symm e), ep, g3 p.1 q.1 ov hpS hyS e, skz_cm, flz_cm, g2, ← g3 q.1 p.1 ov hyS hpS (Ne.symm e)]
/-- two of them that agree once agree everywhere -/
def skA (S : List Nat) (G : Nat → (Nat → Bool) → pz9) (V : (Nat → Bool) → pz9) : Prop := ∀ ov y, y ∈ S → V ov = skz (ov y) (V (flz ov y)) (G y ov)
theorem skA_eq {V V' : (Nat → Bool) → pz9} : ∀ (S : List Nat), skA S G V → skA S G V' → ∀ ov ov0 : Nat → Bool, (∀ x, x ∉ S → ov x = ov0 x) → V ov0 = V' ov0 → V ov = V' ov
  | [], _, _, ov, ov0, h, e => by
    have : ov = ov0 := funext (fun x => h x List.not_mem_nil)
    rw [this]
    exact e
  | y :: S, h1, h2, ov, ov0, h, e => by
    have s1 : skA S G V := fun ov x hx => h1 ov x (List.mem_cons_of_mem _ hx)
    have s2 : skA S G V' := fun ov x hx => h2 ov x (List.mem_cons_of_mem _ hx)
    by_cases c : ov y = ov0 y
    · refine skA_eq S s1 s2 ov ov0 (fun x hx => ?_) e
      by_cases ex : x = y
      · rw [ex]
        exact c
      · exact h x (fun h9 => (List.mem_cons.mp h9).elim ex hx)
    · refine skA_eq S s1 s2 ov (flz ov0 y) (fun x hx => ?_) ?_
      · by_cases ex : x = y
        · rw [ex, flz_at]
          revert c
          cases ov y <;> cases ov0 y <;> decide
        · rw [flz_ot ex]
          exact h x (fun h9 => (List.mem_cons.mp h9).elim ex hx)
      · have k1 := h1 ov0 y List.mem_cons_self
        have k2 := h2 ov0 y List.mem_cons_self
        rw [e, k2] at k1
        exact (skz_inj k1).symm
end XTW1
