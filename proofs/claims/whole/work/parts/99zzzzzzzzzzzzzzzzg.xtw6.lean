/-! two: the base of a component does not matter -/
/-- the visits of y in l -/
def slz (y : Nat) (l : List tk9) : List tk9 := l.filter (fun q => decide (q.2 ≠ 2) && decide (q.1 = y))
theorem slz_a (y : Nat) (a b : List tk9) : slz y (a ++ b) = slz y a ++ slz y b := List.filter_append _ _
theorem slz_o {y : Nat} {p : tk9} {r : List tk9} (h : p.2 = 2 ∨ p.1 ≠ y) : slz y (p :: r) = slz y r := List.filter_cons_of_neg (by
  rcases h with h | h
  · simp [h]
  · simp [h])
theorem slz_y {y i : Nat} {r : List tk9} (h : i ≠ 2) : slz y ((y, i) :: r) = (y, i) :: slz y r := List.filter_cons_of_pos (by simp [h])
theorem slz_m {y : Nat} {l : List tk9} {q : tk9} : q ∈ slz y l ↔ q ∈ l ∧ q.2 ≠ 2 ∧ q.1 = y := by
  unfold slz
  rw [List.mem_filter, Bool.and_eq_true, decide_eq_true_eq, decide_eq_true_eq]
theorem slz_n {y : Nat} {l : List tk9} (h : ∀ q, q ∈ l → q.2 = 2 ∨ q.1 ≠ y) : slz y l = [] := by
  refine List.eq_nil_iff_forall_not_mem.mpr (fun q hq => ?_)
  obtain ⟨h1, h2, h3⟩ := slz_m.mp hq
  exact (h q h1).elim h2 (fun h9 => h9 h3)
theorem fv_sl {y j : Nat} : ∀ {l : List tk9}, fvz l y j ↔ (slz y l).head? = some (y, j)
  | [] => by
    constructor
    · rintro ⟨a, c, e, -⟩
      have := congrArg List.length e
      simp at this
    · intro h
      cases h
  | p :: r => by
    by_cases c : p.2 = 2 ∨ p.1 ≠ y
    · rw [slz_o c, ← fv_sl]
      constructor
      · rintro ⟨a, d, e, h2, h3⟩
        cases a with
        | nil =>
          obtain ⟨e1, -⟩ := List.cons.inj e
          rw [e1] at c
          exact c.elim (fun h9 => absurd h9 h2) (fun h9 => absurd rfl h9)
        | cons p' a => exact ⟨a, d, (List.cons.inj e).2, h2, fun q hq => h3 q (List.mem_cons_of_mem _ hq)⟩
      · rintro ⟨a, d, e, h2, h3⟩
        refine ⟨p :: a, d, by rw [e]; rfl, h2, fun q hq => ?_⟩
        rcases List.mem_cons.mp hq with h4 | h4
        · rw [h4]
          exact c
        · exact h3 q h4
    · have c1 : p.2 ≠ 2 := fun h9 => c (Or.inl h9)
      have c2 : p.1 = y := Decidable.byContradiction (fun h9 => c (Or.inr h9))
      obtain ⟨p1, i⟩ := p
      have c2 : p1 = y := c2
      subst c2
      rw [slz_y c1]
      constructor
      · intro h
        have := fv_uni h ⟨[], r, rfl, c1, fun q hq => absurd hq List.not_mem_nil⟩
        rw [this]
        rfl
      · intro h
        have h : some ((p1, i) : tk9) = some (p1, j) := h
        have := (Prod.mk.inj (Option.some.inj h)).2
        rw [← this]
        exact ⟨[], r, rfl, c1, fun q hq => absurd hq List.not_mem_nil⟩
section XTW6
variable {n : Nat} {W : wd9} {L L' P Q : List (List tk9)}
theorem gd_at {ov : Nat → Bool} {y j : Nat} (h : gdz L ov) (hj : (slz y L.flatten).head? = some (y, j)) : ov y = decide (j = 1) := h y j (fv_sl.mpr hj)
theorem gd_of {ov : Nat → Bool} (h : ∀ y j, (slz y L.flatten).head? = some (y, j) → ov y = decide (j = 1)) : gdz L ov := fun y j hj => h y j (fv_sl.mp hj)
/-- who is a visit of x in an order -/
theorem or_v {x i : Nat} {q : tk9} (h : orz n W L) (hq : q ∈ L.flatten) (h2 : q.2 ≠ 2) (hx : q.1 = x) (hi : i < 2) : q = (x, i) ∨ q = (x, 1 - i) := by
  obtain ⟨a, j⟩ := q
  have hx : a = x := hx
  subst hx
  rcases (h.2.2 _).mp hq with ⟨h3, -⟩ | ⟨h3, -⟩
  · exact absurd h3 h2
  · have h3 : j < 2 := h3
    rcases (show j = i ∨ j = 1 - i by omega) with e | e
    · exact Or.inl (by rw [e])
    · exact Or.inr (by rw [e])
theorem bs_1 {p : tk9} {r : List tk9} (ho : okw n W) (hG : okz (nmz W) (Gz n W)) (hP : ∀ x, x ∈ nmz W → PhZ n (dlz x W)) (hL : orz n W (P ++ (p :: r) :: Q)) (ov : Nat → Bool) : vlz (Gz n W) (P ++ (p :: r) :: Q) ov = vlz (Gz n W) (P ++ (r ++ [p]) :: Q) ov := by
  have hL' : orz n W (P ++ (r ++ [p]) :: Q) := orz_t (a := [p]) (b := r) hL
  have e1 : (P ++ (p :: r) :: Q).flatten = P.flatten ++ p :: (r ++ Q.flatten) := by
    rw [List.flatten_append, List.flatten_cons, List.cons_append]
  have e2 : (P ++ (r ++ [p]) :: Q).flatten = P.flatten ++ (r ++ p :: Q.flatten) := by
    rw [List.flatten_append, List.flatten_cons, List.append_assoc]
    rfl
  have el : (P ++ (r ++ [p]) :: Q).length = (P ++ (p :: r) :: Q).length := by
    rw [List.length_append, List.length_append]
    rfl
  refine vl_eq hG hL hL' (fun ov hg => ?_) ov
  rw [← el]
  have oth : ∀ y, (p.2 = 2 ∨ p.1 ≠ y) → slz y (P ++ (r ++ [p]) :: Q).flatten = slz y (P ++ (p :: r) :: Q).flatten := fun y hy => by
    rw [e1, e2, slz_a, slz_a, slz_a, slz_o hy, slz_o hy, slz_a]
  by_cases hp : p.2 = 2
  · exact vlz_g (gd_of (fun y j hj => gd_at hg (by rw [← oth y (Or.inl hp)]; exact hj)))
  · obtain ⟨x, i⟩ := p
    have hp : i ≠ 2 := hp
    have hpm : (x, i) ∈ (P ++ ((x, i) :: r) :: Q).flatten := by
      rw [e1]
      exact List.mem_append_right _ List.mem_cons_self
    have hi : i < 2 ∧ x ∈ nmz W := by
      rcases (hL.2.2 _).mp hpm with ⟨h3, -⟩ | h3
      · exact absurd h3 hp
      · exact h3
    have hnd := hL.2.1
    rw [e1] at hnd
    by_cases hm : (x, 1 - i) ∈ r
    · obtain ⟨Y, Z, rfl⟩ := spl_m hm
      obtain ⟨A, B, g, eW⟩ := nm_ex hi.2
      have ho2 := ho
      rw [eW] at ho2
      obtain ⟨hA, hB, -⟩ := okw_d ho2
      have ed : dlz x W = B ++ A := by rw [eW, dlz_e hA hB]
      have hL2 : orz n (dlz x W) (P ++ Y :: Z :: Q) := by
        rw [ed]
        have h9 := hL
        rw [eW] at h9
        exact orz_p (List.Perm.append_left _ (List.Perm.swap _ _ _)) (orz_s1 (X := []) ho2 hi.1 h9)
      have fx : slz x P.flatten = [] := slz_n (fun q hq => by
        by_cases c : q.2 = 2 ∨ q.1 ≠ x
        · exact c
        · exfalso
          have c1 : q.2 ≠ 2 := fun h9 => c (Or.inl h9)
          have c2 : q.1 = x := Decidable.byContradiction (fun h9 => c (Or.inr h9))
          have k3 := (List.nodup_append.mp hnd).2.2
          rcases or_v hL (by rw [e1]; exact List.mem_append_left _ hq) c1 c2 hi.1 with h9 | h9
          · exact k3 q hq _ List.mem_cons_self h9
          · exact k3 q hq (x, 1 - i) (List.mem_cons_of_mem _ (List.mem_append_left _ (List.mem_append_right _ List.mem_cons_self))) h9)
      have hY : slz x Y = [] := slz_n (fun q hq => by
        by_cases c : q.2 = 2 ∨ q.1 ≠ x
        · exact c
        · exfalso
          have c1 : q.2 ≠ 2 := fun h9 => c (Or.inl h9)
          have c2 : q.1 = x := Decidable.byContradiction (fun h9 => c (Or.inr h9))
          have k2 := List.nodup_cons.mp (List.nodup_append.mp hnd).2.1
          have hq2 : q ∈ (Y ++ (x, 1 - i) :: Z) ++ Q.flatten := List.mem_append_left _ (List.mem_append_left _ hq)
          rcases or_v hL (by rw [e1]; exact List.mem_append_right _ (List.mem_cons_of_mem _ hq2)) c1 c2 hi.1 with h9 | h9
          · exact k2.1 (by rw [← h9]; exact hq2)
          · exact (List.nodup_append.mp (List.nodup_append.mp k2.2).1).2.2 q hq _ List.mem_cons_self h9)
      have ox : ov x = decide (i = 1) := gd_at hg (by
        rw [e1, slz_a, fx, List.nil_append, slz_y hp]
        rfl)
      have g1' : gdz (P ++ ((Y ++ (x, 1 - i) :: Z) ++ [(x, i)]) :: Q) (flz ov x) := gd_of (fun y j hj => by
        by_cases ey : y = x
        · subst ey
          rw [e2, slz_a, fx, List.nil_append, slz_a, slz_a, hY, List.nil_append, slz_y (by omega)] at hj
          have hj : some ((y, 1 - i) : tk9) = some (y, j) := hj
          have := (Prod.mk.inj (Option.some.inj hj)).2
          rw [flz_at, ox, ← this]
          have h2 := hi.1
          rcases (show i = 0 ∨ i = 1 by omega) with rfl | rfl
          · rfl
          · rfl
        · rw [flz_ot ey]
          exact gd_at hg (by rw [← oth y (Or.inr (Ne.symm ey))]; exact hj))
      have g2 : gdz (P ++ Y :: Z :: Q) ov := gd_of (fun y j hj => by
        have ef : (P ++ Y :: Z :: Q).flatten = P.flatten ++ (Y ++ (Z ++ Q.flatten)) := by
          rw [List.flatten_append, List.flatten_cons, List.flatten_cons]
        by_cases ey : y = x
        · exfalso
          have hmem : ((y, j) : tk9) ∈ slz y (P ++ Y :: Z :: Q).flatten := List.mem_of_mem_head? hj
          obtain ⟨m1, m2, -⟩ := slz_m.mp hmem
          rcases (hL2.2.2 _).mp m1 with ⟨h3, -⟩ | ⟨-, h3⟩
          · exact m2 h3
          · exact (nm_dl.mp h3).2 ey
        · refine gd_at hg ?_
          rw [ef, slz_a, slz_a, slz_a] at hj
          rw [e1, slz_a, slz_o (Or.inr (Ne.symm ey)), slz_a, slz_a, slz_o (Or.inr (Ne.symm ey)), List.append_assoc]
          exact hj)
      have hs := vlz_sk hG hL' ov x hi.2
      rw [hs, vlz_g g1', show Gz n W x ov = Fz n (dlz x W) ov from rfl, ← hP x hi.2 _ ov hL2, vlz_g g2]
      have l1 : (P ++ Y :: Z :: Q).length - 1 = ((P ++ ((Y ++ (x, 1 - i) :: Z) ++ [(x, i)]) :: Q).length - 1) + 1 := by
        rw [List.length_append, List.length_append]
        show P.length + (Q.length + 1 + 1) - 1 = P.length + (Q.length + 1) - 1 + 1
        omega
      rw [l1, lfz_s]
      exact skz_lp _ _
    · have hr : slz x r = [] := slz_n (fun q hq => by
        by_cases c : q.2 = 2 ∨ q.1 ≠ x
        · exact c
        · exfalso
          have c1 : q.2 ≠ 2 := fun h9 => c (Or.inl h9)
          have c2 : q.1 = x := Decidable.byContradiction (fun h9 => c (Or.inr h9))
          have k2 := List.nodup_cons.mp (List.nodup_append.mp hnd).2.1
          rcases or_v hL (by rw [e1]; exact List.mem_append_right _ (List.mem_cons_of_mem _ (List.mem_append_left _ hq))) c1 c2 hi.1 with h9 | h9
          · exact k2.1 (by rw [← h9]; exact List.mem_append_left _ hq)
          · exact hm (by rw [← h9]; exact hq))
      refine vlz_g (gd_of (fun y j hj => gd_at hg ?_))
      by_cases ey : y = x
      · subst ey
        rw [e2, slz_a, slz_a, hr, List.nil_append, slz_y hp] at hj
        rw [e1, slz_a, slz_y hp, slz_a, hr, List.nil_append]
        exact hj
      · rw [← oth y (Or.inr (Ne.symm ey))]
        exact hj
/-- THE BASE DOES NOT MATTER -/
theorem bs_r (ho : okw n W) (hG : okz (nmz W) (Gz n W)) (hP : ∀ x, x ∈ nmz W → PhZ n (dlz x W)) : ∀ (a b : List tk9), orz n W (P ++ (a ++ b) :: Q) → ∀ ov, vlz (Gz n W) (P ++ (a ++ b) :: Q) ov = vlz (Gz n W) (P ++ (b ++ a) :: Q) ov
  | [], b, _, ov => by rw [List.append_nil, List.nil_append]
  | p :: a, b, hL, ov => by
    have h1 := bs_1 ho hG hP (r := a ++ b) hL ov
    have h2 : orz n W (P ++ (a ++ (b ++ [p])) :: Q) := by
      have := orz_t (a := [p]) (b := a ++ b) hL
      rw [List.append_assoc] at this
      exact this
    have h3 := bs_r ho hG hP a (b ++ [p]) h2 ov
    rw [List.append_assoc] at h1
    rw [List.append_assoc] at h3
    exact h1.trans h3
end XTW6
