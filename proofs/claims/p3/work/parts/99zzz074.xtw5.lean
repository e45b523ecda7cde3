section
/-! 99zzzzzzzzzzzzzzzzf.xtw5 -/
/-! two: the skein relation for words -/
section XTW5
variable {n : Nat} {W : wd9} {L : List (List tk9)}
theorem spl_m {α : Type} {u : α} {l : List α} (h : u ∈ l) : ∃ a b, l = a ++ u :: b := List.append_of_mem h
theorem orz_f {u : tk9} (h : orz n W L) (hu : u ∈ L.flatten) : ∃ a Q, orz n W ((u :: a) :: Q) ∧ Q.length + 1 = L.length := by
  obtain ⟨c, hc, hu2⟩ := List.mem_flatten.mp hu
  obtain ⟨P, Q, rfl⟩ := spl_m hc
  obtain ⟨a, b, rfl⟩ := spl_m hu2
  have h1 : orz n W ((a ++ u :: b) :: (P ++ Q)) := orz_p (List.perm_middle.symm) h
  have h2 := orz_t (P := []) h1
  exact ⟨b ++ a, P ++ Q, h2, by simp only [List.length_append, List.length_cons]; omega⟩
/-- two of its visits: in one component or in two -/
theorem orz_2 {u v : tk9} (h : orz n W L) (hu : u ∈ L.flatten) (hv : v ∈ L.flatten) (hne : v ≠ u) : (∃ a b Q, orz n W ((u :: (a ++ v :: b)) :: Q) ∧ Q.length + 1 = L.length) ∨ ∃ a b Q, orz n W ((u :: a) :: (v :: b) :: Q) ∧ Q.length + 2 = L.length := by
  obtain ⟨a, Q, h1, hl⟩ := orz_f h hu
  have hv1 : v ∈ ((u :: a) :: Q).flatten := (h1.2.2 v).mpr ((h.2.2 v).mp hv)
  rw [List.flatten_cons] at hv1
  rcases List.mem_append.mp hv1 with h2 | h2
  · rcases List.mem_cons.mp h2 with h3 | h3
    · exact absurd h3 hne
    · obtain ⟨c, d, rfl⟩ := spl_m h3
      exact Or.inl ⟨c, d, Q, h1, hl⟩
  · obtain ⟨c, hc, hv2⟩ := List.mem_flatten.mp h2
    obtain ⟨P, Q', rfl⟩ := spl_m hc
    obtain ⟨c, d, rfl⟩ := spl_m hv2
    have h3 : orz n W ((u :: a) :: (c ++ v :: d) :: (P ++ Q')) := orz_p (List.Perm.cons _ List.perm_middle.symm) h1
    have h4 := orz_t (P := [u :: a]) h3
    exact Or.inr ⟨a, d ++ c, P ++ Q', h4, by simp only [List.length_append, List.length_cons] at hl ⊢; omega⟩
theorem orz_dl {x : Nat} (ho : okw n W) (h : orz n W L) (hx : x ∈ nmz W) : ∃ L', orz n (dlz x W) L' := by
  obtain ⟨A, B, g, rfl⟩ := nm_ex hx
  obtain ⟨h1, h2, -⟩ := okw_d ho
  rw [dlz_e h1 h2]
  have m1 : (x, 1) ∈ L.flatten := (h.2.2 _).mpr (Or.inr ⟨by omega, hx⟩)
  have m0 : (x, 0) ∈ L.flatten := (h.2.2 _).mpr (Or.inr ⟨by omega, hx⟩)
  rcases orz_2 h m1 m0 (fun h9 => by have := (Prod.mk.inj h9).2; omega) with ⟨a, b, Q, h3, -⟩ | ⟨a, b, Q, h3, -⟩
  · exact ⟨_, orz_s1 (P := []) (X := []) (i := 1) ho (by omega) h3⟩
  · exact ⟨_, orz_s2 (P := []) (M := []) (a1 := []) (b1 := []) (i := 1) ho (by omega) h3⟩
theorem nm_0 (h : W.length = 0) : nmz W = [] := by
  rw [List.eq_nil_of_length_eq_zero h]
  rfl
/-- only the letters that are there matter -/
theorem fvl_cg : ∀ (k : Nat) (W : wd9) (ov ov' : Nat → Bool), okw n W → W.length = k → (∃ L, orz n W L) → (∀ y, y ∈ nmz W → ov y = ov' y) → fvl k n W ov = fvl k n W ov'
  | 0, W, ov, ov', _, hk, ⟨L, hL⟩, h => goz_cg (S := nmz W) (fun x hx => by rw [nm_0 hk] at hx; exact absurd hx List.not_mem_nil) _ ov ov' (fun p hp => fs_nm (orc_o hL) hp) h
  | k + 1, W, ov, ov', ho, hk, ⟨L, hL⟩, h => goz_cg (S := nmz W) (fun x hx o o' hoo => fvl_cg k (dlz x W) o o' (ok_dl ho) (by have := len_dl ho hx; omega) (orz_dl ho hL hx) (fun y hy => hoo y (nm_dl.mp hy).1)) _ ov ov' (fun p hp => fs_nm (orc_o hL) hp) h
theorem Fz_cg {ov ov' : Nat → Bool} (ho : okw n W) (hL : orz n W L) (h : ∀ y, y ∈ nmz W → ov y = ov' y) : Fz n W ov = Fz n W ov' := fvl_cg _ W ov ov' ho rfl ⟨L, hL⟩ h
theorem Fz_e {ov : Nat → Bool} (ho : okw n W) (hL : orz n W L) : Fz n W ov = vlz (Gz n W) (orc n W) ov := by
  cases hk : W.length with
  | zero =>
    unfold Fz
    rw [hk]
    exact goz_cg (S := nmz W) (fun x hx => by rw [nm_0 hk] at hx; exact absurd hx List.not_mem_nil) _ ov ov (fun p hp => fs_nm (orc_o hL) hp) (fun _ _ => rfl)
  | succ k =>
    unfold Fz
    rw [hk]
    refine goz_cg (S := nmz W) (fun x hx o o' hoo => ?_) _ ov ov (fun p hp => fs_nm (orc_o hL) hp) (fun _ _ => rfl)
    have hl : (dlz x W).length = k := by have := len_dl ho hx; omega
    unfold Gz Fz
    rw [hl]
    exact fvl_cg k (dlz x W) o o' (ok_dl ho) hl (orz_dl ho hL hx) (fun y hy => hoo y (nm_dl.mp hy).1)
/-- the skein relation, the value is one -/
def SkZ (n : Nat) (W : wd9) : Prop := skA (nmz W) (Gz n W) (Fz n W)
def PhZ (n : Nat) (W : wd9) : Prop := ∀ L ov, orz n W L → vlz (Gz n W) L ov = Fz n W ov
theorem okz_W (ho : okw n W) (hL : orz n W L) (h : ∀ x, x ∈ nmz W → SkZ n (dlz x W)) : okz (nmz W) (Gz n W) := by
  refine ⟨fun x ov hx => ?_, fun x y ov => Fz n (dlz y (dlz x W)) ov, fun x y ov => congrArg (fun V => Fz n V ov) (dlz_cm y x W), fun x y ov hx hy hne => ?_⟩
  · obtain ⟨L', hL'⟩ := orz_dl ho hL hx
    exact Fz_cg (ok_dl ho) hL' (fun y hy => flz_ot (nm_dl.mp hy).2)
  · exact h x hx ov y (nm_dl.mpr ⟨hy, Ne.symm hne⟩)
theorem vlz_sk (hG : okz (nmz W) (Gz n W)) (hL : orz n W L) : skA (nmz W) (Gz n W) (vlz (Gz n W) L) := fun ov y hy => goz_sk hG (fsz [] L.flatten) ov y fsz_nd (fun p hp => fs_nm hL hp) (nm_fs hL hy)
theorem SkZ_of (ho : okw n W) (hL : orz n W L) (hG : okz (nmz W) (Gz n W)) : SkZ n W := fun ov y hy => by
  rw [Fz_e ho hL, Fz_e ho hL]
  exact vlz_sk hG (orc_o hL) ov y hy
/-- the ones for which an order is good -/
def gdz (L : List (List tk9)) (ov : Nat → Bool) : Prop := ∀ x i, fvz L.flatten x i → ov x = decide (i = 1)
theorem vlz_g {G : Nat → (Nat → Bool) → pz9} {ov : Nat → Bool} (h : gdz L ov) : vlz G L ov = lfz (L.length - 1) := goz_all (fun p hp => by
  obtain ⟨x, b⟩ := p
  obtain ⟨-, i, h1, h2⟩ := fsz_m.mp hp
  exact h2.trans (h x i h1).symm)
theorem fv_uni {x i j : Nat} : ∀ {l : List tk9}, fvz l x i → fvz l x j → i = j
  | [], ⟨a, c, e, _⟩, _ => by
    have := congrArg List.length e
    simp at this
  | p :: r, ⟨a, c, e, h2, h3⟩, ⟨a', c', e', h2', h3'⟩ => by
    cases a with
    | nil =>
      obtain ⟨e1, -⟩ := List.cons.inj e
      cases a' with
      | nil =>
        obtain ⟨e1', -⟩ := List.cons.inj e'
        rw [e1] at e1'
        exact (Prod.mk.inj e1').2
      | cons p' a' =>
        obtain ⟨e1', -⟩ := List.cons.inj e'
        have := h3' p' List.mem_cons_self
        rw [← e1', e1] at this
        exact this.elim (fun h9 => absurd h9 h2) (fun h9 => absurd rfl h9)
    | cons p1 a =>
      obtain ⟨e1, e2⟩ := List.cons.inj e
      cases a' with
      | nil =>
        obtain ⟨e1', -⟩ := List.cons.inj e'
        have := h3 p1 List.mem_cons_self
        rw [← e1, e1'] at this
        exact this.elim (fun h9 => absurd h9 h2') (fun h9 => absurd rfl h9)
      | cons p' a' =>
        obtain ⟨-, e2'⟩ := List.cons.inj e'
        exact fv_uni ⟨a, c, e2, h2, fun q hq => h3 q (List.mem_cons_of_mem _ hq)⟩ ⟨a', c', e2', h2', fun q hq => h3' q (List.mem_cons_of_mem _ hq)⟩
/-- there is a good one that differs from a given one only at letters that are there -/
theorem gd_ex (hL : orz n W L) (ov : Nat → Bool) : ∃ ov0, gdz L ov0 ∧ ∀ x, x ∉ nmz W → ov x = ov0 x := by
  have := Classical.axiomOfChoice (r := fun (x : Nat) (b : Bool) => (∀ i, fvz L.flatten x i → b = decide (i = 1)) ∧ (x ∉ nmz W → ov x = b)) (fun x => by
    by_cases hx : x ∈ nmz W
    · obtain ⟨j, hj⟩ := fv_ex (i := 1) ((hL.2.2 (x, 1)).mpr (Or.inr ⟨by omega, hx⟩)) (by omega)
      exact ⟨decide (j = 1), fun i hi => by rw [fv_uni hi hj], fun h9 => absurd hx h9⟩
    · refine ⟨ov x, fun i hi => absurd ?_ hx, fun _ => rfl⟩
      exact fs_nm hL (p := (x, decide (i = 1))) (fsz_m.mpr ⟨List.not_mem_nil, i, hi, rfl⟩))
  obtain ⟨f, hf⟩ := this
  exact ⟨f, fun x i h => (hf x).1 i h, fun x hx => (hf x).2 hx⟩
/-- two orders whose values agree once -/
theorem vl_eq {L L' : List (List tk9)} (hG : okz (nmz W) (Gz n W)) (hL : orz n W L) (hL' : orz n W L') (h : ∀ ov, gdz L ov → vlz (Gz n W) L' ov = lfz (L.length - 1)) (ov : Nat → Bool) : vlz (Gz n W) L ov = vlz (Gz n W) L' ov := by
  obtain ⟨ov0, h1, h2⟩ := gd_ex hL ov
  exact skA_eq (nmz W) (vlz_sk hG hL) (vlz_sk hG hL') ov ov0 h2 (by rw [vlz_g h1, h ov0 h1])
end XTW5
end
section
/-! 99zzzzzzzzzzzzzzzzg.xtw6 -/
/-! two: the base of a component does not matter -/
/-- the visits of y in l -/
def slz (y : Nat) (l : List tk9) : List tk9 := l.filter (fun q => decide (q.2 ≠ 2) && decide (q.1 = y))
theorem slz_a (y : Nat) (a b : List tk9) : slz y (a ++ b) = slz y a ++ slz y b := List.filter_append _ _
theorem slz_o {y : Nat} {p : tk9} {r : List tk9} (h : p.2 = 2 ∨ p.1 ≠ y) : slz y (p :: r) = slz y r := List.filter_cons_of_neg (by
  rcases h with h | h
  · simp [h]
  · simp [h])
theorem slz_y {y i : Nat} {r : List tk9} (h : i ≠ 2) : slz y ((y, i) :: r) = (y, i) :: slz y r := List.filter_cons_of_pos (by simp [h])
theorem slz_m {y : Nat} {l : List tk9} {q : tk9} : q ∈ slz y l ↔ q ∈ l ∧ q.2 ≠ 2 ∧ q.1 = y := by
  unfold slz
  rw [List.mem_filter, Bool.and_eq_true, decide_eq_true_eq, decide_eq_true_eq]
theorem slz_n {y : Nat} {l : List tk9} (h : ∀ q, q ∈ l → q.2 = 2 ∨ q.1 ≠ y) : slz y l = [] := by
  refine List.eq_nil_iff_forall_not_mem.mpr (fun q hq => ?_)
  obtain ⟨h1, h2, h3⟩ := slz_m.mp hq
  exact (h q h1).elim h2 (fun h9 => h9 h3)
theorem fv_sl {y j : Nat} : ∀ {l : List tk9}, fvz l y j ↔ (slz y l).head? = some (y, j)
  | [] => by
    constructor
    · rintro ⟨a, c, e, -⟩
      have := congrArg List.length e
      simp at this
    · intro h
      cases h
  | p :: r => by
    by_cases c : p.2 = 2 ∨ p.1 ≠ y
    · rw [slz_o c, ← fv_sl]
      constructor
      · rintro ⟨a, d, e, h2, h3⟩
        cases a with
        | nil =>
          obtain ⟨e1, -⟩ := List.cons.inj e
          rw [e1] at c
          exact c.elim (fun h9 => absurd h9 h2) (fun h9 => absurd rfl h9)
        | cons p' a => exact ⟨a, d, (List.cons.inj e).2, h2, fun q hq => h3 q (List.mem_cons_of_mem _ hq)⟩
      · rintro ⟨a, d, e, h2, h3⟩
        refine ⟨p :: a, d, by rw [e]; rfl, h2, fun q hq => ?_⟩
        rcases List.mem_cons.mp hq with h4 | h4
        · rw [h4]
          exact c
        · exact h3 q h4
    · have c1 : p.2 ≠ 2 := fun h9 => c (Or.inl h9)
      have c2 : p.1 = y := Decidable.byContradiction (fun h9 => c (Or.inr h9))
      obtain ⟨p1, i⟩ := p
      have c2 : p1 = y := c2
      subst c2
      rw [slz_y c1]
      constructor
      · intro h
        have := fv_uni h ⟨[], r, rfl, c1, fun q hq => absurd hq List.not_mem_nil⟩
        rw [this]
        rfl
      · intro h
        have h : some ((p1, i) : tk9) = some (p1, j) := h
        have := (Prod.mk.inj (Option.some.inj h)).2
        rw [← this]
        exact ⟨[], r, rfl, c1, fun q hq => absurd hq List.not_mem_nil⟩
section XTW6
variable {n : Nat} {W : wd9} {L L' P Q : List (List tk9)}
theorem gd_at {ov : Nat → Bool} {y j : Nat} (h : gdz L ov) (hj : (slz y L.flatten).head? = some (y, j)) : ov y = decide (j = 1) := h y j (fv_sl.mpr hj)
theorem gd_of {ov : Nat → Bool} (h : ∀ y j, (slz y L.flatten).head? = some (y, j) → ov y = decide (j = 1)) : gdz L ov := fun y j hj => h y j (fv_sl.mp hj)
/-- who is a visit of x in an order -/
theorem or_v {x i : Nat} {q : tk9} (h : orz n W L) (hq : q ∈ L.flatten) (h2 : q.2 ≠ 2) (hx : q.1 = x) (hi : i < 2) : q = (x, i) ∨ q = (x, 1 - i) := by
  obtain ⟨a, j⟩ := q
  have hx : a = x := hx
  subst hx
  rcases (h.2.2 _).mp hq with ⟨h3, -⟩ | ⟨h3, -⟩
  · exact absurd h3 h2
  · have h3 : j < 2 := h3
    rcases (show j = i ∨ j = 1 - i by omega) with e | e
    · exact Or.inl (by rw [e])
    · exact Or.inr (by rw [e])
theorem bs_1 {p : tk9} {r : List tk9} (ho : okw n W) (hG : okz (nmz W) (Gz n W)) (hP : ∀ x, x ∈ nmz W → PhZ n (dlz x W)) (hL : orz n W (P ++ (p :: r) :: Q)) (ov : Nat → Bool) : vlz (Gz n W) (P ++ (p :: r) :: Q) ov = vlz (Gz n W) (P ++ (r ++ [p]) :: Q) ov := by
  have hL' : orz n W (P ++ (r ++ [p]) :: Q) := orz_t (a := [p]) (b := r) hL
  have e1 : (P ++ (p :: r) :: Q).flatten = P.flatten ++ p :: (r ++ Q.flatten) := by
    rw [List.flatten_append, List.flatten_cons, List.cons_append]
  have e2 : (P ++ (r ++ [p]) :: Q).flatten = P.flatten ++ (r ++ p :: Q.flatten) := by
    rw [List.flatten_append, List.flatten_cons, List.append_assoc]
    rfl
  have el : (P ++ (r ++ [p]) :: Q).length = (P ++ (p :: r) :: Q).length := by
    rw [List.length_append, List.length_append]
    rfl
  refine vl_eq hG hL hL' (fun ov hg => ?_) ov
  rw [← el]
  have oth : ∀ y, (p.2 = 2 ∨ p.1 ≠ y) → slz y (P ++ (r ++ [p]) :: Q).flatten = slz y (P ++ (p :: r) :: Q).flatten := fun y hy => by
    rw [e1, e2, slz_a, slz_a, slz_a, slz_o hy, slz_o hy, slz_a]
  by_cases hp : p.2 = 2
  · exact vlz_g (gd_of (fun y j hj => gd_at hg (by rw [← oth y (Or.inl hp)]; exact hj)))
  · obtain ⟨x, i⟩ := p
    have hp : i ≠ 2 := hp
    have hpm : (x, i) ∈ (P ++ ((x, i) :: r) :: Q).flatten := by
      rw [e1]
      exact List.mem_append_right _ List.mem_cons_self
    have hi : i < 2 ∧ x ∈ nmz W := by
      rcases (hL.2.2 _).mp hpm with ⟨h3, -⟩ | h3
      · exact absurd h3 hp
      · exact h3
    have hnd := hL.2.1
    rw [e1] at hnd
    by_cases hm : (x, 1 - i) ∈ r
    · obtain ⟨Y, Z, rfl⟩ := spl_m hm
      obtain ⟨A, B, g, eW⟩ := nm_ex hi.2
      have ho2 := ho
      rw [eW] at ho2
      obtain ⟨hA, hB, -⟩ := okw_d ho2
      have ed : dlz x W = B ++ A := by rw [eW, dlz_e hA hB]
      have hL2 : orz n (dlz x W) (P ++ Y :: Z :: Q) := by
        rw [ed]
        have h9 := hL
        rw [eW] at h9
        exact orz_p (List.Perm.append_left _ (List.Perm.swap _ _ _)) (orz_s1 (X := []) ho2 hi.1 h9)
      have fx : slz x P.flatten = [] := slz_n (fun q hq => by
        by_cases c : q.2 = 2 ∨ q.1 ≠ x
        · exact c
        · exfalso
          have c1 : q.2 ≠ 2 := fun h9 => c (Or.inl h9)
          have c2 : q.1 = x := Decidable.byContradiction (fun h9 => c (Or.inr h9))
          have k3 := (List.nodup_append.mp hnd).2.2
          rcases or_v hL (by rw [e1]; exact List.mem_append_left _ hq) c1 c2 hi.1 with h9 | h9
          · exact k3 q hq _ List.mem_cons_self h9
          · exact k3 q hq (x, 1 - i) (List.mem_cons_of_mem _ (List.mem_append_left _ (List.mem_append_right _ List.mem_cons_self))) h9)
      have hY : slz x Y = [] := slz_n (fun q hq => by
        by_cases c : q.2 = 2 ∨ q.1 ≠ x
        · exact c
        · exfalso
          have c1 : q.2 ≠ 2 := fun h9 => c (Or.inl h9)
          have c2 : q.1 = x := Decidable.byContradiction (fun h9 => c (Or.inr h9))
          have k2 := List.nodup_cons.mp (List.nodup_append.mp hnd).2.1
          have hq2 : q ∈ (Y ++ (x, 1 - i) :: Z) ++ Q.flatten := List.mem_append_left _ (List.mem_append_left _ hq)
          rcases or_v hL (by rw [e1]; exact List.mem_append_right _ (List.mem_cons_of_mem _ hq2)) c1 c2 hi.1 with h9 | h9
          · exact k2.1 (by rw [← h9]; exact hq2)
          · exact (List.nodup_append.mp (List.nodup_append.mp k2.2).1).2.2 q hq _ List.mem_cons_self h9)
      have ox : ov x = decide (i = 1) := gd_at hg (by
        rw [e1, slz_a, fx, List.nil_append, slz_y hp]
        rfl)
      have g1' : gdz (P ++ ((Y ++ (x, 1 - i) :: Z) ++ [(x, i)]) :: Q) (flz ov x) := gd_of (fun y j hj => by
        by_cases ey : y = x
        · subst ey
          rw [e2, slz_a, fx, List.nil_append, slz_a, slz_a, hY, List.nil_append, slz_y (by omega)] at hj
          have hj : some ((y, 1 - i) : tk9) = some (y, j) := hj
          have := (Prod.mk.inj (Option.some.inj hj)).2
          rw [flz_at, ox, ← this]
          have h2 := hi.1
          rcases (show i = 0 ∨ i = 1 by omega) with rfl | rfl
          · rfl
          · rfl
        · rw [flz_ot ey]
          exact gd_at hg (by rw [← oth y (Or.inr (Ne.symm ey))]; exact hj))
      have g2 : gdz (P ++ Y :: Z :: Q) ov := gd_of (fun y j hj => by
        have ef : (P ++ Y :: Z :: Q).flatten = P.flatten ++ (Y ++ (Z ++ Q.flatten)) := by
          rw [List.flatten_append, List.flatten_cons, List.flatten_cons]
        by_cases ey : y = x
        · exfalso
          have hmem : ((y, j) : tk9) ∈ slz y (P ++ Y :: Z :: Q).flatten := List.mem_of_mem_head? hj
          obtain ⟨m1, m2, -⟩ := slz_m.mp hmem
          rcases (hL2.2.2 _).mp m1 with ⟨h3, -⟩ | ⟨-, h3⟩
          · exact m2 h3
          · exact (nm_dl.mp h3).2 ey
        · refine gd_at hg ?_
          rw [ef, slz_a, slz_a, slz_a] at hj
          rw [e1, slz_a, slz_o (Or.inr (Ne.symm ey)), slz_a, slz_a, slz_o (Or.inr (Ne.symm ey)), List.append_assoc]
          exact hj)
      have hs := vlz_sk hG hL' ov x hi.2
      rw [hs, vlz_g g1', show Gz n W x ov = Fz n (dlz x W) ov from rfl, ← hP x hi.2 _ ov hL2, vlz_g g2]
      have l1 : (P ++ Y :: Z :: Q).length - 1 = ((P ++ ((Y ++ (x, 1 - i) :: Z) ++ [(x, i)]) :: Q).length - 1) + 1 := by
        rw [List.length_append, List.length_append]
        show P.length + (Q.length + 1 + 1) - 1 = P.length + (Q.length + 1) - 1 + 1
        omega
      rw [l1, lfz_s]
      exact skz_lp _ _
    · have hr : slz x r = [] := slz_n (fun q hq => by
        by_cases c : q.2 = 2 ∨ q.1 ≠ x
        · exact c
        · exfalso
          have c1 : q.2 ≠ 2 := fun h9 => c (Or.inl h9)
          have c2 : q.1 = x := Decidable.byContradiction (fun h9 => c (Or.inr h9))
          have k2 := List.nodup_cons.mp (List.nodup_append.mp hnd).2.1
          rcases or_v hL (by rw [e1]; exact List.mem_append_right _ (List.mem_cons_of_mem _ (List.mem_append_left _ hq))) c1 c2 hi.1 with h9 | h9
          · exact k2.1 (by rw [← h9]; exact List.mem_append_left _ hq)
          · exact hm (by rw [← h9]; exact hq))
      refine vlz_g (gd_of (fun y j hj => gd_at hg ?_))
      by_cases ey : y = x
      · subst ey
        rw [e2, slz_a, slz_a, hr, List.nil_append, slz_y hp] at hj
        rw [e1, slz_a, slz_y hp, slz_a, hr, List.nil_append]
        exact hj
      · rw [← oth y (Or.inr (Ne.symm ey))]
        exact hj
/-- THE BASE DOES NOT MATTER -/
theorem bs_r (ho : okw n W) (hG : okz (nmz W) (Gz n W)) (hP : ∀ x, x ∈ nmz W → PhZ n (dlz x W)) : ∀ (a b : List tk9), orz n W (P ++ (a ++ b) :: Q) → ∀ ov, vlz (Gz n W) (P ++ (a ++ b) :: Q) ov = vlz (Gz n W) (P ++ (b ++ a) :: Q) ov
  | [], b, _, ov => by rw [List.append_nil, List.nil_append]
  | p :: a, b, hL, ov => by
    have h1 := bs_1 ho hG hP (r := a ++ b) hL ov
    have h2 : orz n W (P ++ (a ++ (b ++ [p])) :: Q) := by
      have := orz_t (a := [p]) (b := a ++ b) hL
      rw [List.append_assoc] at this
      exact this
    have h3 := bs_r ho hG hP a (b ++ [p]) h2 ov
    rw [List.append_assoc] at h1
    rw [List.append_assoc] at h3
    exact h1.trans h3
end XTW6
end
section
/-! 99zzzzzzzzzzzzzzzzh.xtw7 -/
/-! two: names do not matter -/
theorem skR_eq {V V' : (Nat → Bool) → pz9} {G : Nat → (Nat → Bool) → pz9} {R : (Nat → Bool) → Prop} : ∀ (S : List Nat), (∀ ov y, R ov → y ∈ S → R (flz ov y)) → (∀ ov y, R ov → y ∈ S → V ov = skz (ov y) (V (flz ov y)) (G y ov)) → (∀ ov y, R ov → y ∈ S → V' ov = skz (ov y) (V' (flz ov y)) (G y ov)) → ∀ ov ov0 : Nat → Bool, R ov0 → (∀ x, x ∉ S → ov x = ov0 x) → V ov0 = V' ov0 → V ov = V' ov
  | [], _, _, _, ov, ov0, _, h, e => by
    have : ov = ov0 := funext (fun x => h x List.not_mem_nil)
    rw [this]
    exact e
  | y :: S, hR, h1, h2, ov, ov0, r0, h, e => by
    have s0 : ∀ ov x, R ov → x ∈ S → R (flz ov x) := fun ov x r hx => hR ov x r (List.mem_cons_of_mem _ hx)
    have s1 : ∀ ov x, R ov → x ∈ S → V ov = skz (ov x) (V (flz ov x)) (G x ov) := fun ov x r hx => h1 ov x r (List.mem_cons_of_mem _ hx)
    have s2 : ∀ ov x, R ov → x ∈ S → V' ov = skz (ov x) (V' (flz ov x)) (G x ov) := fun ov x r hx => h2 ov x r (List.mem_cons_of_mem _ hx)
    by_cases c : ov y = ov0 y
    · refine skR_eq S s0 s1 s2 ov ov0 r0 (fun x hx => ?_) e
      by_cases ex : x = y
      · rw [ex]
        exact c
      · exact h x (fun h9 => (List.mem_cons.mp h9).elim ex hx)
    · refine skR_eq S s0 s1 s2 ov (flz ov0 y) (hR _ _ r0 List.mem_cons_self) (fun x hx => ?_) ?_
      · by_cases ex : x = y
        · rw [ex, flz_at]
          revert c
          cases ov y <;> cases ov0 y <;> decide
        · rw [flz_ot ex]
          exact h x (fun h9 => (List.mem_cons.mp h9).elim ex hx)
      · have k1 := h1 ov0 y r0 List.mem_cons_self
        have k2 := h2 ov0 y r0 List.mem_cons_self
        rw [e, k2] at k1
        exact (skz_inj k1).symm
/-- a renaming, by a map that is its own inverse -/
def rnT (ρ : Nat → Nat) (p : tk9) : tk9 := if p.2 = 2 then p else (ρ p.1, p.2)
def rnW (ρ : Nat → Nat) (W : wd9) : wd9 := W.map (fun l => (l.1, ρ l.2))
section XTW7
variable {ρ : Nat → Nat} {n : Nat} {W : wd9} {L : List (List tk9)}
theorem rnT_m {t : Nat} : rnT ρ (t, 2) = (t, 2) := if_pos rfl
theorem rnT_v {x i : Nat} (h : i ≠ 2) : rnT ρ (x, i) = (ρ x, i) := if_neg h
theorem rnT_2 {p : tk9} : (rnT ρ p).2 = p.2 := by
  unfold rnT
  split
  · rfl
  · rfl
theorem rnT_i (hρ : ∀ x, ρ (ρ x) = x) (p : tk9) : rnT ρ (rnT ρ p) = p := by
  obtain ⟨x, i⟩ := p
  by_cases h : i = 2
  · rw [h, rnT_m, rnT_m]
  · rw [rnT_v h, rnT_v h, hρ]
theorem rnT_j (hρ : ∀ x, ρ (ρ x) = x) {p q : tk9} (h : rnT ρ p = rnT ρ q) : p = q := by
  rw [← rnT_i hρ p, h, rnT_i hρ]
theorem rz_th (hρ : ∀ x, ρ (ρ x) = x) (g x : Nat) (p : tk9) : thz g (ρ x) (rnT ρ p) = rnT ρ (thz g x p) := by
  by_cases h1 : p = (g, 2)
  · rw [h1, rnT_m, thz_1, thz_1, rnT_v (by decide)]
  · by_cases h2 : p = (g + 1, 2)
    · rw [h2, rnT_m, thz_0, thz_0, rnT_v (by decide)]
    · rw [thz_o h1 h2, thz_o (fun h9 => h1 (rnT_j hρ (h9.trans rnT_m.symm))) (fun h9 => h2 (rnT_j hρ (h9.trans rnT_m.symm)))]
theorem rz_sg (hρ : ∀ x, ρ (ρ x) = x) : ∀ (W : wd9) (p : tk9), sgm (rnW ρ W) (rnT ρ p) = rnT ρ (sgm W p)
  | [], _ => rfl
  | l :: W, p => by
    have e : rnW ρ (l :: W) = (l.1, ρ l.2) :: rnW ρ W := rfl
    rw [e]
    by_cases h1 : p = (l.2, 1)
    · rw [h1, sgm_1, rnT_m, rnT_v (by decide)]
      exact sgm_1 (l := (l.1, ρ l.2))
    · by_cases h0 : p = (l.2, 0)
      · rw [h0, sgm_0, rnT_m, rnT_v (by decide)]
        exact sgm_0 (l := (l.1, ρ l.2))
      · rw [sgm_o h1 h0, sgm_o (l := (l.1, ρ l.2)) (fun h9 => h1 (rnT_j hρ (h9.trans (rnT_v (by decide)).symm))) (fun h9 => h0 (rnT_j hρ (h9.trans (rnT_v (by decide)).symm))), rz_sg hρ W p]
        exact rz_th hρ l.1 l.2 _
theorem rz_pt (hρ : ∀ x, ρ (ρ x) = x) : ∀ {r : List tk9} {p q : tk9}, pth (sgm W) p r q → pth (sgm (rnW ρ W)) (rnT ρ p) (r.map (rnT ρ)) (rnT ρ q)
  | [], p, q, h => by
    have h : sgm W p = q := h
    show sgm (rnW ρ W) (rnT ρ p) = rnT ρ q
    rw [rz_sg hρ, h]
  | a :: r, p, q, h => ⟨by rw [rz_sg hρ, h.1], rz_pt hρ h.2⟩
theorem rz_nm : nmz (rnW ρ W) = (nmz W).map ρ := by
  unfold nmz rnW
  rw [List.map_map, List.map_map]
  rfl
theorem rz_mem (hρ : ∀ x, ρ (ρ x) = x) {x : Nat} : ρ x ∈ nmz (rnW ρ W) ↔ x ∈ nmz W := by
  rw [rz_nm]
  constructor
  · intro h
    obtain ⟨y, h1, h2⟩ := List.mem_map.mp h
    rw [← hρ x, ← h2, hρ]
    exact h1
  · intro h
    exact List.mem_map.mpr ⟨x, h, rfl⟩
theorem rz_ok (hρ : ∀ x, ρ (ρ x) = x) (h : okw n W) : okw n (rnW ρ W) := by
  refine ⟨fun l hl => ?_, ?_⟩
  · obtain ⟨l0, h1, rfl⟩ := List.mem_map.mp hl
    exact h.1 l0 h1
  · rw [rz_nm]
    exact List.Pairwise.map ρ (fun a b hab h9 => hab (by rw [← hρ a, h9, hρ])) h.2
theorem fl_mp : ∀ (L : List (List tk9)), (L.map (List.map (rnT ρ))).flatten = L.flatten.map (rnT ρ)
  | [] => rfl
  | c :: L => by
    rw [List.map_cons, List.flatten_cons, List.flatten_cons, List.map_append, fl_mp]
theorem rz_or (hρ : ∀ x, ρ (ρ x) = x) (h : orz n W L) : orz n (rnW ρ W) (L.map (List.map (rnT ρ))) := by
  refine ⟨fun c hc => ?_, ?_, fun p => ?_⟩
  · obtain ⟨c0, h1, rfl⟩ := List.mem_map.mp hc
    obtain ⟨p, r, rfl, hp⟩ := h.1 c0 h1
    exact ⟨rnT ρ p, r.map (rnT ρ), rfl, rz_pt hρ hp⟩
  · rw [fl_mp]
    exact List.Pairwise.map (rnT ρ) (fun a b hab h9 => hab (rnT_j hρ h9)) h.2.1
  · rw [fl_mp]
    have e : p ∈ L.flatten.map (rnT ρ) ↔ rnT ρ p ∈ L.flatten := by
      constructor
      · intro h9
        obtain ⟨q, h1, h2⟩ := List.mem_map.mp h9
        rw [← h2, rnT_i hρ]
        exact h1
      · intro h9
        exact List.mem_map.mpr ⟨_, h9, rnT_i hρ p⟩
    rw [e, h.2.2]
    obtain ⟨x, i⟩ := p
    by_cases hi : i = 2
    · rw [hi, rnT_m]
      exact ⟨fun h9 => h9.elim Or.inl (fun h8 => absurd h8.1 (Nat.lt_irrefl 2)), fun h9 => h9.elim Or.inl (fun h8 => absurd h8.1 (Nat.lt_irrefl 2))⟩
    · rw [rnT_v hi]
      have em : ρ x ∈ nmz W ↔ x ∈ nmz (rnW ρ W) := by
        rw [← rz_mem hρ (W := W) (x := ρ x), hρ]
      exact ⟨fun h9 => h9.elim (fun h8 => absurd h8.1 hi) (fun h8 => Or.inr ⟨h8.1, em.mp h8.2⟩), fun h9 => h9.elim (fun h8 => absurd h8.1 hi) (fun h8 => Or.inr ⟨h8.1, em.mpr h8.2⟩)⟩
theorem rz_fs (hρ : ∀ x, ρ (ρ x) = x) : ∀ (l : List tk9) (met : List Nat), fsz (met.map ρ) (l.map (rnT ρ)) = (fsz met l).map (fun p => (ρ p.1, p.2))
  | [], _ => rfl
  | p :: r, met => by
    rw [List.map_cons]
    have em : ∀ x, ρ x ∈ met.map ρ ↔ x ∈ met := fun x => by
      constructor
      · intro h
        obtain ⟨y, h1, h2⟩ := List.mem_map.mp h
        rw [← hρ x, ← h2, hρ]
        exact h1
      · intro h
        exact List.mem_map.mpr ⟨x, h, rfl⟩
    by_cases c2 : p.2 = 2
    · rw [fsz_k (Or.inl c2), fsz_k (Or.inl (rnT_2.trans c2))]
      exact rz_fs hρ r met
    · have e1 : rnT ρ p = (ρ p.1, p.2) := if_neg c2
      by_cases c : p.1 ∈ met
      · rw [fsz_k (Or.inr c), e1, fsz_k (Or.inr ((em p.1).mpr c))]
        exact rz_fs hρ r met
      · rw [fsz_f (fun h9 => h9.elim c2 c), e1, fsz_f (p := (ρ p.1, p.2)) (fun h9 => h9.elim c2 (fun h8 => c ((em p.1).mp h8))), List.map_cons]
        exact congrArg _ (rz_fs hρ r (p.1 :: met))
theorem rz_go (hρ : ∀ x, ρ (ρ x) = x) {P : pz9} {G G' : Nat → (Nat → Bool) → pz9} {S : List Nat} (hG : ∀ x, x ∈ S → ∀ o o' : Nat → Bool, (∀ y, y ∈ S → o' (ρ y) = o y) → G' (ρ x) o' = G x o) : ∀ (l : List (Nat × Bool)) (ov ov' : Nat → Bool), (∀ p, p ∈ l → p.1 ∈ S) → (∀ y, y ∈ S → ov' (ρ y) = ov y) → goz P G' (l.map (fun p => (ρ p.1, p.2))) ov' = goz P G l ov
  | [], _, _, _, _ => rfl
  | p :: r, ov, ov', hS, h => by
    have hp := hS p List.mem_cons_self
    have hr : ∀ q, q ∈ r → q.1 ∈ S := fun q hq => hS q (List.mem_cons_of_mem _ hq)
    have e1 : ov' (ρ p.1) = ov p.1 := h _ hp
    rw [List.map_cons]
    by_cases c : p.2 = ov p.1
    · rw [goz_g c, goz_g (p := (ρ p.1, p.2)) (c.trans e1.symm)]
      exact rz_go hρ hG r ov ov' hr h
    · rw [goz_b c, goz_b (p := (ρ p.1, p.2)) (fun h9 => c (h9.trans e1))]
      show skz (ov' (ρ p.1)) (goz P G' (r.map (fun p => (ρ p.1, p.2))) (flz ov' (ρ p.1))) (G' (ρ p.1) ov') = _
      rw [e1, hG p.1 hp ov ov' h, rz_go hρ hG r (flz ov p.1) (flz ov' (ρ p.1)) hr (fun y hy => ?_)]
      by_cases e : y = p.1
      · rw [e, flz_at, flz_at, e1]
      · rw [flz_ot e, flz_ot (fun h9 => e (by rw [← hρ y, h9, hρ])), h y hy]
theorem rz_dl (hρ : ∀ x, ρ (ρ x) = x) (x : Nat) : ∀ (W : wd9), dlz (ρ x) (rnW ρ W) = rnW ρ (dlz x W)
  | [] => rfl
  | l :: W => by
    have ih := rz_dl hρ x W
    unfold dlz rnW at ih ⊢
    rw [List.map_cons]
    by_cases c : l.2 = x
    · rw [List.filter_cons_of_neg (by simp [c]), List.filter_cons_of_neg (by simp [c])]
      exact ih
    · have c' : ρ l.2 ≠ ρ x := fun h9 => c (by rw [← hρ l.2, h9, hρ])
      rw [List.filter_cons_of_pos (by simp [c']), List.filter_cons_of_pos (by simp [c]), List.map_cons]
      exact congrArg _ ih
theorem rz_len : (rnW ρ W).length = W.length := List.length_map _
/-- NAMES DO NOT MATTER, where the value is one -/
theorem rz_F (hρ : ∀ x, ρ (ρ x) = x) : ∀ (k : Nat) (W : wd9) (ov ov' : Nat → Bool), W.length = k → okw n W → (∃ L, orz n W L) → (∀ V, V.length ≤ k → okw n V → PhZ n V) → (∀ y, y ∈ nmz W → ov' (ρ y) = ov y) → Fz n (rnW ρ W) ov' = Fz n W ov
  | 0, W, ov, ov', hk, ho, ⟨L, hL⟩, hP, h => by
    rw [← hP W (by omega) ho L ov hL, ← hP (rnW ρ W) (by rw [rz_len]; omega) (rz_ok hρ ho) _ ov' (rz_or hρ hL)]
    unfold vlz
    have e0 : fsz [] (L.map (List.map (rnT ρ))).flatten = (fsz [] L.flatten).map (fun p => (ρ p.1, p.2)) := by
      rw [fl_mp]
      exact rz_fs hρ L.flatten []
    rw [e0, List.length_map]
    exact rz_go hρ (S := nmz W) (fun x hx => by rw [nm_0 hk] at hx; exact absurd hx List.not_mem_nil) _ ov ov' (fun p hp => fs_nm hL hp) h
  | k + 1, W, ov, ov', hk, ho, ⟨L, hL⟩, hP, h => by
    rw [← hP W (by omega) ho L ov hL, ← hP (rnW ρ W) (by rw [rz_len]; omega) (rz_ok hρ ho) _ ov' (rz_or hρ hL)]
    unfold vlz
    have e0 : fsz [] (L.map (List.map (rnT ρ))).flatten = (fsz [] L.flatten).map (fun p => (ρ p.1, p.2)) := by
      rw [fl_mp]
      exact rz_fs hρ L.flatten []
    rw [e0, List.length_map]
    refine rz_go hρ (S := nmz W) (fun x hx o o' hoo => ?_) _ ov ov' (fun p hp => fs_nm hL hp) h
    unfold Gz
    rw [rz_dl hρ]
    exact rz_F hρ k (dlz x W) o o' (by have := len_dl ho hx; omega) (ok_dl ho) (orz_dl ho hL hx) (fun V hV => hP V (by omega)) (fun y hy => hoo y (nm_dl.mp hy).1)
end XTW7
end
section
/-! 99zzzzzzzzzzzzzzzzi.xtw8 -/
/-! two: two letters that undo each other -/
def swz (x y z : Nat) : Nat := if z = x then y else if z = y then x else z
theorem swz_1 (x y : Nat) : swz x y x = y := if_pos rfl
theorem swz_2 (x y : Nat) : swz x y y = x := by
  unfold swz
  by_cases h : y = x
  · rw [if_pos h, h]
  · rw [if_neg h, if_pos rfl]
theorem swz_o {x y z : Nat} (h1 : z ≠ x) (h2 : z ≠ y) : swz x y z = z := by
  unfold swz
  rw [if_neg h1, if_neg h2]
theorem swz_i (x y z : Nat) : swz x y (swz x y z) = z := by
  by_cases h1 : z = x
  · rw [h1, swz_1, swz_2]
  · by_cases h2 : z = y
    · rw [h2, swz_2, swz_1]
    · rw [swz_o h1 h2, swz_o h1 h2]
section XTW8
variable {n g x y : Nat} {W A B : wd9} {L L' P Q M : List (List tk9)}
theorem rnW_n : ∀ {W : wd9}, x ∉ nmz W → y ∉ nmz W → rnW (swz x y) W = W
  | [], _, _ => rfl
  | l :: W, h1, h2 => by
    have a1 : l.2 ≠ x := fun h9 => h1 (by rw [← h9]; exact List.mem_cons_self)
    have a2 : l.2 ≠ y := fun h9 => h2 (by rw [← h9]; exact List.mem_cons_self)
    have ih := rnW_n (W := W) (fun h9 => h1 (List.mem_cons_of_mem _ h9)) (fun h9 => h2 (List.mem_cons_of_mem _ h9))
    show (l.1, swz x y l.2) :: rnW (swz x y) W = l :: W
    rw [ih, swz_o a1 a2]
/-- the skein relation holds for every word -/
theorem sk_all : ∀ (k : Nat) (W : wd9), W.length = k → okw n W → (∃ L, orz n W L) → okz (nmz W) (Gz n W)
  | 0, W, hk, ho, ⟨L, hL⟩ => okz_W ho hL (fun x hx => by rw [nm_0 hk] at hx; exact absurd hx List.not_mem_nil)
  | k + 1, W, hk, ho, ⟨L, hL⟩ => okz_W ho hL (fun x hx => by
    obtain ⟨L', hL'⟩ := orz_dl ho hL hx
    exact SkZ_of (ok_dl ho) hL' (sk_all k (dlz x W) (by have := len_dl ho hx; omega) (ok_dl ho) ⟨L', hL'⟩))
theorem sk_W (ho : okw n W) (hL : orz n W L) : okz (nmz W) (Gz n W) := sk_all _ W rfl ho ⟨L, hL⟩
theorem sk_F (ho : okw n W) (hL : orz n W L) : SkZ n W := SkZ_of ho hL (sk_W ho hL)
theorem sl_nil (h : orz n W L) (hx : x ∉ nmz W) : ∀ q, q ∈ L.flatten → q.2 = 2 ∨ q.1 ≠ x := fun q hq => by
  rcases (h.2.2 q).mp hq with ⟨h1, -⟩ | ⟨-, h1⟩
  · exact Or.inl h1
  · exact Or.inr (fun h9 => hx (by rw [← h9]; exact h1))
theorem not_dec {b : Bool} {i : Nat} (hi : i < 2) (h : b ≠ decide (i = 1)) : b = decide (1 - i = 1) := by
  rcases (show i = 0 ∨ i = 1 by omega) with rfl | rfl
  · cases b
    · exact absurd rfl h
    · rfl
  · cases b
    · rfl
    · exact absurd rfl h
theorem r2_core {i : Nat} (hi : i < 2) (hxy : x ≠ y) (ho : okw n W) (ho' : okw n (B ++ A)) (hx : x ∈ nmz W) (hy : y ∈ nmz W) (hx' : x ∉ nmz (B ++ A)) (hy' : y ∉ nmz (B ++ A)) (hS : ∀ z, z ∈ nmz (B ++ A) → z ∈ nmz W) (hL : orz n W L) (hL' : orz n (B ++ A) L') (hP : PhZ n (B ++ A)) (hl : L.length = L'.length) (hs : ∀ z, z ≠ x → z ≠ y → slz z L.flatten = slz z L'.flatten) (fx : (slz x L.flatten).head? = some (x, i)) (fy : (slz y L.flatten).head? = some (y, 1 - i)) (hz : ∀ z, z ∈ nmz (B ++ A) → ∀ ov : Nat → Bool, ov x ≠ ov y → Fz n (dlz z W) ov = Fz n (dlz z (B ++ A)) ov) (hr : ∀ ov : Nat → Bool, ov x ≠ ov y → Fz n (dlz x W) ov = Fz n (dlz y W) (flz ov x)) (ov : Nat → Bool) (hov : ov x ≠ ov y) : vlz (Gz n W) L ov = Fz n (B ++ A) ov := by
  have hG := sk_W ho hL
  have hsk := vlz_sk hG hL
  obtain ⟨ov0, g0, e0⟩ := gd_ex hL' ov
  have r0 : ov0 x ≠ ov0 y := by
    rw [← e0 x hx', ← e0 y hy']
    exact hov
  have gd : ∀ o : Nat → Bool, (∀ z, z ≠ x → z ≠ y → o z = ov0 z) → o x = decide (i = 1) → o y = decide (1 - i = 1) → gdz L o := fun o h1 h2 h3 => gd_of (fun z j hj => by
    by_cases zx : z = x
    · subst zx
      rw [fx] at hj
      rw [← (Prod.mk.inj (Option.some.inj hj)).2]
      exact h2
    · by_cases zy : z = y
      · subst zy
        rw [fy] at hj
        rw [← (Prod.mk.inj (Option.some.inj hj)).2]
        exact h3
      · rw [h1 z zx zy]
        exact gd_at g0 (by rw [← hs z zx zy]; exact hj))
  have opp : ∀ o : Nat → Bool, o x ≠ o y → o x = decide (i = 1) → o y = decide (1 - i = 1) := fun o h1 h2 => not_dec hi (by rw [← h2]; exact Ne.symm h1)
  refine skR_eq (R := fun ov => ov x ≠ ov y) (G := fun z ov => Fz n (dlz z (B ++ A)) ov) (nmz (B ++ A)) (fun o z hR hz9 => ?_) (fun o z hR hz9 => ?_) (fun o z hR hz9 => ?_) ov ov0 r0 e0 ?_
  · show flz o z x ≠ flz o z y
    rw [flz_ot (fun h9 => hx' (by rw [h9]; exact hz9)), flz_ot (fun h9 => hy' (by rw [h9]; exact hz9))]
    exact hR
  · have := hsk o z (hS z hz9)
    rw [show Gz n W z o = Fz n (dlz z W) o from rfl, hz z hz9 o hR] at this
    exact this
  · exact sk_F ho' hL' o z hz9
  · have e1 : Fz n (B ++ A) ov0 = lfz (L.length - 1) := by
      rw [← hP L' ov0 hL', vlz_g g0, hl]
    rw [e1]
    by_cases c : ov0 x = decide (i = 1)
    · exact vlz_g (gd ov0 (fun _ _ _ => rfl) c (opp ov0 r0 c))
    · have cx : ov0 x = !decide (i = 1) := by
        revert c
        cases ov0 x <;> cases decide (i = 1) <;> decide
      have cy : ov0 y = decide (i = 1) := by
        revert r0 cx
        cases ov0 x <;> cases ov0 y <;> cases decide (i = 1) <;> decide
      have s1 := hsk ov0 x hx
      have s2 := hsk (flz ov0 x) y hy
      have ex : flz (flz ov0 x) y x = decide (i = 1) := by
        rw [flz_ot hxy, flz_at, cx, Bool.not_not]
      have ey : flz (flz ov0 x) y y = decide (1 - i = 1) := by
        rw [flz_at, flz_ot (Ne.symm hxy), cy]
        rcases (show i = 0 ∨ i = 1 by omega) with rfl | rfl
        · rfl
        · rfl
      have g2 := vlz_g (G := Gz n W) (gd (flz (flz ov0 x) y) (fun z h1 h2 => by rw [flz_ot h2, flz_ot h1]) ex ey)
      rw [s1, s2, g2, show Gz n W x ov0 = Fz n (dlz x W) ov0 from rfl, show Gz n W y (flz ov0 x) = Fz n (dlz y W) (flz ov0 x) from rfl, hr ov0 r0, flz_ot (Ne.symm hxy), show ov0 y = !ov0 x from by rw [cx, cy, Bool.not_not]]
      exact skz_bk _ _ _
/-- the letters x, y side by side at one place -/
theorem s2_adj (h : okw n (B ++ (g, y) :: (g, x) :: A)) : x ≠ y ∧ x ∉ nmz A ∧ y ∉ nmz A ∧ x ∉ nmz B ∧ y ∉ nmz B := by
  obtain ⟨h1, h2, h3⟩ := okw_d h
  have e : B ++ (g, x) :: A = B ++ (g, x) :: A := rfl
  obtain ⟨k1, k2, -⟩ := okw_d h3
  exact ⟨fun h9 => h1 (by rw [← h9]; exact List.mem_cons_self), k1, fun h9 => h1 (List.mem_cons_of_mem _ h9), k2, h2⟩
theorem s2_st {i : Nat} (hi : i < 2) (hxy : x ≠ y) : ∀ {B : wd9}, x ∉ nmz B → sgm (B ++ (g, y) :: (g, x) :: A) (x, i) = (y, 1 - i)
  | [], _ => by
    show sgm ((g, y) :: (g, x) :: A) (x, i) = _
    rw [sgm_o (fun h9 => hxy (Prod.mk.inj h9).1) (fun h9 => hxy (Prod.mk.inj h9).1)]
    rcases (show i = 0 ∨ i = 1 by omega) with rfl | rfl
    · rw [show sgm ((g, x) :: A) (x, 0) = (g, 2) from sgm_0 (l := (g, x))]
      exact thz_1 g y
    · rw [show sgm ((g, x) :: A) (x, 1) = (g + 1, 2) from sgm_1 (l := (g, x))]
      exact thz_0 g y
  | l :: B, hx => by
    have hl : x ≠ l.2 := fun h9 => hx (by rw [h9]; exact List.mem_cons_self)
    show sgm (l :: (B ++ (g, y) :: (g, x) :: A)) (x, i) = _
    rw [sgm_o (fun h9 => hl (Prod.mk.inj h9).1) (fun h9 => hl (Prod.mk.inj h9).1), s2_st hi hxy (fun h9 => hx (List.mem_cons_of_mem _ h9))]
    exact thz_v (show 1 - i ≠ 2 by omega)
end XTW8
end
section
/-! 99zzzzzzzzzzzzzzzzj.xtw9 -/
/-! two: two letters that undo each other, all orders -/
section XTW9
variable {n g x y : Nat} {W A B : wd9} {L L' P Q M : List (List tk9)}
theorem dlz_a (x : Nat) (B A : wd9) : dlz x (B ++ A) = dlz x B ++ dlz x A := List.filter_append _ _
theorem dlz_c {l : Nat × Nat} (h : l.2 ≠ x) : dlz x (l :: A) = l :: dlz x A := List.filter_cons_of_pos (by simp [h])
theorem dlz_x : dlz x ((g, x) :: A) = dlz x A := List.filter_cons_of_neg (by simp)
/-- turned so that x comes first -/
theorem hd_x {i : Nat} {a b : List tk9} (hi : i < 2) (ho : okw n (B ++ (g, y) :: (g, x) :: A)) (hP : ∀ z, z ∈ nmz (B ++ (g, y) :: (g, x) :: A) → PhZ n (dlz z (B ++ (g, y) :: (g, x) :: A))) (hL : orz n (B ++ (g, y) :: (g, x) :: A) (P ++ (a ++ (x, i) :: b) :: Q)) : ∃ c, orz n (B ++ (g, y) :: (g, x) :: A) (P ++ ((x, i) :: (y, 1 - i) :: c) :: Q) ∧ ∀ ov, vlz (Gz n (B ++ (g, y) :: (g, x) :: A)) (P ++ (a ++ (x, i) :: b) :: Q) ov = vlz (Gz n (B ++ (g, y) :: (g, x) :: A)) (P ++ ((x, i) :: (y, 1 - i) :: c) :: Q) ov := by
  obtain ⟨hxy, -, -, hB, -⟩ := s2_adj ho
  have h1 := orz_t hL
  have h2 := bs_r ho (sk_W ho hL) hP a ((x, i) :: b) hL
  have h3 := h1.1 _ (List.mem_append_right P List.mem_cons_self)
  have es : sgm (B ++ (g, y) :: (g, x) :: A) (x, i) = (y, 1 - i) := s2_st hi hxy hB
  rw [List.cons_append] at h1 h2 h3
  generalize b ++ a = c at h1 h2 h3
  obtain ⟨p, r, e, hp⟩ := h3
  obtain ⟨rfl, rfl⟩ := List.cons.inj e
  cases c with
  | nil =>
    have h9 : sgm (B ++ (g, y) :: (g, x) :: A) (x, i) = (x, i) := hp
    rw [es] at h9
    exact absurd (Prod.mk.inj h9).1.symm hxy
  | cons t c =>
    have h9 : sgm (B ++ (g, y) :: (g, x) :: A) (x, i) = t := hp.1
    rw [es] at h9
    subst h9
    exact ⟨c, h1, h2⟩
theorem r2_V : ∀ (k : Nat) (B A : wd9) (L : List (List tk9)), (B ++ (g, y) :: (g, x) :: A).length = k → okw n (B ++ (g, y) :: (g, x) :: A) → orz n (B ++ (g, y) :: (g, x) :: A) L → (∀ V, V.length < k → okw n V → PhZ n V) → ∀ ov : Nat → Bool, ov x ≠ ov y → vlz (Gz n (B ++ (g, y) :: (g, x) :: A)) L ov = Fz n (B ++ A) ov
  | 0, B, A, L, hk, _, _, _, _, _ => by
    rw [List.length_append] at hk
    simp at hk
  | k + 1, B, A, L, hk, ho, hL, hP, ov, hov => by
    obtain ⟨hxy, hxA, hyA, hxB, hyB⟩ := s2_adj ho
    have hyx := Ne.symm hxy
    have el : (B ++ A).length + 2 = k + 1 := by
      rw [← hk, List.length_append, List.length_append, List.length_cons, List.length_cons]
      omega
    have dx : dlz x (B ++ (g, y) :: (g, x) :: A) = B ++ (g, y) :: A := by
      rw [dlz_a, dlz_c (show (g, y).2 ≠ x from hyx), dlz_x, dlz_n hxA, dlz_n hxB]
    have dy : dlz y (B ++ (g, y) :: (g, x) :: A) = B ++ (g, x) :: A := by
      rw [dlz_a, dlz_x, dlz_c (show (g, x).2 ≠ y from hxy), dlz_n hyA, dlz_n hyB]
    have mx : x ∈ nmz (B ++ (g, y) :: (g, x) :: A) := by
      rw [nm_a]
      exact List.mem_append_right _ (List.mem_cons_of_mem _ List.mem_cons_self)
    have my : y ∈ nmz (B ++ (g, y) :: (g, x) :: A) := by
      rw [nm_a]
      exact List.mem_append_right _ List.mem_cons_self
    have hx' : x ∉ nmz (B ++ A) := fun h9 => by
      rw [nm_a] at h9
      exact (List.mem_append.mp h9).elim hxB hxA
    have hy' : y ∉ nmz (B ++ A) := fun h9 => by
      rw [nm_a] at h9
      exact (List.mem_append.mp h9).elim hyB hyA
    have hS : ∀ z, z ∈ nmz (B ++ A) → z ∈ nmz (B ++ (g, y) :: (g, x) :: A) := fun z hz => by
      rw [nm_a] at hz ⊢
      rcases List.mem_append.mp hz with h9 | h9
      · exact List.mem_append_left _ h9
      · exact List.mem_append_right _ (List.mem_cons_of_mem _ (List.mem_cons_of_mem _ h9))
    have hoB : okw n (B ++ A) := by
      have h9 := ok_dl (x := x) (ok_dl (x := y) ho)
      rw [dy, dlz_a, dlz_x, dlz_n hxA, dlz_n hxB] at h9
      exact h9
    have hPd : ∀ z, z ∈ nmz (B ++ (g, y) :: (g, x) :: A) → PhZ n (dlz z (B ++ (g, y) :: (g, x) :: A)) := fun z hz => hP _ (by rw [← hk]; exact dlz_lt hz) (ok_dl ho)
    have hz : ∀ z, z ∈ nmz (B ++ A) → ∀ ov : Nat → Bool, ov x ≠ ov y → Fz n (dlz z (B ++ (g, y) :: (g, x) :: A)) ov = Fz n (dlz z (B ++ A)) ov := fun z hz9 o hoo => by
      have zx : x ≠ z := fun h9 => hx' (by rw [h9]; exact hz9)
      have zy : y ≠ z := fun h9 => hy' (by rw [h9]; exact hz9)
      obtain ⟨Lz, hLz⟩ := orz_dl ho hL (hS z hz9)
      have hl := len_dl ho (hS z hz9)
      have hoz := ok_dl (x := z) ho
      rw [← hPd z (hS z hz9) Lz o hLz]
      have ed : dlz z (B ++ (g, y) :: (g, x) :: A) = dlz z B ++ (g, y) :: (g, x) :: dlz z A := by
        rw [dlz_a, dlz_c (show (g, y).2 ≠ z from zy), dlz_c (show (g, x).2 ≠ z from zx)]
      rw [ed] at hLz hl hoz ⊢
      rw [r2_V k (dlz z B) (dlz z A) Lz (by omega) hoz hLz (fun V hV => hP V (by omega)) o hoo, ← dlz_a]
    have hr : ∀ ov : Nat → Bool, ov x ≠ ov y → Fz n (dlz x (B ++ (g, y) :: (g, x) :: A)) ov = Fz n (dlz y (B ++ (g, y) :: (g, x) :: A)) (flz ov x) := fun o hoo => by
      have hl := len_dl ho mx
      have hox := ok_dl (x := x) ho
      obtain ⟨Lx, hLx⟩ := orz_dl ho hL mx
      rw [dx] at hl hox hLx
      have er : rnW (swz x y) (B ++ (g, y) :: A) = B ++ (g, x) :: A := by
        have e1 : rnW (swz x y) (B ++ (g, y) :: A) = rnW (swz x y) B ++ (g, swz x y y) :: rnW (swz x y) A := List.map_append
        rw [e1, rnW_n hxB hyB, rnW_n hxA hyA, swz_2]
      rw [dx, dy, ← er]
      refine (rz_F (swz_i x y) k (B ++ (g, y) :: A) o (flz o x) (by omega) hox ⟨Lx, hLx⟩ (fun V hV => hP V (by omega)) (fun z hz9 => ?_)).symm
      by_cases zy : z = y
      · rw [zy, swz_2, flz_at]
        revert hoo
        cases o x <;> cases o y <;> decide
      · have zx : z ≠ x := fun h9 => by
          rw [h9, nm_a] at hz9
          rcases List.mem_append.mp hz9 with h8 | h8
          · exact hxB h8
          · rcases List.mem_cons.mp h8 with h7 | h7
            · exact hxy h7
            · exact hxA h7
        rw [swz_o zx zy, flz_ot zx]
    have core := fun (i : Nat) (hi : i < 2) (L L' : List (List tk9)) (q1 : orz n (B ++ (g, y) :: (g, x) :: A) L) (q2 : orz n (B ++ A) L') (q3 : L.length = L'.length) (q4 : ∀ z, z ≠ x → z ≠ y → slz z L.flatten = slz z L'.flatten) (q5 : (slz x L.flatten).head? = some (x, i)) (q6 : (slz y L.flatten).head? = some (y, 1 - i)) => r2_core hi hxy ho hoB mx my hx' hy' hS q1 q2 (hP _ (by omega) hoB) q3 q4 q5 q6 hz hr ov hov
    have eW : B ++ (g, y) :: (g, x) :: A = (B ++ [(g, y)]) ++ (g, x) :: A := by
      rw [List.append_assoc]
      rfl
    have eV : (B ++ [(g, y)]) ++ A = B ++ (g, y) :: A := by
      rw [List.append_assoc]
      rfl
    have ho2 := ho
    rw [eW] at ho2
    have hox := ok_dl (x := x) ho
    rw [dx] at hox
    -- both in different components
    have two : ∀ (i : Nat) (P M Q : List (List tk9)) (a b : List tk9), i < 2 → orz n (B ++ (g, y) :: (g, x) :: A) (P ++ ((x, i) :: (y, 1 - i) :: a) :: (M ++ ((x, 1 - i) :: (y, 1 - (1 - i)) :: b) :: Q)) → vlz (Gz n (B ++ (g, y) :: (g, x) :: A)) (P ++ ((x, i) :: (y, 1 - i) :: a) :: (M ++ ((x, 1 - i) :: (y, 1 - (1 - i)) :: b) :: Q)) ov = Fz n (B ++ A) ov := by
      intro i P M Q a b hi hLL
      have h9 := hLL
      rw [eW] at h9
      have k1 := orz_s2 (a1 := []) (b1 := []) ho2 hi h9
      rw [eV, List.nil_append, List.nil_append, List.cons_append] at k1
      rw [show 1 - (1 - i) = i by omega] at k1
      have k2 := orz_s1 (X := []) hox hi k1
      have k3 : orz n (B ++ A) (P ++ a :: (M ++ b :: Q)) := orz_p (List.Perm.append_left _ (List.Perm.cons _ List.perm_middle)) k2
      have nx : slz x P.flatten = [] := slz_n (fun q hq => sl_nil k3 hx' q (by rw [List.flatten_append]; exact List.mem_append_left _ hq))
      have ny : slz y P.flatten = [] := slz_n (fun q hq => sl_nil k3 hy' q (by rw [List.flatten_append]; exact List.mem_append_left _ hq))
      refine core i hi _ _ hLL k3 ?_ (fun z zx zy => ?_) ?_ ?_
      · simp only [List.length_append, List.length_cons]
      · have ox : ∀ i r, slz z ((x, i) :: r) = slz z r := fun i r => slz_o (Or.inr (Ne.symm zx))
        have oy : ∀ i r, slz z ((y, i) :: r) = slz z r := fun i r => slz_o (Or.inr (Ne.symm zy))
        simp only [List.flatten_append, List.flatten_cons, slz_a, ox, oy]
      · rw [List.flatten_append, List.flatten_cons, slz_a, nx, List.nil_append, slz_a, slz_y (by omega)]
        rfl
      · rw [List.flatten_append, List.flatten_cons, slz_a, ny, List.nil_append, slz_a, slz_o (Or.inr hxy), slz_y (by omega)]
        rfl
    have m1 : (x, 1) ∈ L.flatten := (hL.2.2 _).mpr (Or.inr ⟨by omega, mx⟩)
    obtain ⟨c, hc, hu⟩ := List.mem_flatten.mp m1
    obtain ⟨P, Q, rfl⟩ := spl_m hc
    obtain ⟨a, b, rfl⟩ := spl_m hu
    obtain ⟨c, hL1, hv1⟩ := hd_x (by omega) ho hPd hL
    rw [hv1 ov]
    have m0 : (x, 0) ∈ (P ++ ((x, 1) :: (y, 1 - 1) :: c) :: Q).flatten := (hL1.2.2 _).mpr (Or.inr ⟨by omega, mx⟩)
    rw [List.flatten_append, List.flatten_cons] at m0
    rcases List.mem_append.mp m0 with h1 | h1
    · obtain ⟨d, hd, hd2⟩ := List.mem_flatten.mp h1
      obtain ⟨P1, M, rfl⟩ := spl_m hd
      obtain ⟨a', b', rfl⟩ := spl_m hd2
      rw [List.append_assoc, List.cons_append] at hL1 ⊢
      obtain ⟨d, hL2, hv2⟩ := hd_x (i := 0) (by omega) ho hPd hL1
      rw [hv2 ov]
      exact two 0 P1 M Q d c (by omega) hL2
    · rcases List.mem_append.mp h1 with h2 | h2
      · have h3 : (x, 0) ∈ c := by
          rcases List.mem_cons.mp h2 with h4 | h4
          · exact absurd (Prod.mk.inj h4).2 (by decide)
          · rcases List.mem_cons.mp h4 with h5 | h5
            · exact absurd (Prod.mk.inj h5).1 hxy
            · exact h5
        obtain ⟨d, e, rfl⟩ := spl_m h3
        have hcy := hL1.1 _ (List.mem_append_right P List.mem_cons_self)
        obtain ⟨p, r, e1, hp⟩ := hcy
        obtain ⟨rfl, rfl⟩ := List.cons.inj e1
        have hp2 := (pth_a.mp hp.2).2
        have es : sgm (B ++ (g, y) :: (g, x) :: A) (x, 0) = (y, 1 - 0) := s2_st (by omega) hxy hxB
        cases e with
        | nil =>
          have h9 : sgm (B ++ (g, y) :: (g, x) :: A) (x, 0) = (x, 1) := hp2
          rw [es] at h9
          exact absurd (Prod.mk.inj h9).1.symm hxy
        | cons t e =>
          have h9 : sgm (B ++ (g, y) :: (g, x) :: A) (x, 0) = t := hp2.1
          rw [es] at h9
          subst h9
          have h9 := hL1
          rw [eW] at h9
          have k1 := orz_s1 (X := []) (Y := (y, 1 - 1) :: d) (Z := (y, 1 - 0) :: e) (i := 1) ho2 (by omega) h9
          rw [eV, List.nil_append] at k1
          have k2 := orz_s2 (M := []) (a1 := []) (b1 := []) (i := 1) hox (by omega) k1
          rw [List.nil_append, List.nil_append, List.nil_append] at k2
          have nx : slz x P.flatten = [] := slz_n (fun q hq => sl_nil k2 hx' q (by rw [List.flatten_append]; exact List.mem_append_left _ hq))
          have ny : slz y P.flatten = [] := slz_n (fun q hq => sl_nil k2 hy' q (by rw [List.flatten_append]; exact List.mem_append_left _ hq))
          refine core 1 (by omega) _ _ hL1 k2 ?_ (fun z zx zy => ?_) ?_ ?_
          · simp only [List.length_append, List.length_cons]
          · have ox : ∀ i r, slz z ((x, i) :: r) = slz z r := fun i r => slz_o (Or.inr (Ne.symm zx))
            have oy : ∀ i r, slz z ((y, i) :: r) = slz z r := fun i r => slz_o (Or.inr (Ne.symm zy))
            simp only [List.flatten_append, List.flatten_cons, slz_a, ox, oy]
          · rw [List.flatten_append, List.flatten_cons, slz_a, nx, List.nil_append, slz_a, slz_y (by omega)]
            rfl
          · rw [List.flatten_append, List.flatten_cons, slz_a, ny, List.nil_append, slz_a, slz_o (Or.inr hxy), slz_y (by omega)]
            rfl
      · obtain ⟨d, hd, hd2⟩ := List.mem_flatten.mp h2
        obtain ⟨M, Q1, rfl⟩ := spl_m hd
        obtain ⟨a', b', rfl⟩ := spl_m hd2
        have e9 : ∀ T, P ++ ((x, 1) :: (y, 1 - 1) :: c) :: (M ++ T :: Q1) = (P ++ ((x, 1) :: (y, 1 - 1) :: c) :: M) ++ T :: Q1 := fun T => by
          rw [List.append_assoc]
          rfl
        rw [e9] at hL1 ⊢
        obtain ⟨d, hL2, hv2⟩ := hd_x (i := 0) (by omega) ho hPd hL1
        rw [hv2 ov]
        rw [← e9] at hL2 ⊢
        exact two 1 P M Q1 c d (by omega) hL2
end XTW9
end
section
/-! 99zzzzzzzzzzzzzzzzk.xtwa -/
/-! two: a track that no letter touches; a track that one letter touches -/
section XTWA
variable {n g x : Nat} {W A B : wd9} {L L' P Q : List (List tk9)}
theorem fs_mk {t : Nat} : ∀ {a b : List tk9} {met : List Nat}, fsz met (a ++ (t, 2) :: b) = fsz met (a ++ b)
  | [], b, met => fsz_k (Or.inl rfl)
  | p :: a, b, met => by
    rw [List.cons_append, List.cons_append]
    by_cases c : p.2 = 2 ∨ p.1 ∈ met
    · rw [fsz_k c, fsz_k c]
      exact fs_mk
    · rw [fsz_f c, fsz_f c, fs_mk]
theorem go_cr {P : pz9} {G G' : Nat → (Nat → Bool) → pz9} {S : List Nat} (hG : ∀ x, x ∈ S → ∀ o, G' x o = crz (G x o)) : ∀ (l : List (Nat × Bool)) (ov : Nat → Bool), (∀ p, p ∈ l → p.1 ∈ S) → goz (crz P) G' l ov = crz (goz P G l ov)
  | [], _, _ => rfl
  | p :: r, ov, hS => by
    have hr : ∀ q, q ∈ r → q.1 ∈ S := fun q hq => hS q (List.mem_cons_of_mem _ hq)
    by_cases c : p.2 = ov p.1
    · rw [goz_g c, goz_g c]
      exact go_cr hG r ov hr
    · rw [goz_b c, goz_b c, hG p.1 (hS p List.mem_cons_self), go_cr hG r _ hr, crz_sk]
theorem sg_fix : ∀ {W : wd9}, (∀ l, l ∈ W → l.1 + 1 < n) → sgm W (n, 2) = (n, 2)
  | [], _ => rfl
  | l :: W, h => by
    have hl := h l List.mem_cons_self
    rw [sgm_o (fun h9 => by have := (Prod.mk.inj h9).2; omega) (fun h9 => by have := (Prod.mk.inj h9).2; omega), sg_fix (fun m hm => h m (List.mem_cons_of_mem _ hm))]
    exact thz_o (fun h9 => by have := (Prod.mk.inj h9).1; omega) (fun h9 => by have := (Prod.mk.inj h9).1; omega)
/-- the track's own component -/
theorem or_c1 (ho : okw n W) (hL : orz (n + 1) W L) : ∃ P Q, L = P ++ [(n, 2)] :: Q := by
  have m : (n, 2) ∈ L.flatten := (hL.2.2 _).mpr (Or.inl ⟨rfl, by show n < n + 1; omega⟩)
  obtain ⟨c, hc, hu⟩ := List.mem_flatten.mp m
  obtain ⟨P, Q, rfl⟩ := spl_m hc
  obtain ⟨a, b, rfl⟩ := spl_m hu
  refine ⟨P, Q, ?_⟩
  have h1 := orz_t hL
  obtain ⟨p, r, e, hp⟩ := h1.1 _ (List.mem_append_right P List.mem_cons_self)
  rw [List.cons_append] at e h1
  obtain ⟨rfl, e2⟩ := List.cons.inj e
  cases r with
  | nil =>
    obtain ⟨rfl, rfl⟩ := List.append_eq_nil_iff.mp e2
    rfl
  | cons t r =>
    exfalso
    have h2 := hp.1
    rw [sg_fix ho.1] at h2
    have hn := h1.2.1
    rw [List.flatten_append, List.flatten_cons, e2, ← h2] at hn
    have k1 := (List.nodup_append.mp (List.nodup_append.mp hn).2.1).1
    exact (List.nodup_cons.mp k1).1 List.mem_cons_self
theorem or_c2 (hL : orz (n + 1) W (P ++ [(n, 2)] :: Q)) : orz n W (P ++ Q) := by
  have hp : (P ++ [(n, 2)] :: Q).flatten.Perm ((n, 2) :: (P ++ Q).flatten) := by
    rw [List.flatten_append, List.flatten_cons, List.flatten_append]
    exact List.perm_middle
  have hn := hp.nodup_iff.mp hL.2.1
  rw [List.nodup_cons] at hn
  refine ⟨fun c hc => hL.1 c ?_, hn.2, fun p => ?_⟩
  · rcases List.mem_append.mp hc with h9 | h9
    · exact List.mem_append_left _ h9
    · exact List.mem_append_right _ (List.mem_cons_of_mem _ h9)
  · have e := hL.2.2 p
    rw [hp.mem_iff, List.mem_cons] at e
    obtain ⟨a, i⟩ := p
    constructor
    · intro h9
      rcases e.mp (Or.inr h9) with ⟨h1, h2⟩ | h1
      · refine Or.inl ⟨h1, ?_⟩
        have h1 : i = 2 := h1
        have h2 : a < n + 1 := h2
        show a < n
        rcases (show a < n ∨ a = n by omega) with h3 | h3
        · exact h3
        · exact absurd (by rw [← h3, ← h1]; exact h9) hn.1
      · exact Or.inr h1
    · intro h9
      have h8 : tkz (n + 1) W (a, i) := by
        rcases h9 with ⟨h1, h2⟩ | h1
        · have h2 : a < n := h2
          exact Or.inl ⟨h1, by show a < n + 1; omega⟩
        · exact Or.inr h1
      rcases e.mpr h8 with h1 | h1
      · exfalso
        obtain ⟨rfl, rfl⟩ := Prod.mk.inj h1
        rcases h9 with ⟨-, h2⟩ | ⟨h2, -⟩
        · exact Nat.lt_irrefl _ h2
        · exact Nat.lt_irrefl _ h2
      · exact h1
theorem cr_V (h1n : 1 ≤ n) : ∀ (k : Nat) (W : wd9) (L : List (List tk9)) (ov : Nat → Bool), W.length = k → okw n W → okw (n + 1) W → orz (n + 1) W L → (∀ V, V.length < k → okw (n + 1) V → PhZ (n + 1) V) → (∀ V, V.length ≤ k → okw n V → PhZ n V) → vlz (Gz (n + 1) W) L ov = crz (Fz n W ov) := by
  intro k
  induction k with
  | zero =>
    intro W L ov hk ho ho1 hL h1 h2
    obtain ⟨P, Q, rfl⟩ := or_c1 ho hL
    have hL2 := or_c2 hL
    rw [← h2 W (by omega) ho _ ov hL2]
    have ne : 1 ≤ (P ++ Q).length := by
      have m : (0, 2) ∈ (P ++ Q).flatten := (hL2.2.2 _).mpr (Or.inl ⟨rfl, h1n⟩)
      obtain ⟨c, hc, -⟩ := List.mem_flatten.mp m
      exact List.length_pos_of_mem hc
    unfold vlz
    have e1 : fsz [] (P ++ [(n, 2)] :: Q).flatten = fsz [] (P ++ Q).flatten := by
      rw [List.flatten_append, List.flatten_cons, List.flatten_append]
      exact fs_mk
    have e2 : (P ++ [(n, 2)] :: Q).length - 1 = ((P ++ Q).length - 1) + 1 := by
      rw [List.length_append] at ne ⊢
      rw [List.length_append, List.length_cons]
      omega
    rw [e1, e2, lfz_s]
    exact go_cr (S := nmz W) (fun x hx => by rw [nm_0 hk] at hx; exact absurd hx List.not_mem_nil) _ ov (fun p hp => fs_nm hL2 hp)
  | succ k ih =>
    intro W L ov hk ho ho1 hL h1 h2
    obtain ⟨P, Q, rfl⟩ := or_c1 ho hL
    have hL2 := or_c2 hL
    rw [← h2 W (by omega) ho _ ov hL2]
    have ne : 1 ≤ (P ++ Q).length := by
      have m : (0, 2) ∈ (P ++ Q).flatten := (hL2.2.2 _).mpr (Or.inl ⟨rfl, h1n⟩)
      obtain ⟨c, hc, -⟩ := List.mem_flatten.mp m
      exact List.length_pos_of_mem hc
    unfold vlz
    have e1 : fsz [] (P ++ [(n, 2)] :: Q).flatten = fsz [] (P ++ Q).flatten := by
      rw [List.flatten_append, List.flatten_cons, List.flatten_append]
      exact fs_mk
    have e2 : (P ++ [(n, 2)] :: Q).length - 1 = ((P ++ Q).length - 1) + 1 := by
      rw [List.length_append] at ne ⊢
      rw [List.length_append, List.length_cons]
      omega
    rw [e1, e2, lfz_s]
    refine go_cr (S := nmz W) (fun x hx o => ?_) _ ov (fun p hp => fs_nm hL2 hp)
    obtain ⟨Lx, hLx⟩ := orz_dl ho1 hL hx
    have hl := len_dl ho1 hx
    show Fz (n + 1) (dlz x W) o = crz (Fz n (dlz x W) o)
    rw [← h1 (dlz x W) (by omega) (ok_dl ho1) Lx o hLx]
    exact ih (dlz x W) Lx o (by omega) (ok_dl ho) (ok_dl ho1) hLx (fun V hV => h1 V (by omega)) (fun V hV => h2 V (by omega))
/-- one letter at the last track: a loop -/
theorem s1_st : ∀ {B : wd9}, (∀ l, l ∈ B → l.1 + 1 < g + 1) → (∀ l, l ∈ A → l.1 + 1 < g + 1) → x ∉ nmz B → sgm (B ++ (g, x) :: A) (x, 1) = (g + 1, 2) ∧ sgm (B ++ (g, x) :: A) (g + 1, 2) = (x, 0)
  | [], _, hA, _ => by
    refine ⟨sgm_1 (l := (g, x)), ?_⟩
    show sgm ((g, x) :: A) (g + 1, 2) = (x, 0)
    rw [sgm_o (fun h9 => by have := (Prod.mk.inj h9).2; omega) (fun h9 => by have := (Prod.mk.inj h9).2; omega), sg_fix hA]
    exact thz_0 g x
  | l :: B, hB, hA, hx => by
    have hl : x ≠ l.2 := fun h9 => hx (by rw [h9]; exact List.mem_cons_self)
    have hl1 := hB l List.mem_cons_self
    obtain ⟨i1, i2⟩ := s1_st (fun m hm => hB m (List.mem_cons_of_mem _ hm)) hA (fun h9 => hx (List.mem_cons_of_mem _ h9))
    constructor
    · show sgm (l :: (B ++ (g, x) :: A)) (x, 1) = _
      rw [sgm_o (fun h9 => hl (Prod.mk.inj h9).1) (fun h9 => hl (Prod.mk.inj h9).1), i1]
      exact thz_o (fun h9 => by have := (Prod.mk.inj h9).1; omega) (fun h9 => by have := (Prod.mk.inj h9).1; omega)
    · show sgm (l :: (B ++ (g, x) :: A)) (g + 1, 2) = _
      rw [sgm_o (fun h9 => by have := (Prod.mk.inj h9).2; omega) (fun h9 => by have := (Prod.mk.inj h9).2; omega), i2]
      exact thz_v (show (0 : Nat) ≠ 2 by decide)
theorem r1_V : ∀ (k : Nat) (B A : wd9) (L : List (List tk9)), (B ++ (g, x) :: A).length = k → okw (g + 1) (B ++ A) → okw (g + 2) (B ++ (g, x) :: A) → orz (g + 2) (B ++ (g, x) :: A) L → (∀ V, V.length < k → okw (g + 2) V → PhZ (g + 2) V) → (∀ V, V.length ≤ k → okw (g + 1) V → PhZ (g + 1) V) → ∀ ov : Nat → Bool, vlz (Gz (g + 2) (B ++ (g, x) :: A)) L ov = Fz (g + 1) (B ++ A) ov
  | 0, B, A, L, hk, _, _, _, _, _, _ => by
    rw [List.length_append] at hk
    simp at hk
  | k + 1, B, A, L, hk, hob, ho, hL, h1, h2, ov => by
    obtain ⟨hxA, hxB, ho2⟩ := okw_d ho
    have mx : x ∈ nmz (B ++ (g, x) :: A) := by
      rw [nm_a]
      exact List.mem_append_right _ List.mem_cons_self
    have dx : dlz x (B ++ (g, x) :: A) = B ++ A := dlz_e hxA hxB
    have hlx := len_dl ho mx
    rw [dx] at hlx
    have hx' : x ∉ nmz (B ++ A) := fun h9 => by
      rw [nm_a] at h9
      exact (List.mem_append.mp h9).elim hxB hxA
    obtain ⟨s1, s2⟩ := s1_st (x := x) (fun l hl => hob.1 l (List.mem_append_left _ hl)) (fun l hl => hob.1 l (List.mem_append_right _ hl)) hxB
    have hPd : ∀ z, z ∈ nmz (B ++ (g, x) :: A) → PhZ (g + 2) (dlz z (B ++ (g, x) :: A)) := fun z hz => h1 _ (by rw [← hk]; exact dlz_lt hz) (ok_dl ho)
    have m1 : (x, 1) ∈ L.flatten := (hL.2.2 _).mpr (Or.inr ⟨by omega, mx⟩)
    obtain ⟨c, hc, hu⟩ := List.mem_flatten.mp m1
    obtain ⟨P, Q, rfl⟩ := spl_m hc
    obtain ⟨a, b, rfl⟩ := spl_m hu
    rw [bs_r ho (sk_W ho hL) hPd a ((x, 1) :: b) hL ov]
    have hL1 := orz_t hL
    have h3 := hL1.1 _ (List.mem_append_right P List.mem_cons_self)
    rw [List.cons_append] at hL1 h3 ⊢
    generalize b ++ a = c at hL1 h3 ⊢
    obtain ⟨p, r, e, hp⟩ := h3
    obtain ⟨rfl, rfl⟩ := List.cons.inj e
    cases c with
    | nil =>
      have h9 : sgm (B ++ (g, x) :: A) (x, 1) = (x, 1) := hp
      rw [s1] at h9
      exact absurd (Prod.mk.inj h9).2 (by decide)
    | cons t c =>
      have h9 : sgm (B ++ (g, x) :: A) (x, 1) = t := hp.1
      rw [s1] at h9
      subst h9
      have hp := hp.2
      cases c with
      | nil =>
        have h9 : sgm (B ++ (g, x) :: A) (g + 1, 2) = (x, 1) := hp
        rw [s2] at h9
        exact absurd (Prod.mk.inj h9).2 (by decide)
      | cons t c =>
        have h9 : sgm (B ++ (g, x) :: A) (g + 1, 2) = t := hp.1
        rw [s2] at h9
        subst h9
        have k1 := orz_s1 (X := []) (Y := [(g + 1, 2)]) (Z := c) (i := 1) ho (by omega) hL1
        rw [List.nil_append] at k1
        have k2 : orz (g + 1) (B ++ A) (P ++ c :: Q) := by
          have e9 : P ++ c :: [(g + 1, 2)] :: Q = (P ++ [c]) ++ [(g + 1, 2)] :: Q := by
            rw [List.append_assoc]
            rfl
          rw [e9] at k1
          have := or_c2 k1
          rw [List.append_assoc] at this
          exact this
        have hG := sk_W ho hL1
        have hsk := vlz_sk hG hL1
        obtain ⟨ov0, g0, e0⟩ := gd_ex k2 ov
        have nx : slz x P.flatten = [] := slz_n (fun q hq => sl_nil k2 hx' q (by rw [List.flatten_append]; exact List.mem_append_left _ hq))
        have fx : (slz x (P ++ ((x, 1) :: (g + 1, 2) :: (x, 0) :: c) :: Q).flatten).head? = some (x, 1) := by
          rw [List.flatten_append, List.flatten_cons, slz_a, nx, List.nil_append, slz_a, slz_y (by omega)]
          rfl
        have gd9 : ∀ o : Nat → Bool, (∀ z, z ≠ x → o z = ov0 z) → o x = true → gdz (P ++ ((x, 1) :: (g + 1, 2) :: (x, 0) :: c) :: Q) o := fun o q1 q2 => gd_of (fun z j hj => by
          by_cases zx : z = x
          · subst zx
            rw [fx] at hj
            rw [← (Prod.mk.inj (Option.some.inj hj)).2, q2]
            rfl
          · rw [q1 z zx]
            refine gd_at g0 ?_
            have ox : ∀ i r, slz z ((x, i) :: r) = slz z r := fun i r => slz_o (Or.inr (Ne.symm zx))
            have om : ∀ t r, slz z ((t, 2) :: r) = slz z r := fun t r => slz_o (Or.inl rfl)
            simp only [List.flatten_append, List.flatten_cons, slz_a, ox, om] at hj ⊢
            exact hj)
        have len : (P ++ ((x, 1) :: (g + 1, 2) :: (x, 0) :: c) :: Q).length = (P ++ c :: Q).length := by
          simp only [List.length_append, List.length_cons]
        refine skR_eq (R := fun _ => True) (G := fun z ov => Fz (g + 1) (dlz z (B ++ A)) ov) (nmz (B ++ A)) (fun _ _ _ _ => trivial) (fun o z _ hz9 => ?_) (fun o z _ hz9 => ?_) ov ov0 trivial e0 ?_
        · have zx : x ≠ z := fun h9 => hx' (by rw [h9]; exact hz9)
          have mz : z ∈ nmz (B ++ (g, x) :: A) := by
            rw [nm_a] at hz9 ⊢
            rcases List.mem_append.mp hz9 with h9 | h9
            · exact List.mem_append_left _ h9
            · exact List.mem_append_right _ (List.mem_cons_of_mem _ h9)
          have := hsk o z mz
          rw [this]
          congr 1
          obtain ⟨Lz, hLz⟩ := orz_dl ho hL1 mz
          have hl := len_dl ho mz
          have hoz := ok_dl (x := z) ho
          show Fz (g + 2) (dlz z (B ++ (g, x) :: A)) o = Fz (g + 1) (dlz z (B ++ A)) o
          rw [← hPd z mz Lz o hLz]
          have ed : dlz z (B ++ (g, x) :: A) = dlz z B ++ (g, x) :: dlz z A := by
            rw [dlz_a, dlz_c (show (g, x).2 ≠ z from zx)]
          rw [ed] at hLz hl hoz ⊢
          rw [r1_V k (dlz z B) (dlz z A) Lz (by omega) (by rw [← dlz_a]; exact ok_dl hob) hoz hLz (fun V hV => h1 V (by omega)) (fun V hV => h2 V (by omega)) o, ← dlz_a]
        · exact sk_F hob k2 o z hz9
        · have e1 : Fz (g + 1) (B ++ A) ov0 = lfz ((P ++ c :: Q).length - 1) := by
            rw [← h2 (B ++ A) (by omega) hob _ ov0 k2, vlz_g g0]
          rw [e1]
          by_cases c9 : ov0 x = true
          · rw [vlz_g (gd9 ov0 (fun _ _ => rfl) c9), len]
          · have c8 : ov0 x = false := by
              revert c9
              cases ov0 x <;> decide
            rw [hsk ov0 x mx, vlz_g (gd9 (flz ov0 x) (fun z hz => flz_ot hz) (by rw [flz_at, c8]; rfl)), len, show Gz (g + 2) (B ++ (g, x) :: A) x ov0 = Fz (g + 2) (dlz x (B ++ (g, x) :: A)) ov0 from rfl, dx, ← h1 (B ++ A) (by omega) ho2 _ ov0 k1, cr_V (by omega) k (B ++ A) _ ov0 (by omega) hob ho2 k1 (fun V hV => h1 V (by omega)) (fun V hV => h2 V (by omega)), e1]
            exact skz_lp _ _
end XTWA
end
section
/-! 99zzzzzzzzzzzzzzzzl.xtwb -/
/-! two: three letters: orders on both sides -/
def t3z (x y w : Nat) (p : tk9) : tk9 := if p.2 = 1 then (if p.1 = x then (y, 1) else if p.1 = y then (x, 1) else if p.1 = w then (x, 0) else p) else if p.2 = 0 then (if p.1 = x then (w, 1) else if p.1 = w then (y, 0) else if p.1 = y then (w, 0) else p) else p
section XTWB
variable {n g x y w : Nat} {W W' A B : wd9} {L L' P Q : List (List tk9)}
theorem t3_m {t : Nat} : t3z x y w (t, 2) = (t, 2) := rfl
theorem t3_x1 : t3z x y w (x, 1) = (y, 1) := by simp [t3z]
theorem t3_y1 (h : x ≠ y) : t3z x y w (y, 1) = (x, 1) := by simp [t3z, Ne.symm h]
theorem t3_w1 (h1 : x ≠ w) (h2 : y ≠ w) : t3z x y w (w, 1) = (x, 0) := by simp [t3z, Ne.symm h1, Ne.symm h2]
theorem t3_x0 : t3z x y w (x, 0) = (w, 1) := by simp [t3z]
theorem t3_w0 (h1 : x ≠ w) : t3z x y w (w, 0) = (y, 0) := by simp [t3z, Ne.symm h1]
theorem t3_y0 (h : x ≠ y) (h2 : y ≠ w) : t3z x y w (y, 0) = (w, 0) := by simp [t3z, Ne.symm h, h2]
theorem t3_o {p : tk9} (h1 : p.1 ≠ x) (h2 : p.1 ≠ y) (h3 : p.1 ≠ w) : t3z x y w p = p := by simp [t3z, h1, h2, h3]
theorem t3_2 {p : tk9} (h : p.2 = 2) : t3z x y w p = p := by simp [t3z, h]
/-- who is one of the six -/
theorem t3_cs (p : tk9) : p = (x, 1) ∨ p = (x, 0) ∨ p = (y, 1) ∨ p = (y, 0) ∨ p = (w, 1) ∨ p = (w, 0) ∨ (nov x p ∧ nov y p ∧ nov w p) := by
  by_cases a1 : p = (x, 1)
  · exact Or.inl a1
  by_cases a2 : p = (x, 0)
  · exact Or.inr (Or.inl a2)
  by_cases a3 : p = (y, 1)
  · exact Or.inr (Or.inr (Or.inl a3))
  by_cases a4 : p = (y, 0)
  · exact Or.inr (Or.inr (Or.inr (Or.inl a4)))
  by_cases a5 : p = (w, 1)
  · exact Or.inr (Or.inr (Or.inr (Or.inr (Or.inl a5))))
  by_cases a6 : p = (w, 0)
  · exact Or.inr (Or.inr (Or.inr (Or.inr (Or.inr (Or.inl a6)))))
  exact Or.inr (Or.inr (Or.inr (Or.inr (Or.inr (Or.inr ⟨⟨a1, a2⟩, ⟨a3, a4⟩, a5, a6⟩)))))
theorem t3_n {p : tk9} (h1 : nov x p) (h2 : nov y p) (h3 : nov w p) : t3z x y w p = p := by
  obtain ⟨a, i⟩ := p
  by_cases i1 : i = 1
  · subst i1
    exact t3_o (fun h9 => h1.1 (by rw [show a = x from h9])) (fun h9 => h2.1 (by rw [show a = y from h9])) (fun h9 => h3.1 (by rw [show a = w from h9]))
  · by_cases i0 : i = 0
    · subst i0
      exact t3_o (fun h9 => h1.2 (by rw [show a = x from h9])) (fun h9 => h2.2 (by rw [show a = y from h9])) (fun h9 => h3.2 (by rw [show a = w from h9]))
    · simp [t3z, i1, i0]
theorem t3_i (hxy : x ≠ y) (hxw : x ≠ w) (hyw : y ≠ w) (p : tk9) : t3z x y w (t3z x y w p) = p := by
  rcases t3_cs (x := x) (y := y) (w := w) p with h | h | h | h | h | h | ⟨h1, h2, h3⟩
  · rw [h, t3_x1, t3_y1 hxy]
  · rw [h, t3_x0, t3_w1 hxw hyw]
  · rw [h, t3_y1 hxy, t3_x1]
  · rw [h, t3_y0 hxy hyw, t3_w0 hxw]
  · rw [h, t3_w1 hxw hyw, t3_x0]
  · rw [h, t3_w0 hxw, t3_y0 hxy hyw]
  · rw [t3_n h1 h2 h3, t3_n h1 h2 h3]
theorem t3_b (hxy : x ≠ y) (hxw : x ≠ w) (hyw : y ≠ w) {p : tk9} (h : p.2 ≠ 2) : (t3z x y w p).2 ≠ 2 := by
  rcases t3_cs (x := x) (y := y) (w := w) p with h9 | h9 | h9 | h9 | h9 | h9 | ⟨h1, h2, h3⟩
  · rw [h9, t3_x1]
    exact (by decide : (1 : Nat) ≠ 2)
  · rw [h9, t3_x0]
    exact (by decide : (1 : Nat) ≠ 2)
  · rw [h9, t3_y1 hxy]
    exact (by decide : (1 : Nat) ≠ 2)
  · rw [h9, t3_y0 hxy hyw]
    exact (by decide : (0 : Nat) ≠ 2)
  · rw [h9, t3_w1 hxw hyw]
    exact (by decide : (0 : Nat) ≠ 2)
  · rw [h9, t3_w0 hxw]
    exact (by decide : (0 : Nat) ≠ 2)
  · rw [t3_n h1 h2 h3]
    exact h
theorem mk_ne {a b i j : Nat} (h : a ≠ b) : ((a, i) : tk9) ≠ (b, j) := fun h9 => h (Prod.mk.inj h9).1
theorem t3_sg (hxy : x ≠ y) (hxw : x ≠ w) (hyw : y ≠ w) (hxA : x ∉ nmz A) (hyA : y ∉ nmz A) (hwA : w ∉ nmz A) : ∀ {B : wd9}, x ∉ nmz B → y ∉ nmz B → w ∉ nmz B → ∀ p, sgm (B ++ (g, w) :: (g + 1, y) :: (g, x) :: A) (t3z x y w p) = t3z x y w (sgm (B ++ (g + 1, x) :: (g, y) :: (g + 1, w) :: A) p)
  | [], _, _, _, p => by
    show sgm ((g, w) :: (g + 1, y) :: (g, x) :: A) (t3z x y w p) = t3z x y w (sgm ((g + 1, x) :: (g, y) :: (g + 1, w) :: A) p)
    have w1 : sgm ((g, w) :: (g + 1, y) :: (g, x) :: A) (w, 1) = (g + 1, 2) := sgm_1 (l := (g, w))
    have w0 : sgm ((g, w) :: (g + 1, y) :: (g, x) :: A) (w, 0) = (g, 2) := sgm_0 (l := (g, w))
    have n2 : ((g + 2, 2) : tk9) ≠ (g, 2) := mk_ne (by omega)
    have n3 : ((g + 2, 2) : tk9) ≠ (g + 1, 2) := mk_ne (by omega)
    have n4 : ((g, 2) : tk9) ≠ (g + 1, 2) := mk_ne (by omega)
    have n5 : ((g, 2) : tk9) ≠ (g + 1 + 1, 2) := mk_ne (by omega)
    have n6 : ((g + 1, 2) : tk9) ≠ (g, 2) := mk_ne (by omega)
    have y1 : sgm ((g, w) :: (g + 1, y) :: (g, x) :: A) (y, 1) = (g + 2, 2) := by
      rw [sgm_o (mk_ne hyw) (mk_ne hyw), show sgm ((g + 1, y) :: (g, x) :: A) (y, 1) = (g + 2, 2) from sgm_1 (l := (g + 1, y))]
      exact thz_o n2 n3
    have y0 : sgm ((g, w) :: (g + 1, y) :: (g, x) :: A) (y, 0) = (w, 0) := by
      rw [sgm_o (mk_ne hyw) (mk_ne hyw), show sgm ((g + 1, y) :: (g, x) :: A) (y, 0) = (g + 1, 2) from sgm_0 (l := (g + 1, y))]
      exact thz_0 g w
    have x1 : sgm ((g, w) :: (g + 1, y) :: (g, x) :: A) (x, 1) = (y, 1) := by
      rw [sgm_o (mk_ne hxw) (mk_ne hxw), sgm_o (mk_ne hxy) (mk_ne hxy), show sgm ((g, x) :: A) (x, 1) = (g + 1, 2) from sgm_1 (l := (g, x)), thz_1 (g + 1) y]
      exact thz_v (show (1 : Nat) ≠ 2 by decide)
    have x0 : sgm ((g, w) :: (g + 1, y) :: (g, x) :: A) (x, 0) = (w, 1) := by
      rw [sgm_o (mk_ne hxw) (mk_ne hxw), sgm_o (mk_ne hxy) (mk_ne hxy), show sgm ((g, x) :: A) (x, 0) = (g, 2) from sgm_0 (l := (g, x)), thz_o n4 n5]
      exact thz_1 g w
    have X1 : sgm ((g + 1, x) :: (g, y) :: (g + 1, w) :: A) (x, 1) = (g + 2, 2) := sgm_1 (l := (g + 1, x))
    have X0 : sgm ((g + 1, x) :: (g, y) :: (g + 1, w) :: A) (x, 0) = (g + 1, 2) := sgm_0 (l := (g + 1, x))
    have Y1 : sgm ((g + 1, x) :: (g, y) :: (g + 1, w) :: A) (y, 1) = (x, 1) := by
      rw [sgm_o (mk_ne (Ne.symm hxy)) (mk_ne (Ne.symm hxy)), show sgm ((g, y) :: (g + 1, w) :: A) (y, 1) = (g + 1, 2) from sgm_1 (l := (g, y))]
      exact thz_1 (g + 1) x
    have Y0 : sgm ((g + 1, x) :: (g, y) :: (g + 1, w) :: A) (y, 0) = (g, 2) := by
      rw [sgm_o (mk_ne (Ne.symm hxy)) (mk_ne (Ne.symm hxy)), show sgm ((g, y) :: (g + 1, w) :: A) (y, 0) = (g, 2) from sgm_0 (l := (g, y))]
      exact thz_o n4 n5
    have W1 : sgm ((g + 1, x) :: (g, y) :: (g + 1, w) :: A) (w, 1) = (x, 0) := by
      rw [sgm_o (mk_ne (Ne.symm hxw)) (mk_ne (Ne.symm hxw)), sgm_o (mk_ne (Ne.symm hyw)) (mk_ne (Ne.symm hyw)), show sgm ((g + 1, w) :: A) (w, 1) = (g + 2, 2) from sgm_1 (l := (g + 1, w)), thz_o n2 n3]
      exact thz_0 (g + 1) x
    have W0 : sgm ((g + 1, x) :: (g, y) :: (g + 1, w) :: A) (w, 0) = (y, 0) := by
      rw [sgm_o (mk_ne (Ne.symm hxw)) (mk_ne (Ne.symm hxw)), sgm_o (mk_ne (Ne.symm hyw)) (mk_ne (Ne.symm hyw)), show sgm ((g + 1, w) :: A) (w, 0) = (g + 1, 2) from sgm_0 (l := (g + 1, w)), thz_0 g y]
      exact thz_v (show (0 : Nat) ≠ 2 by decide)
    rcases t3_cs (x := x) (y := y) (w := w) p with h | h | h | h | h | h | ⟨h1, h2, h3⟩
    · rw [h, t3_x1, y1, X1, t3_m]
    · rw [h, t3_x0, w1, X0, t3_m]
    · rw [h, t3_y1 hxy, x1, Y1, t3_x1]
    · rw [h, t3_y0 hxy hyw, w0, Y0, t3_m]
    · rw [h, t3_w1 hxw hyw, x0, W1, t3_x0]
    · rw [h, t3_w0 hxw, y0, W0, t3_y0 hxy hyw]
    · rw [t3_n h1 h2 h3, sgm_o h3.1 h3.2, sgm_o h2.1 h2.2, sgm_o h1.1 h1.2, sgm_o h1.1 h1.2, sgm_o h2.1 h2.2, sgm_o h3.1 h3.2]
      have q1 := sgm_n hxA h1
      have q2 := sgm_n hyA h2
      have q3 := sgm_n hwA h3
      generalize sgm A p = q at q1 q2 q3
      show thz g w (thz (g + 1) y (thz g x q)) = t3z x y w (thz (g + 1) x (thz g y (thz (g + 1) w q)))
      by_cases c0 : q = (g, 2)
      · rw [c0, thz_1, thz_v (p := (x, 1)) (by decide : (1 : Nat) ≠ 2), thz_v (p := (x, 1)) (by decide : (1 : Nat) ≠ 2), thz_o n4 n5, thz_1, thz_v (p := (y, 1)) (by decide : (1 : Nat) ≠ 2), t3_y1 hxy]
      · by_cases c1 : q = (g + 1, 2)
        · rw [c1, thz_0, thz_v (p := (x, 0)) (by decide : (0 : Nat) ≠ 2), thz_v (p := (x, 0)) (by decide : (0 : Nat) ≠ 2), thz_1, thz_v (p := (w, 1)) (by decide : (1 : Nat) ≠ 2), thz_v (p := (w, 1)) (by decide : (1 : Nat) ≠ 2), t3_w1 hxw hyw]
        · by_cases c2 : q = (g + 1 + 1, 2)
          · rw [c2, thz_o (show ((g + 1 + 1, 2) : tk9) ≠ (g, 2) from n2) (show ((g + 1 + 1, 2) : tk9) ≠ (g + 1, 2) from n3), thz_0, thz_v (p := (y, 0)) (by decide : (0 : Nat) ≠ 2), thz_0, thz_v (p := (w, 0)) (by decide : (0 : Nat) ≠ 2), thz_v (p := (w, 0)) (by decide : (0 : Nat) ≠ 2), t3_w0 hxw]
          · rw [thz_o c0 c1, thz_o c1 c2, thz_o c0 c1, thz_o c1 c2, thz_o c0 c1, thz_o c1 c2, t3_n q1 q2 q3]
  | l :: B, hx, hy, hw, p => by
    have lx : l.2 ≠ x := fun h9 => hx (by rw [← h9]; exact List.mem_cons_self)
    have ly : l.2 ≠ y := fun h9 => hy (by rw [← h9]; exact List.mem_cons_self)
    have lw : l.2 ≠ w := fun h9 => hw (by rw [← h9]; exact List.mem_cons_self)
    have ih := t3_sg hxy hxw hyw hxA hyA hwA (fun h9 => hx (List.mem_cons_of_mem _ h9)) (fun h9 => hy (List.mem_cons_of_mem _ h9)) (fun h9 => hw (List.mem_cons_of_mem _ h9)) p
    show sgm (l :: (B ++ (g, w) :: (g + 1, y) :: (g, x) :: A)) (t3z x y w p) = t3z x y w (sgm (l :: (B ++ (g + 1, x) :: (g, y) :: (g + 1, w) :: A)) p)
    by_cases h1 : p = (l.2, 1)
    · rw [h1, t3_o (p := (l.2, 1)) lx ly lw, sgm_1, sgm_1, t3_m]
    · by_cases h0 : p = (l.2, 0)
      · rw [h0, t3_o (p := (l.2, 0)) lx ly lw, sgm_0, sgm_0, t3_m]
      · have k1 : t3z x y w p ≠ (l.2, 1) := fun h9 => h1 (by rw [← t3_i hxy hxw hyw p, h9, t3_o (p := (l.2, 1)) lx ly lw])
        have k0 : t3z x y w p ≠ (l.2, 0) := fun h9 => h0 (by rw [← t3_i hxy hxw hyw p, h9, t3_o (p := (l.2, 0)) lx ly lw])
        rw [sgm_o k1 k0, sgm_o h1 h0, ih]
        generalize sgm (B ++ (g + 1, x) :: (g, y) :: (g + 1, w) :: A) p = q
        by_cases q2 : q.2 = 2
        · rw [t3_2 q2]
          by_cases c0 : q = (l.1, 2)
          · rw [c0, thz_1, t3_o (p := (l.2, 1)) lx ly lw]
          · by_cases c1 : q = (l.1 + 1, 2)
            · rw [c1, thz_0, t3_o (p := (l.2, 0)) lx ly lw]
            · rw [thz_o c0 c1, t3_2 q2]
        · rw [thz_v q2, thz_v (t3_b hxy hxw hyw q2)]
theorem cj_pt {τ : tk9 → tk9} (hs : ∀ p, sgm W' (τ p) = τ (sgm W p)) : ∀ {r : List tk9} {p q : tk9}, pth (sgm W) p r q → pth (sgm W') (τ p) (r.map τ) (τ q)
  | [], p, q, h => by
    have h : sgm W p = q := h
    show sgm W' (τ p) = τ q
    rw [hs, h]
  | a :: r, p, q, h => ⟨by rw [hs, h.1], cj_pt hs h.2⟩
theorem cj_fl {τ : tk9 → tk9} : ∀ (L : List (List tk9)), (L.map (List.map τ)).flatten = L.flatten.map τ
  | [] => rfl
  | c :: L => by
    rw [List.map_cons, List.flatten_cons, List.flatten_cons, List.map_append, cj_fl]
theorem cj_or {τ : tk9 → tk9} (hi : ∀ p, τ (τ p) = p) (hs : ∀ p, sgm W' (τ p) = τ (sgm W p)) (ht : ∀ p, tkz n W' p ↔ tkz n W (τ p)) (h : orz n W L) : orz n W' (L.map (List.map τ)) := by
  refine ⟨fun c hc => ?_, ?_, fun p => ?_⟩
  · obtain ⟨c0, h1, rfl⟩ := List.mem_map.mp hc
    obtain ⟨p, r, rfl, hp⟩ := h.1 c0 h1
    exact ⟨τ p, r.map τ, rfl, cj_pt hs hp⟩
  · rw [cj_fl]
    exact List.Pairwise.map τ (fun a b hab h9 => hab (by rw [← hi a, h9, hi])) h.2.1
  · rw [cj_fl, ht, ← h.2.2]
    constructor
    · intro h9
      obtain ⟨q, h1, h2⟩ := List.mem_map.mp h9
      rw [← h2, hi]
      exact h1
    · intro h9
      exact List.mem_map.mpr ⟨_, h9, hi p⟩
/-- side by side within a component -/
def adz (L : List (List tk9)) (p q : tk9) : Prop := ∃ c, c ∈ L ∧ ∃ u v, c = u ++ p :: q :: v
theorem adz_k {p q : tk9} (h : adz L' p q) : ∃ k, L'.flatten[k]? = some p ∧ L'.flatten[k + 1]? = some q := by
  obtain ⟨c, hc, u, v, rfl⟩ := h
  obtain ⟨P, Q, rfl⟩ := spl_m hc
  refine ⟨P.flatten.length + u.length, ?_, ?_⟩
  · rw [List.flatten_append, List.flatten_cons, List.append_assoc, List.getElem?_append_right (by omega), List.getElem?_append_right (by omega)]
    simp
  · rw [List.flatten_append, List.flatten_cons, List.append_assoc, List.getElem?_append_right (by omega), List.getElem?_append_right (by omega), show P.flatten.length + u.length + 1 - P.flatten.length - u.length = 1 by omega]
    rfl
theorem rotA {u : tk9} (ho : okw n W) (hP : ∀ z, z ∈ nmz W → PhZ n (dlz z W)) (hL : orz n W L) (hu : u ∈ L.flatten) (hne : sgm W u ≠ u) : ∃ L', orz n W L' ∧ (∀ ov, vlz (Gz n W) L ov = vlz (Gz n W) L' ov) ∧ L'.length = L.length ∧ adz L' u (sgm W u) ∧ ∀ p q, q ≠ u → adz L p q → adz L' p q := by
  obtain ⟨c, hc, hu2⟩ := List.mem_flatten.mp hu
  obtain ⟨P, Q, rfl⟩ := spl_m hc
  obtain ⟨a, b, rfl⟩ := spl_m hu2
  have h1 := orz_t hL
  obtain ⟨p, r, e, hp⟩ := h1.1 _ (List.mem_append_right P List.mem_cons_self)
  rw [List.cons_append] at e
  obtain ⟨rfl, e2⟩ := List.cons.inj e
  cases b with
  | nil =>
    rw [List.nil_append] at e2
    refine ⟨P ++ ([u] ++ a) :: Q, h1, bs_r ho (sk_W ho hL) hP a [u] hL, by simp only [List.length_append, List.length_cons], ?_, fun p q hq ⟨c, hc, s, t, ec⟩ => ?_⟩
    · cases r with
      | nil => exact absurd hp hne
      | cons v r =>
        refine ⟨[u] ++ a, List.mem_append_right _ List.mem_cons_self, [], r, ?_⟩
        rw [e2, hp.1]
        rfl
    · rcases List.mem_append.mp hc with h9 | h9
      · exact ⟨c, List.mem_append_left _ h9, s, t, ec⟩
      · rcases List.mem_cons.mp h9 with h8 | h8
        · rw [h8] at ec
          rcases List.eq_nil_or_concat t with ht | ⟨t', b9, ht⟩
          · exfalso
            rw [ht] at ec
            have e5 : a ++ [u] = (s ++ [p]) ++ [q] := by rw [ec, List.append_assoc]; rfl
            have := List.append_inj' e5 rfl
            exact hq (List.cons.inj this.2).1.symm
          · rw [ht] at ec
            have e5 : a ++ [u] = (s ++ p :: q :: t') ++ [b9] := by rw [ec, List.concat_eq_append, List.append_assoc]; rfl
            have := List.append_inj' e5 rfl
            refine ⟨[u] ++ a, List.mem_append_right _ List.mem_cons_self, u :: s, t', ?_⟩
            rw [this.1]
            rfl
        · exact ⟨c, List.mem_append_right _ (List.mem_cons_of_mem _ h8), s, t, ec⟩
  | cons v b =>
    refine ⟨_, hL, fun _ => rfl, rfl, ⟨_, List.mem_append_right _ List.mem_cons_self, a, b, ?_⟩, fun p q _ h9 => h9⟩
    rw [← e2] at hp
    rw [show sgm W u = v from hp.1]
end XTWB
end
