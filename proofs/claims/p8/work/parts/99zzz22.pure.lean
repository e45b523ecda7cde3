section
/-! 99zzzzzzzzzzzzzzzzf.xtw5 -/
/-! two: the skein relation for words -/
section XTW5
variable {n : Nat} {W : wd9} {L : List (List tk9)}
theorem spl_m {α : Type} {u : α} {l : List α} (h : u ∈ l) : ∃ a b, l = a ++ u :: b := List.append_of_mem h
theorem orz_f {u : tk9} (h : orz n W L) (hu : u ∈ L.flatten) : ∃ a Q, orz n W ((u :: a) :: Q) ∧ Q.length + 1 = L.length := by
  obtain ⟨c, hc, hu2⟩ := List.mem_flatten.mp hu
  obtain ⟨P, Q, rfl⟩ := spl_m hc
  obtain ⟨a, b, rfl⟩ := spl_m hu2
  have h1 : orz n W ((a ++ u :: b) :: (P ++ Q)) := orz_p (List.perm_middle.symm) h
  have h2 := orz_t (P := []) h1
  exact ⟨b ++ a, P ++ Q, h2, by simp only [List.length_append, List.length_cons]; omega⟩
/-- two of its visits: in one component or in two -/
theorem orz_2 {u v : tk9} (h : orz n W L) (hu : u ∈ L.flatten) (hv : v ∈ L.flatten) (hne : v ≠ u) : (∃ a b Q, orz n W ((u :: (a ++ v :: b)) :: Q) ∧ Q.length + 1 = L.length) ∨ ∃ a b Q, orz n W ((u :: a) :: (v :: b) :: Q) ∧ Q.length + 2 = L.length := by
  obtain ⟨a, Q, h1, hl⟩ := orz_f h hu
  have hv1 : v ∈ ((u :: a) :: Q).flatten := (h1.2.2 v).mpr ((h.2.2 v).mp hv)
  rw [List.flatten_cons] at hv1
  rcases List.mem_append.mp hv1 with h2 | h2
  · rcases List.mem_cons.mp h2 with h3 | h3
    · exact absurd h3 hne
    · obtain ⟨c, d, rfl⟩ := spl_m h3
      exact Or.inl ⟨c, d, Q, h1, hl⟩
  · obtain ⟨c, hc, hv2⟩ := List.mem_flatten.mp h2
    obtain ⟨P, Q', rfl⟩ := spl_m hc
    obtain ⟨c, d, rfl⟩ := spl_m hv2
    have h3 : orz n W ((u :: a) :: (c ++ v :: d) :: (P ++ Q')) := orz_p (List.Perm.cons _ List.perm_middle.symm) h1
    have h4 := orz_t (P := [u :: a]) h3
    exact Or.inr ⟨a, d ++ c, P ++ Q', h4, by simp only [List.length_append, List.length_cons] at hl ⊢; omega⟩
theorem orz_dl {x : Nat} (ho : okw n W) (h : orz n W L) (hx : x ∈ nmz W) : ∃ L', orz n (dlz x W) L' := by
  obtain ⟨A, B, g, rfl⟩ := nm_ex hx
  obtain ⟨h1, h2, -⟩ := okw_d ho
  rw [dlz_e h1 h2]
  have m1 : (x, 1) ∈ L.flatten := (h.2.2 _).mpr (Or.inr ⟨by omega, hx⟩)
  have m0 : (x, 0) ∈ L.flatten := (h.2.2 _).mpr (Or.inr ⟨by omega, hx⟩)
  rcases orz_2 h m1 m0 (fun h9 => by have := (Prod.mk.inj h9).2; omega) with ⟨a, b, Q, h3, -⟩ | ⟨a, b, Q, h3, -⟩
  · exact ⟨_, orz_s1 (P := []) (X := []) (i := 1) ho (by omega) h3⟩
  · exact ⟨_, orz_s2 (P := []) (M := []) (a1 := []) (b1 := []) (i := 1) ho (by omega) h3⟩
theorem nm_0 (h : W.length = 0) : nmz W = [] := by
  rw [List.eq_nil_of_length_eq_zero h]
  rfl
/-- only the letters that are there matter -/
theorem fvl_cg : ∀ (k : Nat) (W : wd9) (ov ov' : Nat → Bool), okw n W → W.length = k → (∃ L, orz n W L) → (∀ y, y ∈ nmz W → ov y = ov' y) → fvl k n W ov = fvl k n W ov'
  | 0, W, ov, ov', _, hk, ⟨L, hL⟩, h => goz_cg (S := nmz W) (fun x hx => by rw [nm_0 hk] at hx; exact absurd hx List.not_mem_nil) _ ov ov' (fun p hp => fs_nm (orc_o hL) hp) h
  | k + 1, W, ov, ov', ho, hk, ⟨L, hL⟩, h => goz_cg (S := nmz W) (fun x hx o o' hoo => fvl_cg k (dlz x W) o o' (ok_dl ho) (by have := len_dl ho hx; omega) (orz_dl ho hL hx) (fun y hy => hoo y (nm_dl.mp hy).1)) _ ov ov' (fun p hp => fs_nm (orc_o hL) hp) h
theorem Fz_cg {ov ov' : Nat → Bool} (ho : okw n W) (hL : orz n W L) (h : ∀ y, y ∈ nmz W → ov y = ov' y) : Fz n W ov = Fz n W ov' := fvl_cg _ W ov ov' ho rfl ⟨L, hL⟩ h
theorem Fz_e {ov : Nat → Bool} (ho : okw n W) (hL : orz n W L) : Fz n W ov = vlz (Gz n W) (orc n W) ov := by
  cases hk : W.length with
  | zero =>
    unfold Fz
    rw [hk]
    exact goz_cg (S := nmz W) (fun x hx => by rw [nm_0 hk] at hx; exact absurd hx List.not_mem_nil) _ ov ov (fun p hp => fs_nm (orc_o hL) hp) (fun _ _ => rfl)
  | succ k =>
    unfold Fz
    rw [hk]
    refine goz_cg (S := nmz W) (fun x hx o o' hoo => ?_) _ ov ov (fun p hp => fs_nm (orc_o hL) hp) (fun _ _ => rfl)
    have hl : (dlz x W).length = k := by have := len_dl ho hx; omega
    unfold Gz Fz
    rw [hl]
    exact fvl_cg k (dlz x W) o o' (ok_dl ho) hl (orz_dl ho hL hx) (fun y hy => hoo y (nm_dl.mp hy).1)
/-- the skein relation, the value is one -/
def SkZ (n : Nat) (W : wd9) : Prop := skA (nmz W) (Gz n W) (Fz n W)
def PhZ (n : Nat) (W : wd9) : Prop := ∀ L ov, orz n W L → vlz (Gz n W) L ov = Fz n W ov
theorem okz_W (ho : okw n W) (hL : orz n W L) (h : ∀ x, x ∈ nmz W → SkZ n (dlz x W)) : okz (nmz W) (Gz n W) := by
  refine ⟨fun x ov hx => ?_, fun x y ov => Fz n (dlz y (dlz x W)) ov, fun x y ov => congrArg (fun V => Fz n V ov) (dlz_cm y x W), fun x y ov hx hy hne => ?_⟩
  · obtain ⟨L', hL'⟩ := orz_dl ho hL hx
    exact Fz_cg (ok_dl ho) hL' (fun y hy => flz_ot (nm_dl.mp hy).2)
  · exact h x hx ov y (nm_dl.mpr ⟨hy, Ne.symm hne⟩)
theorem vlz_sk (hG : okz (nmz W) (Gz n W)) (hL : orz n W L) : skA (nmz W) (Gz n W) (vlz (Gz n W) L) := fun ov y hy => goz_sk hG (fsz [] L.flatten) ov y fsz_nd (fun p hp => fs_nm hL hp) (nm_fs hL hy)
theorem SkZ_of (ho : okw n W) (hL : orz n W L) (hG : okz (nmz W) (Gz n W)) : SkZ n W := fun ov y hy => by
  rw [Fz_e ho hL, Fz_e ho hL]
  exact vlz_sk hG (orc_o hL) ov y hy
/-- the ones for which an order is good -/
def gdz (L : List (List tk9)) (ov : Nat → Bool) : Prop := ∀ x i, fvz L.flatten x i → ov x = decide (i = 1)
theorem vlz_g {G : Nat → (Nat → Bool) → pz9} {ov : Nat → Bool} (h : gdz L ov) : vlz G L ov = lfz (L.length - 1) := goz_all (fun p hp => by
  obtain ⟨x, b⟩ := p
  obtain ⟨-, i, h1, h2⟩ := fsz_m.mp hp
  exact h2.trans (h x i h1).symm)
theorem fv_uni {x i j : Nat} : ∀ {l : List tk9}, fvz l x i → fvz l x j → i = j
  | [], ⟨a, c, e, _⟩, _ => by
    have := congrArg List.length e
    simp at this
  | p :: r, ⟨a, c, e, h2, h3⟩, ⟨a', c', e', h2', h3'⟩ => by
    cases a with
    | nil =>
      obtain ⟨e1, -⟩ := List.cons.inj e
      cases a' with
      | nil =>
        obtain ⟨e1', -⟩ := List.cons.inj e'
        rw [e1] at e1'
        exact (Prod.mk.inj e1').2
      | cons p' a' =>
        obtain ⟨e1', -⟩ := List.cons.inj e'
        have := h3' p' List.mem_cons_self
        rw [← e1', e1] at this
        exact this.elim (fun h9 => absurd h9 h2) (fun h9 => absurd rfl h9)
    | cons p1 a =>
      obtain ⟨e1, e2⟩ := List.cons.inj e
      cases a' with
      | nil =>
        obtain ⟨e1', -⟩ := List.cons.inj e'
        have := h3 p1 List.mem_cons_self
        rw [← e1, e1'] at this
        exact this.elim (fun h9 => absurd h9 h2') (fun h9 => absurd rfl h9)
      | cons p' a' =>
        obtain ⟨-, e2'⟩ := List.cons.inj e'
        exact fv_uni ⟨a, c, e2, h2, fun q hq => h3 q (List.mem_cons_of_mem _ hq)⟩ ⟨a', c', e2', h2', fun q hq => h3' q (List.mem_cons_of_mem _ hq)⟩
/-- there is a good one that differs from a given one only at letters that are there -/
theorem gd_ex (hL : orz n W L) (ov : Nat → Bool) : ∃ ov0, gdz L ov0 ∧ ∀ x, x ∉ nmz W → ov x = ov0 x := by
  have := Classical.axiomOfChoice (r := fun (x : Nat) (b : Bool) => (∀ i, fvz L.flatten x i → b = decide (i = 1)) ∧ (x ∉ nmz W → ov x = b)) (fun x => by
    by_cases hx : x ∈ nmz W
    · obtain ⟨j, hj⟩ := fv_ex (i := 1) ((hL.2.2 (x, 1)).mpr (Or.inr ⟨by omega, hx⟩)) (by omega)
      exact ⟨decide (j = 1), fun i hi => by rw [fv_uni hi hj], fun h9 => absurd hx h9⟩
    · refine ⟨ov x, fun i hi => absurd ?_ hx, fun _ => rfl⟩
      exact fs_nm hL (p := (x, decide (i = 1))) (fsz_m.mpr ⟨List.not_mem_nil, i, hi, rfl⟩))
  obtain ⟨f, hf⟩ := this
  exact ⟨f, fun x i h => (hf x).1 i h, fun x hx => (hf x).2 hx⟩
/-- two orders whose values agree once -/
theorem vl_eq {L L' : List (List tk9)} (hG : okz (nmz W) (Gz n W)) (hL : orz n W L) (hL' : orz n W L') (h : ∀ ov, gdz L ov → vlz (Gz n W) L' ov = lfz (L.length - 1)) (ov : Nat → Bool) : vlz (Gz n W) L ov = vlz (Gz n W) L' ov := by
  obtain ⟨ov0, h1, h2⟩ := gd_ex hL ov
  exact skA_eq (nmz W) (vlz_sk hG hL) (vlz_sk hG hL') ov ov0 h2 (by rw [vlz_g h1, h ov0 h1])
end XTW5
end
section
/-! 99zzzzzzzzzzzzzzzzg.xtw6 -/
/-! two: the base of a component does not matter -/
/-- the visits of y in l -/
def slz (y : Nat) (l : List tk9) : List tk9 := l.filter (fun q => decide (q.2 ≠ 2) && decide (q.1 = y))
theorem slz_a (y : Nat) (a b : List tk9) : slz y (a ++ b) = slz y a ++ slz y b := List.filter_append _ _
theorem slz_o {y : Nat} {p : tk9} {r : List tk9} (h : p.2 = 2 ∨ p.1 ≠ y) : slz y (p :: r) = slz y r := List.filter_cons_of_neg (by
  rcases h with h | h
  · simp [h]
  · simp [h])
theorem slz_y {y i : Nat} {r : List tk9} (h : i ≠ 2) : slz y ((y, i) :: r) = (y, i) :: slz y r := List.filter_cons_of_pos (by simp [h])
theorem slz_m {y : Nat} {l : List tk9} {q : tk9} : q ∈ slz y l ↔ q ∈ l ∧ q.2 ≠ 2 ∧ q.1 = y := by
  unfold slz
  rw [List.mem_filter, Bool.and_eq_true, decide_eq_true_eq, decide_eq_true_eq]
theorem slz_n {y : Nat} {l : List tk9} (h : ∀ q, q ∈ l → q.2 = 2 ∨ q.1 ≠ y) : slz y l = [] := by
  refine List.eq_nil_iff_forall_not_mem.mpr (fun q hq => ?_)
  obtain ⟨h1, h2, h3⟩ := slz_m.mp hq
  exact (h q h1).elim h2 (fun h9 => h9 h3)
theorem fv_sl {y j : Nat} : ∀ {l : List tk9}, fvz l y j ↔ (slz y l).head? = some (y, j)
  | [] => by
    constructor
    · rintro ⟨a, c, e, -⟩
      have := congrArg List.length e
      simp at this
    · intro h
      cases h
  | p :: r => by
    by_cases c : p.2 = 2 ∨ p.1 ≠ y
    · rw [slz_o c, ← fv_sl]
      constructor
      · rintro ⟨a, d, e, h2, h3⟩
        cases a with
        | nil =>
          obtain ⟨e1, -⟩ := List.cons.inj e
          rw [e1] at c
          exact c.elim (fun h9 => absurd h9 h2) (fun h9 => absurd rfl h9)
        | cons p' a => exact ⟨a, d, (List.cons.inj e).2, h2, fun q hq => h3 q (List.mem_cons_of_mem _ hq)⟩
      · rintro ⟨a, d, e, h2, h3⟩
        refine ⟨p :: a, d, by rw [e]; rfl, h2, fun q hq => ?_⟩
        rcases List.mem_cons.mp hq with h4 | h4
        · rw [h4]
          exact c
        · exact h3 q h4
    · have c1 : p.2 ≠ 2 := fun h9 => c (Or.inl h9)
      have c2 : p.1 = y := Decidable.byContradiction (fun h9 => c (Or.inr h9))
      obtain ⟨p1, i⟩ := p
      have c2 : p1 = y := c2
      subst c2
      rw [slz_y c1]
      constructor
      · intro h
        have := fv_uni h ⟨[], r, rfl, c1, fun q hq => absurd hq List.not_mem_nil⟩
        rw [this]
        rfl
      · intro h
        have h : some ((p1, i) : tk9) = some (p1, j) := h
        have := (Prod.mk.inj (Option.some.inj h)).2
        rw [← this]
        exact ⟨[], r, rfl, c1, fun q hq => absurd hq List.not_mem_nil⟩
section XTW6
variable {n : Nat} {W : wd9} {L L' P Q : List (List tk9)}
theorem gd_at {ov : Nat → Bool} {y j : Nat} (h : gdz L ov) (hj : (slz y L.flatten).head? = some (y, j)) : ov y = decide (j = 1) := h y j (fv_sl.mpr hj)
theorem gd_of {ov : Nat → Bool} (h : ∀ y j, (slz y L.flatten).head? = some (y, j) → ov y = decide (j = 1)) : gdz L ov := fun y j hj => h y j (fv_sl.mp hj)
/-- who is a visit of x in an order -/
theorem or_v {x i : Nat} {q : tk9} (h : orz n W L) (hq : q ∈ L.flatten) (h2 : q.2 ≠ 2) (hx : q.1 = x) (hi : i < 2) : q = (x, i) ∨ q = (x, 1 - i) := by
  obtain ⟨a, j⟩ := q
  have hx : a = x := hx
  subst hx
  rcases (h.2.2 _).mp hq with ⟨h3, -⟩ | ⟨h3, -⟩
  · exact absurd h3 h2
  · have h3 : j < 2 := h3
    rcases (show j = i ∨ j = 1 - i by omega) with e | e
    · exact Or.inl (by rw [e])
    · exact Or.inr (by rw [e])
theorem bs_1 {p : tk9} {r : List tk9} (ho : okw n W) (hG : okz (nmz W) (Gz n W)) (hP : ∀ x, x ∈ nmz W → PhZ n (dlz x W)) (hL : orz n W (P ++ (p :: r) :: Q)) (ov : Nat → Bool) : vlz (Gz n W) (P ++ (p :: r) :: Q) ov = vlz (Gz n W) (P ++ (r ++ [p]) :: Q) ov := by
  have hL' : orz n W (P ++ (r ++ [p]) :: Q) := orz_t (a := [p]) (b := r) hL
  have e1 : (P ++ (p :: r) :: Q).flatten = P.flatten ++ p :: (r ++ Q.flatten) := by
    rw [List.flatten_append, List.flatten_cons, List.cons_append]
  have e2 : (P ++ (r ++ [p]) :: Q).flatten = P.flatten ++ (r ++ p :: Q.flatten) := by
    rw [List.flatten_append, List.flatten_cons, List.append_assoc]
    rfl
  have el : (P ++ (r ++ [p]) :: Q).length = (P ++ (p :: r) :: Q).length := by
    rw [List.length_append, List.length_append]
    rfl
  refine vl_eq hG hL hL' (fun ov hg => ?_) ov
  rw [← el]
  have oth : ∀ y, (p.2 = 2 ∨ p.1 ≠ y) → slz y (P ++ (r ++ [p]) :: Q).flatten = slz y (P ++ (p :: r) :: Q).flatten := fun y hy => by
    rw [e1, e2, slz_a, slz_a, slz_a, slz_o hy, slz_o hy, slz_a]
  by_cases hp : p.2 = 2
  · exact vlz_g (gd_of (fun y j hj => gd_at hg (by rw [← oth y (Or.inl hp)]; exact hj)))
  · obtain ⟨x, i⟩ := p
    have hp : i ≠ 2 := hp
    have hpm : (x, i) ∈ (P ++ ((x, i) :: r) :: Q).flatten := by
      rw [e1]
      exact List.mem_append_right _ List.mem_cons_self
    have hi : i < 2 ∧ x ∈ nmz W := by
      rcases (hL.2.2 _).mp hpm with ⟨h3, -⟩ | h3
      · exact absurd h3 hp
      · exact h3
    have hnd := hL.2.1
    rw [e1] at hnd
    by_cases hm : (x, 1 - i) ∈ r
    · obtain ⟨Y, Z, rfl⟩ := spl_m hm
      obtain ⟨A, B, g, eW⟩ := nm_ex hi.2
      have ho2 := ho
      rw [eW] at ho2
      obtain ⟨hA, hB, -⟩ := okw_d ho2
      have ed : dlz x W = B ++ A := by rw [eW, dlz_e hA hB]
      have hL2 : orz n (dlz x W) (P ++ Y :: Z :: Q) := by
        rw [ed]
        have h9 := hL
        rw [eW] at h9
        exact orz_p (List.Perm.append_left _ (List.Perm.swap _ _ _)) (orz_s1 (X := []) ho2 hi.1 h9)
      have fx : slz x P.flatten = [] := slz_n (fun q hq => by
        by_cases c : q.2 = 2 ∨ q.1 ≠ x
        · exact c
        · exfalso
          have c1 : q.2 ≠ 2 := fun h9 => c (Or.inl h9)
          have c2 : q.1 = x := Decidable.byContradiction (fun h9 => c (Or.inr h9))
          have k3 := (List.nodup_append.mp hnd).2.2
          rcases or_v hL (by rw [e1]; exact List.mem_append_left _ hq) c1 c2 hi.1 with h9 | h9
          · exact k3 q hq _ List.mem_cons_self h9
          · exact k3 q hq (x, 1 - i) (List.mem_cons_of_mem _ (List.mem_append_left _ (List.mem_append_right _ List.mem_cons_self))) h9)
      have hY : slz x Y = [] := slz_n (fun q hq => by
        by_cases c : q.2 = 2 ∨ q.1 ≠ x
        · exact c
        · exfalso
          have c1 : q.2 ≠ 2 := fun h9 => c (Or.inl h9)
          have c2 : q.1 = x := Decidable.byContradiction (fun h9 => c (Or.inr h9))
          have k2 := List.nodup_cons.mp (List.nodup_append.mp hnd).2.1
          have hq2 : q ∈ (Y ++ (x, 1 - i) :: Z) ++ Q.flatten := List.mem_append_left _ (List.mem_append_left _ hq)
          rcases or_v hL (by rw [e1]; exact List.mem_append_right _ (List.mem_cons_of_mem _ hq2)) c1 c2 hi.1 with h9 | h9
          · exact k2.1 (by rw [← h9]; exact hq2)
          · exact (List.nodup_append.mp (List.nodup_append.mp k2.2).1).2.2 q hq _ List.mem_cons_self h9)
      have ox : ov x = decide (i = 1) := gd_at hg (by
        rw [e1, slz_a, fx, List.nil_append, slz_y hp]
        rfl)
      have g1' : gdz (P ++ ((Y ++ (x, 1 - i) :: Z) ++ [(x, i)]) :: Q) (flz ov x) := gd_of (fun y j hj => by
        by_cases ey : y = x
        · subst ey
          rw [e2, slz_a, fx, List.nil_append, slz_a, slz_a, hY, List.nil_append, slz_y (by omega)] at hj
          have hj : some ((y, 1 - i) : tk9) = some (y, j) := hj
          have := (Prod.mk.inj (Option.some.inj hj)).2
          rw [flz_at, ox, ← this]
          have h2 := hi.1
          rcases (show i = 0 ∨ i = 1 by omega) with rfl | rfl
          · rfl
          · rfl
        · rw [flz_ot ey]
          exact gd_at hg (by rw [← oth y (Or.inr (Ne.symm ey))]; exact hj))
      have g2 : gdz (P ++ Y :: Z :: Q) ov := gd_of (fun y j hj => by
        have ef : (P ++ Y :: Z :: Q).flatten = P.flatten ++ (Y ++ (Z ++ Q.flatten)) := by
          rw [List.flatten_append, List.flatten_cons, List.flatten_cons]
        by_cases ey : y = x
        · exfalso
          have hmem : ((y, j) : tk9) ∈ slz y (P ++ Y :: Z :: Q).flatten := List.mem_of_mem_head? hj
          obtain ⟨m1, m2, -⟩ := slz_m.mp hmem
          rcases (hL2.2.2 _).mp m1 with ⟨h3, -⟩ | ⟨-, h3⟩
          · exact m2 h3
          · exact (nm_dl.mp h3).2 ey
        · refine gd_at hg ?_
          rw [ef, slz_a, slz_a, slz_a] at hj
          rw [e1, slz_a, slz_o (Or.inr (Ne.symm ey)), slz_a, slz_a, slz_o (Or.inr (Ne.symm ey)), List.append_assoc]
          exact hj)
      have hs := vlz_sk hG hL' ov x hi.2
      rw [hs, vlz_g g1', show Gz n W x ov = Fz n (dlz x W) ov from rfl, ← hP x hi.2 _ ov hL2, vlz_g g2]
      have l1 : (P ++ Y :: Z :: Q).length - 1 = ((P ++ ((Y ++ (x, 1 - i) :: Z) ++ [(x, i)]) :: Q).length - 1) + 1 := by
        rw [List.length_append, List.length_append]
        show P.length + (Q.length + 1 + 1) - 1 = P.length + (Q.length + 1) - 1 + 1
        omega
      rw [l1, lfz_s]
      exact skz_lp _ _
    · have hr : slz x r = [] := slz_n (fun q hq => by
        by_cases c : q.2 = 2 ∨ q.1 ≠ x
        · exact c
        · exfalso
          have c1 : q.2 ≠ 2 := fun h9 => c (Or.inl h9)
          have c2 : q.1 = x := Decidable.byContradiction (fun h9 => c (Or.inr h9))
          have k2 := List.nodup_cons.mp (List.nodup_append.mp hnd).2.1
          rcases or_v hL (by rw [e1]; exact List.mem_append_right _ (List.mem_cons_of_mem _ (List.mem_append_left _ hq))) c1 c2 hi.1 with h9 | h9
          · exact k2.1 (by rw [← h9]; exact List.mem_append_left _ hq)
          · exact hm (by rw [← h9]; exact hq))
      refine vlz_g (gd_of (fun y j hj => gd_at hg ?_))
      by_cases ey : y = x
      · subst ey
        rw [e2, slz_a, slz_a, hr, List.nil_append, slz_y hp] at hj
        rw [e1, slz_a, slz_y hp, slz_a, hr, List.nil_append]
        exact hj
      · rw [← oth y (Or.inr (Ne.symm ey))]
        exact hj
/-- THE BASE DOES NOT MATTER -/
theorem bs_r (ho : okw n W) (hG : okz (nmz W) (Gz n W)) (hP : ∀ x, x ∈ nmz W → PhZ n (dlz x W)) : ∀ (a b : List tk9), orz n W (P ++ (a ++ b) :: Q) → ∀ ov, vlz (Gz n W) (P ++ (a ++ b) :: Q) ov = vlz (Gz n W) (P ++ (b ++ a) :: Q) ov
  | [], b, _, ov => by rw [List.append_nil, List.nil_append]
  | p :: a, b, hL, ov => by
    have h1 := bs_1 ho hG hP (r := a ++ b) hL ov
    have h2 : orz n W (P ++ (a ++ (b ++ [p])) :: Q) := by
      have := orz_t (a := [p]) (b := a ++ b) hL
      rw [List.append_assoc] at this
      exact this
    have h3 := bs_r ho hG hP a (b ++ [p]) h2 ov
    rw [List.append_assoc] at h1
    rw [List.append_assoc] at h3
    exact h1.trans h3
end XTW6
end
section
/-! 99zzzzzzzzzzzzzzzzh.xtw7 -/
/-! two: names do not matter -/
theorem skR_eq {V V' : (Nat → Bool) → pz9} {G : Nat → (Nat → Bool) → pz9} {R : (Nat → Bool) → Prop} : ∀ (S : List Nat), (∀ ov y, R ov → y ∈ S → R (flz ov y)) → (∀ ov y, R ov → y ∈ S → V ov = skz (ov y) (V (flz ov y)) (G y ov)) → (∀ ov y, R ov → y ∈ S → V' ov = skz (ov y) (V' (flz ov y)) (G y ov)) → ∀ ov ov0 : Nat → Bool, R ov0 → (∀ x, x ∉ S → ov x = ov0 x) → V ov0 = V' ov0 → V ov = V' ov
  | [], _, _, _, ov, ov0, _, h, e => by
    have : ov = ov0 := funext (fun x => h x List.not_mem_nil)
    rw [this]
    exact e
  | y :: S, hR, h1, h2, ov, ov0, r0, h, e => by
    have s0 : ∀ ov x, R ov → x ∈ S → R (flz ov x) := fun ov x r hx => hR ov x r (List.mem_cons_of_mem _ hx)
    have s1 : ∀ ov x, R ov → x ∈ S → V ov = skz (ov x) (V (flz ov x)) (G x ov) := fun ov x r hx => h1 ov x r (List.mem_cons_of_mem _ hx)
    have s2 : ∀ ov x, R ov → x ∈ S → V' ov = skz (ov x) (V' (flz ov x)) (G x ov) := fun ov x r hx => h2 ov x r (List.mem_cons_of_mem _ hx)
    by_cases c : ov y = ov0 y
    · refine skR_eq S s0 s1 s2 ov ov0 r0 (fun x hx => ?_) e
      by_cases ex : x = y
      · rw [ex]
        exact c
      · exact h x (fun h9 => (List.mem_cons.mp h9).elim ex hx)
    · refine skR_eq S s0 s1 s2 ov (flz ov0 y) (hR _ _ r0 List.mem_cons_self) (fun x hx => ?_) ?_
      · by_cases ex : x = y
        · rw [ex, flz_at]
          revert c
          cases ov y <;> cases ov0 y <;> decide
        · rw [flz_ot ex]
          exact h x (fun h9 => (List.mem_cons.mp h9).elim ex hx)
      · have k1 := h1 ov0 y r0 List.mem_cons_self
        have k2 := h2 ov0 y r0 List.mem_cons_self
        rw [e, k2] at k1
        exact (skz_inj k1).symm
/-- a renaming, by a map that is its own inverse -/
def rnT (ρ : Nat → Nat) (p : tk9) : tk9 := if p.2 = 2 then p else (ρ p.1, p.2)
def rnW (ρ : Nat → Nat) (W : wd9) : wd9 := W.map (fun l => (l.1, ρ l.2))
section XTW7
variable {ρ : Nat → Nat} {n : Nat} {W : wd9} {L : List (List tk9)}
theorem rnT_m {t : Nat} : rnT ρ (t, 2) = (t, 2) := if_pos rfl
theorem rnT_v {x i : Nat} (h : i ≠ 2) : rnT ρ (x, i) = (ρ x, i) := if_neg h
theorem rnT_2 {p : tk9} : (rnT ρ p).2 = p.2 := by
  unfold rnT
  split
  · rfl
  · rfl
theorem rnT_i (hρ : ∀ x, ρ (ρ x) = x) (p : tk9) : rnT ρ (rnT ρ p) = p := by
  obtain ⟨x, i⟩ := p
  by_cases h : i = 2
  · rw [h, rnT_m, rnT_m]
  · rw [rnT_v h, rnT_v h, hρ]
theorem rnT_j (hρ : ∀ x, ρ (ρ x) = x) {p q : tk9} (h : rnT ρ p = rnT ρ q) : p = q := by
  rw [← rnT_i hρ p, h, rnT_i hρ]
theorem rz_th (hρ : ∀ x, ρ (ρ x) = x) (g x : Nat) (p : tk9) : thz g (ρ x) (rnT ρ p) = rnT ρ (thz g x p) := by
  by_cases h1 : p = (g, 2)
  · rw [h1, rnT_m, thz_1, thz_1, rnT_v (by decide)]
  · by_cases h2 : p = (g + 1, 2)
    · rw [h2, rnT_m, thz_0, thz_0, rnT_v (by decide)]
    · rw [thz_o h1 h2, thz_o (fun h9 => h1 (rnT_j hρ (h9.trans rnT_m.symm))) (fun h9 => h2 (rnT_j hρ (h9.trans rnT_m.symm)))]
theorem rz_sg (hρ : ∀ x, ρ (ρ x) = x) : ∀ (W : wd9) (p : tk9), sgm (rnW ρ W) (rnT ρ p) = rnT ρ (sgm W p)
  | [], _ => rfl
  | l :: W, p => by
    have e : rnW ρ (l :: W) = (l.1, ρ l.2) :: rnW ρ W := rfl
    rw [e]
    by_cases h1 : p = (l.2, 1)
    · rw [h1, sgm_1, rnT_m, rnT_v (by decide)]
      exact sgm_1 (l := (l.1, ρ l.2))
    · by_cases h0 : p = (l.2, 0)
      · rw [h0, sgm_0, rnT_m, rnT_v (by decide)]
        exact sgm_0 (l := (l.1, ρ l.2))
      · rw [sgm_o h1 h0, sgm_o (l := (l.1, ρ l.2)) (fun h9 => h1 (rnT_j hρ (h9.trans (rnT_v (by decide)).symm))) (fun h9 => h0 (rnT_j hρ (h9.trans (rnT_v (by decide)).symm))), rz_sg hρ W p]
        exact rz_th hρ l.1 l.2 _
theorem rz_pt (hρ : ∀ x, ρ (ρ x) = x) : ∀ {r : List tk9} {p q : tk9}, pth (sgm W) p r q → pth (sgm (rnW ρ W)) (rnT ρ p) (r.map (rnT ρ)) (rnT ρ q)
  | [], p, q, h => by
    have h : sgm W p = q := h
    show sgm (rnW ρ W) (rnT ρ p) = rnT ρ q
    rw [rz_sg hρ, h]
  | a :: r, p, q, h => ⟨by rw [rz_sg hρ, h.1], rz_pt hρ h.2⟩
theorem rz_nm : nmz (rnW ρ W) = (nmz W).map ρ := by
  unfold nmz rnW
  rw [List.map_map, List.map_map]
  rfl
theorem rz_mem (hρ : ∀ x, ρ (ρ x) = x) {x : Nat} : ρ x ∈ nmz (rnW ρ W) ↔ x ∈ nmz W := by
  rw [rz_nm]
  constructor
  · intro h
    obtain ⟨y, h1, h2⟩ := List.mem_map.mp h
    rw [← hρ x, ← h2, hρ]
    exact h1
  · intro h
    exact List.mem_map.mpr ⟨x, h, rfl⟩
theorem rz_ok (hρ : ∀ x, ρ (ρ x) = x) (h : okw n W) : okw n (rnW ρ W) := by
  refine ⟨fun l hl => ?_, ?_⟩
  · obtain ⟨l0, h1, rfl⟩ := List.mem_map.mp hl
    exact h.1 l0 h1
  · rw [rz_nm]
    exact List.Pairwise.map ρ (fun a b hab h9 => hab (by rw [← hρ a, h9, hρ])) h.2
theorem fl_mp : ∀ (L : List (List tk9)), (L.map (List.map (rnT ρ))).flatten = L.flatten.map (rnT ρ)
  | [] => rfl
  | c :: L => by
    rw [List.map_cons, List.flatten_cons, List.flatten_cons, List.map_append, fl_mp]
theorem rz_or (hρ : ∀ x, ρ (ρ x) = x) (h : orz n W L) : orz n (rnW ρ W) (L.map (List.map (rnT ρ))) := by
  refine ⟨fun c hc => ?_, ?_, fun p => ?_⟩
  · obtain ⟨c0, h1, rfl⟩ := List.mem_map.mp hc
    obtain ⟨p, r, rfl, hp⟩ := h.1 c0 h1
    exact ⟨rnT ρ p, r.map (rnT ρ), rfl, rz_pt hρ hp⟩
  · rw [fl_mp]
    exact List.Pairwise.map (rnT ρ) (fun a b hab h9 => hab (rnT_j hρ h9)) h.2.1
  · rw [fl_mp]
    have e : p ∈ L.flatten.map (rnT ρ) ↔ rnT ρ p ∈ L.flatten := by
      constructor
      · intro h9
        obtain ⟨q, h1, h2⟩ := List.mem_map.mp h9
        rw [← h2, rnT_i hρ]
        exact h1
      · intro h9
        exact List.mem_map.mpr ⟨_, h9, rnT_i hρ p⟩
    rw [e, h.2.2]
    obtain ⟨x, i⟩ := p
    by_cases hi : i = 2
    · rw [hi, rnT_m]
      exact ⟨fun h9 => h9.elim Or.inl (fun h8 => absurd h8.1 (Nat.lt_irrefl 2)), fun h9 => h9.elim Or.inl (fun h8 => absurd h8.1 (Nat.lt_irrefl 2))⟩
    · rw [rnT_v hi]
      have em : ρ x ∈ nmz W ↔ x ∈ nmz (rnW ρ W) := by
        rw [← rz_mem hρ (W := W) (x := ρ x), hρ]
      exact ⟨fun h9 => h9.elim (fun h8 => absurd h8.1 hi) (fun h8 => Or.inr ⟨h8.1, em.mp h8.2⟩), fun h9 => h9.elim (fun h8 => absurd h8.1 hi) (fun h8 => Or.inr ⟨h8.1, em.mpr h8.2⟩)⟩
theorem rz_fs (hρ : ∀ x, ρ (ρ x) = x) : ∀ (l : List tk9) (met : List Nat), fsz (met.map ρ) (l.map (rnT ρ)) = (fsz met l).map (fun p => (ρ p.1, p.2))
  | [], _ => rfl
  | p :: r, met => by
    rw [List.map_cons]
    have em : ∀ x, ρ x ∈ met.map ρ ↔ x ∈ met := fun x => by
      constructor
      · intro h
        obtain ⟨y, h1, h2⟩ := List.mem_map.mp h
        rw [← hρ x, ← h2, hρ]
        exact h1
      · intro h
        exact List.mem_map.mpr ⟨x, h, rfl⟩
    by_cases c2 : p.2 = 2
    · rw [fsz_k (Or.inl c2), fsz_k (Or.inl (rnT_2.trans c2))]
      exact rz_fs hρ r met
    · have e1 : rnT ρ p = (ρ p.1, p.2) := if_neg c2
      by_cases c : p.1 ∈ met
      · rw [fsz_k (Or.inr c), e1, fsz_k (Or.inr ((em p.1).mpr c))]
        exact rz_fs hρ r met
      · rw [fsz_f (fun h9 => h9.elim c2 c), e1, fsz_f (p := (ρ p.1, p.2)) (fun h9 => h9.elim c2 (fun h8 => c ((em p.1).mp h8))), List.map_cons]
        exact congrArg _ (rz_fs hρ r (p.1 :: met))
theorem rz_go (hρ : ∀ x, ρ (ρ x) = x) {P : pz9} {G G' : Nat → (Nat → Bool) → pz9} {S : List Nat} (hG : ∀ x, x ∈ S → ∀ o o' : Nat → Bool, (∀ y, y ∈ S → o' (ρ y) = o y) → G' (ρ x) o' = G x o) : ∀ (l : List (Nat × Bool)) (ov ov' : Nat → Bool), (∀ p, p ∈ l → p.1 ∈ S) → (∀ y, y ∈ S → ov' (ρ y) = ov y) → goz P G' (l.map (fun p => (ρ p.1, p.2))) ov' = goz P G l ov
  | [], _, _, _, _ => rfl
  | p :: r, ov, ov', hS, h => by
    have hp := hS p List.mem_cons_self
    have hr : ∀ q, q ∈ r → q.1 ∈ S := fun q hq => hS q (List.mem_cons_of_mem _ hq)
    have e1 : ov' (ρ p.1) = ov p.1 := h _ hp
    rw [List.map_cons]
    by_cases c : p.2 = ov p.1
    · rw [goz_g c, goz_g (p := (ρ p.1, p.2)) (c.trans e1.symm)]
      exact rz_go hρ hG r ov ov' hr h
    · rw [goz_b c, goz_b (p := (ρ p.1, p.2)) (fun h9 => c (h9.trans e1))]
      show skz (ov' (ρ p.1)) (goz P G' (r.map (fun p => (ρ p.1, p.2))) (flz ov' (ρ p.1))) (G' (ρ p.1) ov') = _
      rw [e1, hG p.1 hp ov ov' h, rz_go hρ hG r (flz ov p.1) (flz ov' (ρ p.1)) hr (fun y hy => ?_)]
      by_cases e : y = p.1
      · rw [e, flz_at, flz_at, e1]
      · rw [flz_ot e, flz_ot (fun h9 => e (by rw [← hρ y, h9, hρ])), h y hy]
theorem rz_dl (hρ : ∀ x, ρ (ρ x) = x) (x : Nat) : ∀ (W : wd9), dlz (ρ x) (rnW ρ W) = rnW ρ (dlz x W)
  | [] => rfl
  | l :: W => by
    have ih := rz_dl hρ x W
    unfold dlz rnW at ih ⊢
    rw [List.map_cons]
    by_cases c : l.2 = x
    · rw [List.filter_cons_of_neg (by simp [c]), List.filter_cons_of_neg (by simp [c])]
      exact ih
    · have c' : ρ l.2 ≠ ρ x := fun h9 => c (by rw [← hρ l.2, h9, hρ])
      rw [List.filter_cons_of_pos (by simp [c']), List.filter_cons_of_pos (by simp [c]), List.map_cons]
      exact congrArg _ ih
theorem rz_len : (rnW ρ W).length = W.length := List.length_map _
/-- NAMES DO NOT MATTER, where the value is one -/
theorem rz_F (hρ : ∀ x, ρ (ρ x) = x) : ∀ (k : Nat) (W : wd9) (ov ov' : Nat → Bool), W.length = k → okw n W → (∃ L, orz n W L) → (∀ V, V.length ≤ k → okw n V → PhZ n V) → (∀ y, y ∈ nmz W → ov' (ρ y) = ov y) → Fz n (rnW ρ W) ov' = Fz n W ov
  | 0, W, ov, ov', hk, ho, ⟨L, hL⟩, hP, h => by
    rw [← hP W (by omega) ho L ov hL, ← hP (rnW ρ W) (by rw [rz_len]; omega) (rz_ok hρ ho) _ ov' (rz_or hρ hL)]
    unfold vlz
    have e0 : fsz [] (L.map (List.map (rnT ρ))).flatten = (fsz [] L.flatten).map (fun p => (ρ p.1, p.2)) := by
      rw [fl_mp]
      exact rz_fs hρ L.flatten []
    rw [e0, List.length_map]
    exact rz_go hρ (S := nmz W) (fun x hx => by rw [nm_0 hk] at hx; exact absurd hx List.not_mem_nil) _ ov ov' (fun p hp => fs_nm hL hp) h
  | k + 1, W, ov, ov', hk, ho, ⟨L, hL⟩, hP, h => by
    rw [← hP W (by omega) ho L ov hL, ← hP (rnW ρ W) (by rw [rz_len]; omega) (rz_ok hρ ho) _ ov' (rz_or hρ hL)]
    unfold vlz
    have e0 : fsz [] (L.map (List.map (rnT ρ))).flatten = (fsz [] L.flatten).map (fun p => (ρ p.1, p.2)) := by
      rw [fl_mp]
      exact rz_fs hρ L.flatten []
    rw [e0, List.length_map]
    refine rz_go hρ (S := nmz W) (fun x hx o o' hoo => ?_) _ ov ov' (fun p hp => fs_nm hL hp) h
    unfold Gz
    rw [rz_dl hρ]
    exact rz_F hρ k (dlz x W) o o' (by have := len_dl ho hx; omega) (ok_dl ho) (orz_dl ho hL hx) (fun V hV => hP V (by omega)) (fun y hy => hoo y (nm_dl.mp hy).1)
end XTW7
end
section
/-! 99zzzzzzzzzzzzzzzzi.xtw8 -/
/-! two: two letters that undo each other -/
def swz (x y z : Nat) : Nat := if z = x then y else if z = y then x else z
theorem swz_1 (x y : Nat) : swz x y x = y := if_pos rfl
theorem swz_2 (x y : Nat) : swz x y y = x := by
  unfold swz
  by_cases h : y = x
  · rw [if_pos h, h]
  · rw [if_neg h, if_pos rfl]
theorem swz_o {x y z : Nat} (h1 : z ≠ x) (h2 : z ≠ y) : swz x y z = z := by
  unfold swz
  rw [if_neg h1, if_neg h2]
theorem swz_i (x y z : Nat) : swz x y (swz x y z) = z := by
  by_cases h1 : z = x
  · rw [h1, swz_1, swz_2]
  · by_cases h2 : z = y
    · rw [h2, swz_2, swz_1]
    · rw [swz_o h1 h2, swz_o h1 h2]
section XTW8
variable {n g x y : Nat} {W A B : wd9} {L L' P Q M : List (List tk9)}
theorem rnW_n : ∀ {W : wd9}, x ∉ nmz W → y ∉ nmz W → rnW (swz x y) W = W
  | [], _, _ => rfl
  | l :: W, h1, h2 => by
    have a1 : l.2 ≠ x := fun h9 => h1 (by rw [← h9]; exact List.mem_cons_self)
    have a2 : l.2 ≠ y := fun h9 => h2 (by rw [← h9]; exact List.mem_cons_self)
    have ih := rnW_n (W := W) (fun h9 => h1 (List.mem_cons_of_mem _ h9)) (fun h9 => h2 (List.mem_cons_of_mem _ h9))
    show (l.1, swz x y l.2) :: rnW (swz x y) W = l :: W
    rw [ih, swz_o a1 a2]
/-- the skein relation holds for every word -/
theorem sk_all : ∀ (k : Nat) (W : wd9), W.length = k → okw n W → (∃ L, orz n W L) → okz (nmz W) (Gz n W)
  | 0, W, hk, ho, ⟨L, hL⟩ => okz_W ho hL (fun x hx => by rw [nm_0 hk] at hx; exact absurd hx List.not_mem_nil)
  | k + 1, W, hk, ho, ⟨L, hL⟩ => okz_W ho hL (fun x hx => by
    obtain ⟨L', hL'⟩ := orz_dl ho hL hx
    exact SkZ_of (ok_dl ho) hL' (sk_all k (dlz x W) (by have := len_dl ho hx; omega) (ok_dl ho) ⟨L', hL'⟩))
theorem sk_W (ho : okw n W) (hL : orz n W L) : okz (nmz W) (Gz n W) := sk_all _ W rfl ho ⟨L, hL⟩
theorem sk_F (ho : okw n W) (hL : orz n W L) : SkZ n W := SkZ_of ho hL (sk_W ho hL)
theorem sl_nil (h : orz n W L) (hx : x ∉ nmz W) : ∀ q, q ∈ L.flatten → q.2 = 2 ∨ q.1 ≠ x := fun q hq => by
  rcases (h.2.2 q).mp hq with ⟨h1, -⟩ | ⟨-, h1⟩
  · exact Or.inl h1
  · exact Or.inr (fun h9 => hx (by rw [← h9]; exact h1))
theorem not_dec {b : Bool} {i : Nat} (hi : i < 2) (h : b ≠ decide (i = 1)) : b = decide (1 - i = 1) := by
  rcases (show i = 0 ∨ i = 1 by omega) with rfl | rfl
  · cases b
    · exact absurd rfl h
    · rfl
  · cases b
    · rfl
    · exact absurd rfl h
theorem r2_core {i : Nat} (hi : i < 2) (hxy : x ≠ y) (ho : okw n W) (ho' : okw n (B ++ A)) (hx : x ∈ nmz W) (hy : y ∈ nmz W) (hx' : x ∉ nmz (B ++ A)) (hy' : y ∉ nmz (B ++ A)) (hS : ∀ z, z ∈ nmz (B ++ A) → z ∈ nmz W) (hL : orz n W L) (hL' : orz n (B ++ A) L') (hP : PhZ n (B ++ A)) (hl : L.length = L'.length) (hs : ∀ z, z ≠ x → z ≠ y → slz z L.flatten = slz z L'.flatten) (fx : (slz x L.flatten).head? = some (x, i)) (fy : (slz y L.flatten).head? = some (y, 1 - i)) (hz : ∀ z, z ∈ nmz (B ++ A) → ∀ ov : Nat → Bool, ov x ≠ ov y → Fz n (dlz z W) ov = Fz n (dlz z (B ++ A)) ov) (hr : ∀ ov : Nat → Bool, ov x ≠ ov y → Fz n (dlz x W) ov = Fz n (dlz y W) (flz ov x)) (ov : Nat → Bool) (hov : ov x ≠ ov y) : vlz (Gz n W) L ov = Fz n (B ++ A) ov := by
  have hG := sk_W ho hL
  have hsk := vlz_sk hG hL
  obtain ⟨ov0, g0, e0⟩ := gd_ex hL' ov
  have r0 : ov0 x ≠ ov0 y := by
    rw [← e0 x hx', ← e0 y hy']
    exact hov
  have gd : ∀ o : Nat → Bool, (∀ z, z ≠ x → z ≠ y → o z = ov0 z) → o x = decide (i = 1) → o y = decide (1 - i = 1) → gdz L o := fun o h1 h2 h3 => gd_of (fun z j hj => by
    by_cases zx : z = x
    · subst zx
      rw [fx] at hj
      rw [← (Prod.mk.inj (Option.some.inj hj)).2]
      exact h2
    · by_cases zy : z = y
      · subst zy
        rw [fy] at hj
        rw [← (Prod.mk.inj (Option.some.inj hj)).2]
        exact h3
      · rw [h1 z zx zy]
        exact gd_at g0 (by rw [← hs z zx zy]; exact hj))
  have opp : ∀ o : Nat → Bool, o x ≠ o y → o x = decide (i = 1) → o y = decide (1 - i = 1) := fun o h1 h2 => not_dec hi (by rw [← h2]; exact Ne.symm h1)
  refine skR_eq (R := fun ov => ov x ≠ ov y) (G := fun z ov => Fz n (dlz z (B ++ A)) ov) (nmz (B ++ A)) (fun o z hR hz9 => ?_) (fun o z hR hz9 => ?_) (fun o z hR hz9 => ?_) ov ov0 r0 e0 ?_
  · show flz o z x ≠ flz o z y
    rw [flz_ot (fun h9 => hx' (by rw [h9]; exact hz9)), flz_ot (fun h9 => hy' (by rw [h9]; exact hz9))]
    exact hR
  · have := hsk o z (hS z hz9)
    rw [show Gz n W z o = Fz n (dlz z W) o from rfl, hz z hz9 o hR] at this
    exact this
  · exact sk_F ho' hL' o z hz9
  · have e1 : Fz n (B ++ A) ov0 = lfz (L.length - 1) := by
      rw [← hP L' ov0 hL', vlz_g g0, hl]
    rw [e1]
    by_cases c : ov0 x = decide (i = 1)
    · exact vlz_g (gd ov0 (fun _ _ _ => rfl) c (opp ov0 r0 c))
    · have cx : ov0 x = !decide (i = 1) := by
        revert c
        cases ov0 x <;> cases decide (i = 1) <;> decide
      have cy : ov0 y = decide (i = 1) := by
        revert r0 cx
        cases ov0 x <;> cases ov0 y <;> cases decide (i = 1) <;> decide
      have s1 := hsk ov0 x hx
      have s2 := hsk (flz ov0 x) y hy
      have ex : flz (flz ov0 x) y x = decide (i = 1) := by
        rw [flz_ot hxy, flz_at, cx, Bool.not_not]
      have ey : flz (flz ov0 x) y y = decide (1 - i = 1) := by
        rw [flz_at, flz_ot (Ne.symm hxy), cy]
        rcases (show i = 0 ∨ i = 1 by omega) with rfl | rfl
        · rfl
        · rfl
      have g2 := vlz_g (G := Gz n W) (gd (flz (flz ov0 x) y) (fun z h1 h2 => by rw [flz_ot h2, flz_ot h1]) ex ey)
      rw [s1, s2, g2, show Gz n W x ov0 = Fz n (dlz x W) ov0 from rfl, show Gz n W y (flz ov0 x) = Fz n (dlz y W) (flz ov0 x) from rfl, hr ov0 r0, flz_ot (Ne.symm hxy), show ov0 y = !ov0 x from by rw [cx, cy, Bool.not_not]]
      exact skz_bk _ _ _
/-- the letters x, y side by side at one place -/
theorem s2_adj (h : okw n (B ++ (g, y) :: (g, x) :: A)) : x ≠ y ∧ x ∉ nmz A ∧ y ∉ nmz A ∧ x ∉ nmz B ∧ y ∉ nmz B := by
  obtain ⟨h1, h2, h3⟩ := okw_d h
  have e : B ++ (g, x) :: A = B ++ (g, x) :: A := rfl
  obtain ⟨k1, k2, -⟩ := okw_d h3
  exact ⟨fun h9 => h1 (by rw [← h9]; exact List.mem_cons_self), k1, fun h9 => h1 (List.mem_cons_of_mem _ h9), k2, h2⟩
theorem s2_st {i : Nat} (hi : i < 2) (hxy : x ≠ y) : ∀ {B : wd9}, x ∉ nmz B → sgm (B ++ (g, y) :: (g, x) :: A) (x, i) = (y, 1 - i)
  | [], _ => by
    show sgm ((g, y) :: (g, x) :: A) (x, i) = _
    rw [sgm_o (fun h9 => hxy (Prod.mk.inj h9).1) (fun h9 => hxy (Prod.mk.inj h9).1)]
    rcases (show i = 0 ∨ i = 1 by omega) with rfl | rfl
    · rw [show sgm ((g, x) :: A) (x, 0) = (g, 2) from sgm_0 (l := (g, x))]
      exact thz_1 g y
    · rw [show sgm ((g, x) :: A) (x, 1) = (g + 1, 2) from sgm_1 (l := (g, x))]
      exact thz_0 g y
  | l :: B, hx => by
    have hl : x ≠ l.2 := fun h9 => hx (by rw [h9]; exact List.mem_cons_self)
    show sgm (l :: (B ++ (g, y) :: (g, x) :: A)) (x, i) = _
    rw [sgm_o (fun h9 => hl (Prod.mk.inj h9).1) (fun h9 => hl (Prod.mk.inj h9).1), s2_st hi hxy (fun h9 => hx (List.mem_cons_of_mem _ h9))]
    exact thz_v (show 1 - i ≠ 2 by omega)
end XTW8
end
section
/-! 99zzzzzzzzzzzzzzzzj.xtw9 -/
/-! two: two letters that undo each other, all orders -/
section XTW9
variable {n g x y : Nat} {W A B : wd9} {L L' P Q M : List (List tk9)}
theorem dlz_a (x : Nat) (B A : wd9) : dlz x (B ++ A) = dlz x B ++ dlz x A := List.filter_append _ _
theorem dlz_c {l : Nat × Nat} (h : l.2 ≠ x) : dlz x (l :: A) = l :: dlz x A := List.filter_cons_of_pos (by simp [h])
theorem dlz_x : dlz x ((g, x) :: A) = dlz x A := List.filter_cons_of_neg (by simp)
/-- turned so that x comes first -/
theorem hd_x {i : Nat} {a b : List tk9} (hi : i < 2) (ho : okw n (B ++ (g, y) :: (g, x) :: A)) (hP : ∀ z, z ∈ nmz (B ++ (g, y) :: (g, x) :: A) → PhZ n (dlz z (B ++ (g, y) :: (g, x) :: A))) (hL : orz n (B ++ (g, y) :: (g, x) :: A) (P ++ (a ++ (x, i) :: b) :: Q)) : ∃ c, orz n (B ++ (g, y) :: (g, x) :: A) (P ++ ((x, i) :: (y, 1 - i) :: c) :: Q) ∧ ∀ ov, vlz (Gz n (B ++ (g, y) :: (g, x) :: A)) (P ++ (a ++ (x, i) :: b) :: Q) ov = vlz (Gz n (B ++ (g, y) :: (g, x) :: A)) (P ++ ((x, i) :: (y, 1 - i) :: c) :: Q) ov := by
  obtain ⟨hxy, -, -, hB, -⟩ := s2_adj ho
  have h1 := orz_t hL
  have h2 := bs_r ho (sk_W ho hL) hP a ((x, i) :: b) hL
  have h3 := h1.1 _ (List.mem_append_right P List.mem_cons_self)
  have es : sgm (B ++ (g, y) :: (g, x) :: A) (x, i) = (y, 1 - i) := s2_st hi hxy hB
  rw [List.cons_append] at h1 h2 h3
  generalize b ++ a = c at h1 h2 h3
  obtain ⟨p, r, e, hp⟩ := h3
  obtain ⟨rfl, rfl⟩ := List.cons.inj e
  cases c with
  | nil =>
    have h9 : sgm (B ++ (g, y) :: (g, x) :: A) (x, i) = (x, i) := hp
    rw [es] at h9
    exact absurd (Prod.mk.inj h9).1.symm hxy
  | cons t c =>
    have h9 : sgm (B ++ (g, y) :: (g, x) :: A) (x, i) = t := hp.1
    rw [es] at h9
    subst h9
    exact ⟨c, h1, h2⟩
theorem r2_V : ∀ (k : Nat) (B A : wd9) (L : List (List tk9)), (B ++ (g, y) :: (g, x) :: A).length = k → okw n (B ++ (g, y) :: (g, x) :: A) → orz n (B ++ (g, y) :: (g, x) :: A) L → (∀ V, V.length < k → okw n V → PhZ n V) → ∀ ov : Nat → Bool, ov x ≠ ov y → vlz (Gz n (B ++ (g, y) :: (g, x) :: A)) L ov = Fz n (B ++ A) ov
  | 0, B, A, L, hk, _, _, _, _, _ => by
    rw [List.length_append] at hk
    simp at hk
  | k + 1, B, A, L, hk, ho, hL, hP, ov, hov => by
    obtain ⟨hxy, hxA, hyA, hxB, hyB⟩ := s2_adj ho
    have hyx := Ne.symm hxy
    have el : (B ++ A).length + 2 = k + 1 := by
      rw [← hk, List.length_append, List.length_append, List.length_cons, List.length_cons]
      omega
    have dx : dlz x (B ++ (g, y) :: (g, x) :: A) = B ++ (g, y) :: A := by
      rw [dlz_a, dlz_c (show (g, y).2 ≠ x from hyx), dlz_x, dlz_n hxA, dlz_n hxB]
    have dy : dlz y (B ++ (g, y) :: (g, x) :: A) = B ++ (g, x) :: A := by
      rw [dlz_a, dlz_x, dlz_c (show (g, x).2 ≠ y from hxy), dlz_n hyA, dlz_n hyB]
    have mx : x ∈ nmz (B ++ (g, y) :: (g, x) :: A) := by
      rw [nm_a]
      exact List.mem_append_right _ (List.mem_cons_of_mem _ List.mem_cons_self)
    have my : y ∈ nmz (B ++ (g, y) :: (g, x) :: A) := by
      rw [nm_a]
      exact List.mem_append_right _ List.mem_cons_self
    have hx' : x ∉ nmz (B ++ A) := fun h9 => by
      rw [nm_a] at h9
      exact (List.mem_append.mp h9).elim hxB hxA
    have hy' : y ∉ nmz (B ++ A) := fun h9 => by
      rw [nm_a] at h9
      exact (List.mem_append.mp h9).elim hyB hyA
    have hS : ∀ z, z ∈ nmz (B ++ A) → z ∈ nmz (B ++ (g, y) :: (g, x) :: A) := fun z hz => by
      rw [nm_a] at hz ⊢
      rcases List.mem_append.mp hz with h9 | h9
      · exact List.mem_append_left _ h9
      · exact List.mem_append_right _ (List.mem_cons_of_mem _ (List.mem_cons_of_mem _ h9))
    have hoB : okw n (B ++ A) := by
      have h9 := ok_dl (x := x) (ok_dl (x := y) ho)
      rw [dy, dlz_a, dlz_x, dlz_n hxA, dlz_n hxB] at h9
      exact h9
    have hPd : ∀ z, z ∈ nmz (B ++ (g, y) :: (g, x) :: A) → PhZ n (dlz z (B ++ (g, y) :: (g, x) :: A)) := fun z hz => hP _ (by rw [← hk]; exact dlz_lt hz) (ok_dl ho)
    have hz : ∀ z, z ∈ nmz (B ++ A) → ∀ ov : Nat → Bool, ov x ≠ ov y → Fz n (dlz z (B ++ (g, y) :: (g, x) :: A)) ov = Fz n (dlz z (B ++ A)) ov := fun z hz9 o hoo => by
      have zx : x ≠ z := fun h9 => hx' (by rw [h9]; exact hz9)
      have zy : y ≠ z := fun h9 => hy' (by rw [h9]; exact hz9)
      obtain ⟨Lz, hLz⟩ := orz_dl ho hL (hS z hz9)
      have hl := len_dl ho (hS z hz9)
      have hoz := ok_dl (x := z) ho
      rw [← hPd z (hS z hz9) Lz o hLz]
      have ed : dlz z (B ++ (g, y) :: (g, x) :: A) = dlz z B ++ (g, y) :: (g, x) :: dlz z A := by
        rw [dlz_a, dlz_c (show (g, y).2 ≠ z from zy), dlz_c (show (g, x).2 ≠ z from zx)]
      rw [ed] at hLz hl hoz ⊢
      rw [r2_V k (dlz z B) (dlz z A) Lz (by omega) hoz hLz (fun V hV => hP V (by omega)) o hoo, ← dlz_a]
    have hr : ∀ ov : Nat → Bool, ov x ≠ ov y → Fz n (dlz x (B ++ (g, y) :: (g, x) :: A)) ov = Fz n (dlz y (B ++ (g, y) :: (g, x) :: A)) (flz ov x) := fun o hoo => by
      have hl := len_dl ho mx
      have hox := ok_dl (x := x) ho
      obtain ⟨Lx, hLx⟩ := orz_dl ho hL mx
      rw [dx] at hl hox hLx
      have er : rnW (swz x y) (B ++ (g, y) :: A) = B ++ (g, x) :: A := by
        have e1 : rnW (swz x y) (B ++ (g, y) :: A) = rnW (swz x y) B ++ (g, swz x y y) :: rnW (swz x y) A := List.map_append
        rw [e1, rnW_n hxB hyB, rnW_n hxA hyA, swz_2]
      rw [dx, dy, ← er]
      refine (rz_F (swz_i x y) k (B ++ (g, y) :: A) o (flz o x) (by omega) hox ⟨Lx, hLx⟩ (fun V hV => hP V (by omega)) (fun z hz9 => ?_)).symm
      by_cases zy : z = y
      · rw [zy, swz_2, flz_at]
        revert hoo
        cases o x <;> cases o y <;> decide
      · have zx : z ≠ x := fun h9 => by
          rw [h9, nm_a] at hz9
          rcases List.mem_append.mp hz9 with h8 | h8
          · exact hxB h8
          · rcases List.mem_cons.mp h8 with h7 | h7
            · exact hxy h7
            · exact hxA h7
        rw [swz_o zx zy, flz_ot zx]
    have core := fun (i : Nat) (hi : i < 2) (L L' : List (List tk9)) (q1 : orz n (B ++ (g, y) :: (g, x) :: A) L) (q2 : orz n (B ++ A) L') (q3 : L.length = L'.length) (q4 : ∀ z, z ≠ x → z ≠ y → slz z L.flatten = slz z L'.flatten) (q5 : (slz x L.flatten).head? = some (x, i)) (q6 : (slz y L.flatten).head? = some (y, 1 - i)) => r2_core hi hxy ho hoB mx my hx' hy' hS q1 q2 (hP _ (by omega) hoB) q3 q4 q5 q6 hz hr ov hov
    have eW : B ++ (g, y) :: (g, x) :: A = (B ++ [(g, y)]) ++ (g, x) :: A := by
      rw [List.append_assoc]
      rfl
    have eV : (B ++ [(g, y)]) ++ A = B ++ (g, y) :: A := by
      rw [List.append_assoc]
      rfl
    have ho2 := ho
    rw [eW] at ho2
    have hox := ok_dl (x := x) ho
    rw [dx] at hox
    -- both in different components
    have two : ∀ (i : Nat) (P M Q : List (List tk9)) (a b : List tk9), i < 2 → orz n (B ++ (g, y) :: (g, x) :: A) (P ++ ((x, i) :: (y, 1 - i) :: a) :: (M ++ ((x, 1 - i) :: (y, 1 - (1 - i)) :: b) :: Q)) → vlz (Gz n (B ++ (g, y) :: (g, x) :: A)) (P ++ ((x, i) :: (y, 1 - i) :: a) :: (M ++ ((x, 1 - i) :: (y, 1 - (1 - i)) :: b) :: Q)) ov = Fz n (B ++ A) ov := by
      intro i P M Q a b hi hLL
      have h9 := hLL
      rw [eW] at h9
      have k1 := orz_s2 (a1 := []) (b1 := []) ho2 hi h9
      rw [eV, List.nil_append, List.nil_append, List.cons_append] at k1
      rw [show 1 - (1 - i) = i by omega] at k1
      have k2 := orz_s1 (X := []) hox hi k1
      have k3 : orz n (B ++ A) (P ++ a :: (M ++ b :: Q)) := orz_p (List.Perm.append_left _ (List.Perm.cons _ List.perm_middle)) k2
      have nx : slz x P.flatten = [] := slz_n (fun q hq => sl_nil k3 hx' q (by rw [List.flatten_append]; exact List.mem_append_left _ hq))
      have ny : slz y P.flatten = [] := slz_n (fun q hq => sl_nil k3 hy' q (by rw [List.flatten_append]; exact List.mem_append_left _ hq))
      refine core i hi _ _ hLL k3 ?_ (fun z zx zy => ?_) ?_ ?_
      · simp only [List.length_append, List.length_cons]
      · have ox : ∀ i r, slz z ((x, i) :: r) = slz z r := fun i r => slz_o (Or.inr (Ne.symm zx))
        have oy : ∀ i r, slz z ((y, i) :: r) = slz z r := fun i r => slz_o (Or.inr (Ne.symm zy))
        simp only [List.flatten_append, List.flatten_cons, slz_a, ox, oy]
      · rw [List.flatten_append, List.flatten_cons, slz_a, nx, List.nil_append, slz_a, slz_y (by omega)]
        rfl
      · rw [List.flatten_append, List.flatten_cons, slz_a, ny, List.nil_append, slz_a, slz_o (Or.inr hxy), slz_y (by omega)]
        rfl
    have m1 : (x, 1) ∈ L.flatten := (hL.2.2 _).mpr (Or.inr ⟨by omega, mx⟩)
    obtain ⟨c, hc, hu⟩ := List.mem_flatten.mp m1
    obtain ⟨P, Q, rfl⟩ := spl_m hc
    obtain ⟨a, b, rfl⟩ := spl_m hu
    obtain ⟨c, hL1, hv1⟩ := hd_x (by omega) ho hPd hL
    rw [hv1 ov]
    have m0 : (x, 0) ∈ (P ++ ((x, 1) :: (y, 1 - 1) :: c) :: Q).flatten := (hL1.2.2 _).mpr (Or.inr ⟨by omega, mx⟩)
    rw [List.flatten_append, List.flatten_cons] at m0
    rcases List.mem_append.mp m0 with h1 | h1
    · obtain ⟨d, hd, hd2⟩ := List.mem_flatten.mp h1
      obtain ⟨P1, M, rfl⟩ := spl_m hd
      obtain ⟨a', b', rfl⟩ := spl_m hd2
      rw [List.append_assoc, List.cons_append] at hL1 ⊢
      obtain ⟨d, hL2, hv2⟩ := hd_x (i := 0) (by omega) ho hPd hL1
      rw [hv2 ov]
      exact two 0 P1 M Q d c (by omega) hL2
    · rcases List.mem_append.mp h1 with h2 | h2
      · have h3 : (x, 0) ∈ c := by
          rcases List.mem_cons.mp h2 with h4 | h4
          · exact absurd (Prod.mk.inj h4).2 (by decide)
          · rcases List.mem_cons.mp h4 with h5 | h5
            · exact absurd (Prod.mk.inj h5).1 hxy
            · exact h5
        obtain ⟨d, e, rfl⟩ := spl_m h3
        have hcy := hL1.1 _ (List.mem_append_right P List.mem_cons_self)
        obtain ⟨p, r, e1, hp⟩ := hcy
        obtain ⟨rfl, rfl⟩ := List.cons.inj e1
        have hp2 := (pth_a.mp hp.2).2
        have es : sgm (B ++ (g, y) :: (g, x) :: A) (x, 0) = (y, 1 - 0) := s2_st (by omega) hxy hxB
        cases e with
        | nil =>
          have h9 : sgm (B ++ (g, y) :: (g, x) :: A) (x, 0) = (x, 1) := hp2
          rw [es] at h9
          exact absurd (Prod.mk.inj h9).1.symm hxy
        | cons t e =>
          have h9 : sgm (B ++ (g, y) :: (g, x) :: A) (x, 0) = t := hp2.1
          rw [es] at h9
          subst h9
          have h9 := hL1
          rw [eW] at h9
          have k1 := orz_s1 (X := []) (Y := (y, 1 - 1) :: d) (Z := (y, 1 - 0) :: e) (i := 1) ho2 (by omega) h9
          rw [eV, List.nil_append] at k1
          have k2 := orz_s2 (M := []) (a1 := []) (b1 := []) (i := 1) hox (by omega) k1
          rw [List.nil_append, List.nil_append, List.nil_append] at k2
          have nx : slz x P.flatten = [] := slz_n (fun q hq => sl_nil k2 hx' q (by rw [List.flatten_append]; exact List.mem_append_left _ hq))
          have ny : slz y P.flatten = [] := slz_n (fun q hq => sl_nil k2 hy' q (by rw [List.flatten_append]; exact List.mem_append_left _ hq))
          refine core 1 (by omega) _ _ hL1 k2 ?_ (fun z zx zy => ?_) ?_ ?_
          · simp only [List.length_append, List.length_cons]
          · have ox : ∀ i r, slz z ((x, i) :: r) = slz z r := fun i r => slz_o (Or.inr (Ne.symm zx))
            have oy : ∀ i r, slz z ((y, i) :: r) = slz z r := fun i r => slz_o (Or.inr (Ne.symm zy))
            simp only [List.flatten_append, List.flatten_cons, slz_a, ox, oy]
          · rw [List.flatten_append, List.flatten_cons, slz_a, nx, List.nil_append, slz_a, slz_y (by omega)]
            rfl
          · rw [List.flatten_append, List.flatten_cons, slz_a, ny, List.nil_append, slz_a, slz_o (Or.inr hxy), slz_y (by omega)]
            rfl
      · obtain ⟨d, hd, hd2⟩ := List.mem_flatten.mp h2
        obtain ⟨M, Q1, rfl⟩ := spl_m hd
        obtain ⟨a', b', rfl⟩ := spl_m hd2
        have e9 : ∀ T, P ++ ((x, 1) :: (y, 1 - 1) :: c) :: (M ++ T :: Q1) = (P ++ ((x, 1) :: (y, 1 - 1) :: c) :: M) ++ T :: Q1 := fun T => by
          rw [List.append_assoc]
          rfl
        rw [e9] at hL1 ⊢
        obtain ⟨d, hL2, hv2⟩ := hd_x (i := 0) (by omega) ho hPd hL1
        rw [hv2 ov]
        rw [← e9] at hL2 ⊢
        exact two 1 P M Q1 c d (by omega) hL2
end XTW9
end
section
/-! 99zzzzzzzzzzzzzzzzk.xtwa -/
/-! two: a track that no letter touches; a track that one letter touches -/
section XTWA
variable {n g x : Nat} {W A B : wd9} {L L' P Q : List (List tk9)}
theorem fs_mk {t : Nat} : ∀ {a b : List tk9} {met : List Nat}, fsz met (a ++ (t, 2) :: b) = fsz met (a ++ b)
  | [], b, met => fsz_k (Or.inl rfl)
  | p :: a, b, met => by
    rw [List.cons_append, List.cons_append]
    by_cases c : p.2 = 2 ∨ p.1 ∈ met
    · rw [fsz_k c, fsz_k c]
      exact fs_mk
    · rw [fsz_f c, fsz_f c, fs_mk]
theorem go_cr {P : pz9} {G G' : Nat → (Nat → Bool) → pz9} {S : List Nat} (hG : ∀ x, x ∈ S → ∀ o, G' x o = crz (G x o)) : ∀ (l : List (Nat × Bool)) (ov : Nat → Bool), (∀ p, p ∈ l → p.1 ∈ S) → goz (crz P) G' l ov = crz (goz P G l ov)
  | [], _, _ => rfl
  | p :: r, ov, hS => by
    have hr : ∀ q, q ∈ r → q.1 ∈ S := fun q hq => hS q (List.mem_cons_of_mem _ hq)
    by_cases c : p.2 = ov p.1
    · rw [goz_g c, goz_g c]
      exact go_cr hG r ov hr
    · rw [goz_b c, goz_b c, hG p.1 (hS p List.mem_cons_self), go_cr hG r _ hr, crz_sk]
theorem sg_fix : ∀ {W : wd9}, (∀ l, l ∈ W → l.1 + 1 < n) → sgm W (n, 2) = (n, 2)
  | [], _ => rfl
  | l :: W, h => by
    have hl := h l List.mem_cons_self
    rw [sgm_o (fun h9 => by have := (Prod.mk.inj h9).2; omega) (fun h9 => by have := (Prod.mk.inj h9).2; omega), sg_fix (fun m hm => h m (List.mem_cons_of_mem _ hm))]
    exact thz_o (fun h9 => by have := (Prod.mk.inj h9).1; omega) (fun h9 => by have := (Prod.mk.inj h9).1; omega)
/-- the track's own component -/
theorem or_c1 (ho : okw n W) (hL : orz (n + 1) W L) : ∃ P Q, L = P ++ [(n, 2)] :: Q := by
  have m : (n, 2) ∈ L.flatten := (hL.2.2 _).mpr (Or.inl ⟨rfl, by show n < n + 1; omega⟩)
  obtain ⟨c, hc, hu⟩ := List.mem_flatten.mp m
  obtain ⟨P, Q, rfl⟩ := spl_m hc
  obtain ⟨a, b, rfl⟩ := spl_m hu
  refine ⟨P, Q, ?_⟩
  have h1 := orz_t hL
  obtain ⟨p, r, e, hp⟩ := h1.1 _ (List.mem_append_right P List.mem_cons_self)
  rw [List.cons_append] at e h1
  obtain ⟨rfl, e2⟩ := List.cons.inj e
  cases r with
  | nil =>
    obtain ⟨rfl, rfl⟩ := List.append_eq_nil_iff.mp e2
    rfl
  | cons t r =>
    exfalso
    have h2 := hp.1
    rw [sg_fix ho.1] at h2
    have hn := h1.2.1
    rw [List.flatten_append, List.flatten_cons, e2, ← h2] at hn
    have k1 := (List.nodup_append.mp (List.nodup_append.mp hn).2.1).1
    exact (List.nodup_cons.mp k1).1 List.mem_cons_self
theorem or_c2 (hL : orz (n + 1) W (P ++ [(n, 2)] :: Q)) : orz n W (P ++ Q) := by
  have hp : (P ++ [(n, 2)] :: Q).flatten.Perm ((n, 2) :: (P ++ Q).flatten) := by
    rw [List.flatten_append, List.flatten_cons, List.flatten_append]
    exact List.perm_middle
  have hn := hp.nodup_iff.mp hL.2.1
  rw [List.nodup_cons] at hn
  refine ⟨fun c hc => hL.1 c ?_, hn.2, fun p => ?_⟩
  · rcases List.mem_append.mp hc with h9 | h9
    · exact List.mem_append_left _ h9
    · exact List.mem_append_right _ (List.mem_cons_of_mem _ h9)
  · have e := hL.2.2 p
    rw [hp.mem_iff, List.mem_cons] at e
    obtain ⟨a, i⟩ := p
    constructor
    · intro h9
      rcases e.mp (Or.inr h9) with ⟨h1, h2⟩ | h1
      · refine Or.inl ⟨h1, ?_⟩
        have h1 : i = 2 := h1
        have h2 : a < n + 1 := h2
        show a < n
        rcases (show a < n ∨ a = n by omega) with h3 | h3
        · exact h3
        · exact absurd (by rw [← h3, ← h1]; exact h9) hn.1
      · exact Or.inr h1
    · intro h9
      have h8 : tkz (n + 1) W (a, i) := by
        rcases h9 with ⟨h1, h2⟩ | h1
        · have h2 : a < n := h2
          exact Or.inl ⟨h1, by show a < n + 1; omega⟩
        · exact Or.inr h1
      rcases e.mpr h8 with h1 | h1
      · exfalso
        obtain ⟨rfl, rfl⟩ := Prod.mk.inj h1
        rcases h9 with ⟨-, h2⟩ | ⟨h2, -⟩
        · exact Nat.lt_irrefl _ h2
        · exact Nat.lt_irrefl _ h2
      · exact h1
theorem cr_V (h1n : 1 ≤ n) : ∀ (k : Nat) (W : wd9) (L : List (List tk9)) (ov : Nat → Bool), W.length = k → okw n W → okw (n + 1) W → orz (n + 1) W L → (∀ V, V.length < k → okw (n + 1) V → PhZ (n + 1) V) → (∀ V, V.length ≤ k → okw n V → PhZ n V) → vlz (Gz (n + 1) W) L ov = crz (Fz n W ov) := by
  intro k
  induction k with
  | zero =>
    intro W L ov hk ho ho1 hL h1 h2
    obtain ⟨P, Q, rfl⟩ := or_c1 ho hL
    have hL2 := or_c2 hL
    rw [← h2 W (by omega) ho _ ov hL2]
    have ne : 1 ≤ (P ++ Q).length := by
      have m : (0, 2) ∈ (P ++ Q).flatten := (hL2.2.2 _).mpr (Or.inl ⟨rfl, h1n⟩)
      obtain ⟨c, hc, -⟩ := List.mem_flatten.mp m
      exact List.length_pos_of_mem hc
    unfold vlz
    have e1 : fsz [] (P ++ [(n, 2)] :: Q).flatten = fsz [] (P ++ Q).flatten := by
      rw [List.flatten_append, List.flatten_cons, List.flatten_append]
      exact fs_mk
    have e2 : (P ++ [(n, 2)] :: Q).length - 1 = ((P ++ Q).length - 1) + 1 := by
      rw [List.length_append] at ne ⊢
      rw [List.length_append, List.length_cons]
      omega
    rw [e1, e2, lfz_s]
    exact go_cr (S := nmz W) (fun x hx => by rw [nm_0 hk] at hx; exact absurd hx List.not_mem_nil) _ ov (fun p hp => fs_nm hL2 hp)
  | succ k ih =>
    intro W L ov hk ho ho1 hL h1 h2
    obtain ⟨P, Q, rfl⟩ := or_c1 ho hL
    have hL2 := or_c2 hL
    rw [← h2 W (by omega) ho _ ov hL2]
    have ne : 1 ≤ (P ++ Q).length := by
      have m : (0, 2) ∈ (P ++ Q).flatten := (hL2.2.2 _).mpr (Or.inl ⟨rfl, h1n⟩)
      obtain ⟨c, hc, -⟩ := List.mem_flatten.mp m
      exact List.length_pos_of_mem hc
    unfold vlz
    have e1 : fsz [] (P ++ [(n, 2)] :: Q).flatten = fsz [] (P ++ Q).flatten := by
      rw [List.flatten_append, List.flatten_cons, List.flatten_append]
      exact fs_mk
    have e2 : (P ++ [(n, 2)] :: Q).length - 1 = ((P ++ Q).length - 1) + 1 := by
      rw [List.length_append] at ne ⊢
      rw [List.length_append, List.length_cons]
      omega
    rw [e1, e2, lfz_s]
    refine go_cr (S := nmz W) (fun x hx o => ?_) _ ov (fun p hp => fs_nm hL2 hp)
    obtain ⟨Lx, hLx⟩ := orz_dl ho1 hL hx
    have hl := len_dl ho1 hx
    show Fz (n + 1) (dlz x W) o = crz (Fz n (dlz x W) o)
    rw [← h1 (dlz x W) (by omega) (ok_dl ho1) Lx o hLx]
    exact ih (dlz x W) Lx o (by omega) (ok_dl ho) (ok_dl ho1) hLx (fun V hV => h1 V (by omega)) (fun V hV => h2 V (by omega))
/-- one letter at the last track: a loop -/
theorem s1_st : ∀ {B : wd9}, (∀ l, l ∈ B → l.1 + 1 < g + 1) → (∀ l, l ∈ A → l.1 + 1 < g + 1) → x ∉ nmz B → sgm (B ++ (g, x) :: A) (x, 1) = (g + 1, 2) ∧ sgm (B ++ (g, x) :: A) (g + 1, 2) = (x, 0)
  | [], _, hA, _ => by
    refine ⟨sgm_1 (l := (g, x)), ?_⟩
    show sgm ((g, x) :: A) (g + 1, 2) = (x, 0)
    rw [sgm_o (fun h9 => by have := (Prod.mk.inj h9).2; omega) (fun h9 => by have := (Prod.mk.inj h9).2; omega), sg_fix hA]
    exact thz_0 g x
  | l :: B, hB, hA, hx => by
    have hl : x ≠ l.2 := fun h9 => hx (by rw [h9]; exact List.mem_cons_self)
    have hl1 := hB l List.mem_cons_self
    obtain ⟨i1, i2⟩ := s1_st (fun m hm => hB m (List.mem_cons_of_mem _ hm)) hA (fun h9 => hx (List.mem_cons_of_mem _ h9))
    constructor
    · show sgm (l :: (B ++ (g, x) :: A)) (x, 1) = _
      rw [sgm_o (fun h9 => hl (Prod.mk.inj h9).1) (fun h9 => hl (Prod.mk.inj h9).1), i1]
      exact thz_o (fun h9 => by have := (Prod.mk.inj h9).1; omega) (fun h9 => by have := (Prod.mk.inj h9).1; omega)
    · show sgm (l :: (B ++ (g, x) :: A)) (g + 1, 2) = _
      rw [sgm_o (fun h9 => by have := (Prod.mk.inj h9).2; omega) (fun h9 => by have := (Prod.mk.inj h9).2; omega), i2]
      exact thz_v (show (0 : Nat) ≠ 2 by decide)
theorem r1_V : ∀ (k : Nat) (B A : wd9) (L : List (List tk9)), (B ++ (g, x) :: A).length = k → okw (g + 1) (B ++ A) → okw (g + 2) (B ++ (g, x) :: A) → orz (g + 2) (B ++ (g, x) :: A) L → (∀ V, V.length < k → okw (g + 2) V → PhZ (g + 2) V) → (∀ V, V.length ≤ k → okw (g + 1) V → PhZ (g + 1) V) → ∀ ov : Nat → Bool, vlz (Gz (g + 2) (B ++ (g, x) :: A)) L ov = Fz (g + 1) (B ++ A) ov
  | 0, B, A, L, hk, _, _, _, _, _, _ => by
    rw [List.length_append] at hk
    simp at hk
  | k + 1, B, A, L, hk, hob, ho, hL, h1, h2, ov => by
    obtain ⟨hxA, hxB, ho2⟩ := okw_d ho
    have mx : x ∈ nmz (B ++ (g, x) :: A) := by
      rw [nm_a]
      exact List.mem_append_right _ List.mem_cons_self
    have dx : dlz x (B ++ (g, x) :: A) = B ++ A := dlz_e hxA hxB
    have hlx := len_dl ho mx
    rw [dx] at hlx
    have hx' : x ∉ nmz (B ++ A) := fun h9 => by
      rw [nm_a] at h9
      exact (List.mem_append.mp h9).elim hxB hxA
    obtain ⟨s1, s2⟩ := s1_st (x := x) (fun l hl => hob.1 l (List.mem_append_left _ hl)) (fun l hl => hob.1 l (List.mem_append_right _ hl)) hxB
    have hPd : ∀ z, z ∈ nmz (B ++ (g, x) :: A) → PhZ (g + 2) (dlz z (B ++ (g, x) :: A)) := fun z hz => h1 _ (by rw [← hk]; exact dlz_lt hz) (ok_dl ho)
    have m1 : (x, 1) ∈ L.flatten := (hL.2.2 _).mpr (Or.inr ⟨by omega, mx⟩)
    obtain ⟨c, hc, hu⟩ := List.mem_flatten.mp m1
    obtain ⟨P, Q, rfl⟩ := spl_m hc
    obtain ⟨a, b, rfl⟩ := spl_m hu
    rw [bs_r ho (sk_W ho hL) hPd a ((x, 1) :: b) hL ov]
    have hL1 := orz_t hL
    have h3 := hL1.1 _ (List.mem_append_right P List.mem_cons_self)
    rw [List.cons_append] at hL1 h3 ⊢
    generalize b ++ a = c at hL1 h3 ⊢
    obtain ⟨p, r, e, hp⟩ := h3
    obtain ⟨rfl, rfl⟩ := List.cons.inj e
    cases c with
    | nil =>
      have h9 : sgm (B ++ (g, x) :: A) (x, 1) = (x, 1) := hp
      rw [s1] at h9
      exact absurd (Prod.mk.inj h9).2 (by decide)
    | cons t c =>
      have h9 : sgm (B ++ (g, x) :: A) (x, 1) = t := hp.1
      rw [s1] at h9
      subst h9
      have hp := hp.2
      cases c with
      | nil =>
        have h9 : sgm (B ++ (g, x) :: A) (g + 1, 2) = (x, 1) := hp
        rw [s2] at h9
        exact absurd (Prod.mk.inj h9).2 (by decide)
      | cons t c =>
        have h9 : sgm (B ++ (g, x) :: A) (g + 1, 2) = t := hp.1
        rw [s2] at h9
        subst h9
        have k1 := orz_s1 (X := []) (Y := [(g + 1, 2)]) (Z := c) (i := 1) ho (by omega) hL1
        rw [List.nil_append] at k1
        have k2 : orz (g + 1) (B ++ A) (P ++ c :: Q) := by
          have e9 : P ++ c :: [(g + 1, 2)] :: Q = (P ++ [c]) ++ [(g + 1, 2)] :: Q := by
            rw [List.append_assoc]
            rfl
          rw [e9] at k1
          have := or_c2 k1
          rw [List.append_assoc] at this
          exact this
        have hG := sk_W ho hL1
        have hsk := vlz_sk hG hL1
        obtain ⟨ov0, g0, e0⟩ := gd_ex k2 ov
        have nx : slz x P.flatten = [] := slz_n (fun q hq => sl_nil k2 hx' q (by rw [List.flatten_append]; exact List.mem_append_left _ hq))
        have fx : (slz x (P ++ ((x, 1) :: (g + 1, 2) :: (x, 0) :: c) :: Q).flatten).head? = some (x, 1) := by
          rw [List.flatten_append, List.flatten_cons, slz_a, nx, List.nil_append, slz_a, slz_y (by omega)]
          rfl
        have gd9 : ∀ o : Nat → Bool, (∀ z, z ≠ x → o z = ov0 z) → o x = true → gdz (P ++ ((x, 1) :: (g + 1, 2) :: (x, 0) :: c) :: Q) o := fun o q1 q2 => gd_of (fun z j hj => by
          by_cases zx : z = x
          · subst zx
            rw [fx] at hj
            rw [← (Prod.mk.inj (Option.some.inj hj)).2, q2]
            rfl
          · rw [q1 z zx]
            refine gd_at g0 ?_
            have ox : ∀ i r, slz z ((x, i) :: r) = slz z r := fun i r => slz_o (Or.inr (Ne.symm zx))
            have om : ∀ t r, slz z ((t, 2) :: r) = slz z r := fun t r => slz_o (Or.inl rfl)
            simp only [List.flatten_append, List.flatten_cons, slz_a, ox, om] at hj ⊢
            exact hj)
        have len : (P ++ ((x, 1) :: (g + 1, 2) :: (x, 0) :: c) :: Q).length = (P ++ c :: Q).length := by
          simp only [List.length_append, List.length_cons]
        refine skR_eq (R := fun _ => True) (G := fun z ov => Fz (g + 1) (dlz z (B ++ A)) ov) (nmz (B ++ A)) (fun _ _ _ _ => trivial) (fun o z _ hz9 => ?_) (fun o z _ hz9 => ?_) ov ov0 trivial e0 ?_
        · have zx : x ≠ z := fun h9 => hx' (by rw [h9]; exact hz9)
          have mz : z ∈ nmz (B ++ (g, x) :: A) := by
            rw [nm_a] at hz9 ⊢
            rcases List.mem_append.mp hz9 with h9 | h9
            · exact List.mem_append_left _ h9
            · exact List.mem_append_right _ (List.mem_cons_of_mem _ h9)
          have := hsk o z mz
          rw [this]
          congr 1
          obtain ⟨Lz, hLz⟩ := orz_dl ho hL1 mz
          have hl := len_dl ho mz
          have hoz := ok_dl (x := z) ho
          show Fz (g + 2) (dlz z (B ++ (g, x) :: A)) o = Fz (g + 1) (dlz z (B ++ A)) o
          rw [← hPd z mz Lz o hLz]
          have ed : dlz z (B ++ (g, x) :: A) = dlz z B ++ (g, x) :: dlz z A := by
            rw [dlz_a, dlz_c (show (g, x).2 ≠ z from zx)]
          rw [ed] at hLz hl hoz ⊢
          rw [r1_V k (dlz z B) (dlz z A) Lz (by omega) (by rw [← dlz_a]; exact ok_dl hob) hoz hLz (fun V hV => h1 V (by omega)) (fun V hV => h2 V (by omega)) o, ← dlz_a]
        · exact sk_F hob k2 o z hz9
        · have e1 : Fz (g + 1) (B ++ A) ov0 = lfz ((P ++ c :: Q).length - 1) := by
            rw [← h2 (B ++ A) (by omega) hob _ ov0 k2, vlz_g g0]
          rw [e1]
          by_cases c9 : ov0 x = true
          · rw [vlz_g (gd9 ov0 (fun _ _ => rfl) c9), len]
          · have c8 : ov0 x = false := by
              revert c9
              cases ov0 x <;> decide
            rw [hsk ov0 x mx, vlz_g (gd9 (flz ov0 x) (fun z hz => flz_ot hz) (by rw [flz_at, c8]; rfl)), len, show Gz (g + 2) (B ++ (g, x) :: A) x ov0 = Fz (g + 2) (dlz x (B ++ (g, x) :: A)) ov0 from rfl, dx, ← h1 (B ++ A) (by omega) ho2 _ ov0 k1, cr_V (by omega) k (B ++ A) _ ov0 (by omega) hob ho2 k1 (fun V hV => h1 V (by omega)) (fun V hV => h2 V (by omega)), e1]
            exact skz_lp _ _
end XTWA
end
section
/-! 99zzzzzzzzzzzzzzzzl.xtwb -/
/-! two: three letters: orders on both sides -/
def t3z (x y w : Nat) (p : tk9) : tk9 := if p.2 = 1 then (if p.1 = x then (y, 1) else if p.1 = y then (x, 1) else if p.1 = w then (x, 0) else p) else if p.2 = 0 then (if p.1 = x then (w, 1) else if p.1 = w then (y, 0) else if p.1 = y then (w, 0) else p) else p
section XTWB
variable {n g x y w : Nat} {W W' A B : wd9} {L L' P Q : List (List tk9)}
theorem t3_m {t : Nat} : t3z x y w (t, 2) = (t, 2) := rfl
theorem t3_x1 : t3z x y w (x, 1) = (y, 1) := by simp [t3z]
theorem t3_y1 (h : x ≠ y) : t3z x y w (y, 1) = (x, 1) := by simp [t3z, Ne.symm h]
theorem t3_w1 (h1 : x ≠ w) (h2 : y ≠ w) : t3z x y w (w, 1) = (x, 0) := by simp [t3z, Ne.symm h1, Ne.symm h2]
theorem t3_x0 : t3z x y w (x, 0) = (w, 1) := by simp [t3z]
theorem t3_w0 (h1 : x ≠ w) : t3z x y w (w, 0) = (y, 0) := by simp [t3z, Ne.symm h1]
theorem t3_y0 (h : x ≠ y) (h2 : y ≠ w) : t3z x y w (y, 0) = (w, 0) := by simp [t3z, Ne.symm h, h2]
theorem t3_o {p : tk9} (h1 : p.1 ≠ x) (h2 : p.1 ≠ y) (h3 : p.1 ≠ w) : t3z x y w p = p := by simp [t3z, h1, h2, h3]
theorem t3_2 {p : tk9} (h : p.2 = 2) : t3z x y w p = p := by simp [t3z, h]
/-- who is one of the six -/
theorem t3_cs (p : tk9) : p = (x, 1) ∨ p = (x, 0) ∨ p = (y, 1) ∨ p = (y, 0) ∨ p = (w, 1) ∨ p = (w, 0) ∨ (nov x p ∧ nov y p ∧ nov w p) := by
  by_cases a1 : p = (x, 1)
  · exact Or.inl a1
  by_cases a2 : p = (x, 0)
  · exact Or.inr (Or.inl a2)
  by_cases a3 : p = (y, 1)
  · exact Or.inr (Or.inr (Or.inl a3))
  by_cases a4 : p = (y, 0)
  · exact Or.inr (Or.inr (Or.inr (Or.inl a4)))
  by_cases a5 : p = (w, 1)
  · exact Or.inr (Or.inr (Or.inr (Or.inr (Or.inl a5))))
  by_cases a6 : p = (w, 0)
  · exact Or.inr (Or.inr (Or.inr (Or.inr (Or.inr (Or.inl a6)))))
  exact Or.inr (Or.inr (Or.inr (Or.inr (Or.inr (Or.inr ⟨⟨a1, a2⟩, ⟨a3, a4⟩, a5, a6⟩)))))
theorem t3_n {p : tk9} (h1 : nov x p) (h2 : nov y p) (h3 : nov w p) : t3z x y w p = p := by
  obtain ⟨a, i⟩ := p
  by_cases i1 : i = 1
  · subst i1
    exact t3_o (fun h9 => h1.1 (by rw [show a = x from h9])) (fun h9 => h2.1 (by rw [show a = y from h9])) (fun h9 => h3.1 (by rw [show a = w from h9]))
  · by_cases i0 : i = 0
    · subst i0
      exact t3_o (fun h9 => h1.2 (by rw [show a = x from h9])) (fun h9 => h2.2 (by rw [show a = y from h9])) (fun h9 => h3.2 (by rw [show a = w from h9]))
    · simp [t3z, i1, i0]
theorem t3_i (hxy : x ≠ y) (hxw : x ≠ w) (hyw : y ≠ w) (p : tk9) : t3z x y w (t3z x y w p) = p := by
  rcases t3_cs (x := x) (y := y) (w := w) p with h | h | h | h | h | h | ⟨h1, h2, h3⟩
  · rw [h, t3_x1, t3_y1 hxy]
  · rw [h, t3_x0, t3_w1 hxw hyw]
  · rw [h, t3_y1 hxy, t3_x1]
  · rw [h, t3_y0 hxy hyw, t3_w0 hxw]
  · rw [h, t3_w1 hxw hyw, t3_x0]
  · rw [h, t3_w0 hxw, t3_y0 hxy hyw]
  · rw [t3_n h1 h2 h3, t3_n h1 h2 h3]
theorem t3_b (hxy : x ≠ y) (hxw : x ≠ w) (hyw : y ≠ w) {p : tk9} (h : p.2 ≠ 2) : (t3z x y w p).2 ≠ 2 := by
  rcases t3_cs (x := x) (y := y) (w := w) p with h9 | h9 | h9 | h9 | h9 | h9 | ⟨h1, h2, h3⟩
  · rw [h9, t3_x1]
    exact (by decide : (1 : Nat) ≠ 2)
  · rw [h9, t3_x0]
    exact (by decide : (1 : Nat) ≠ 2)
  · rw [h9, t3_y1 hxy]
    exact (by decide : (1 : Nat) ≠ 2)
  · rw [h9, t3_y0 hxy hyw]
    exact (by decide : (0 : Nat) ≠ 2)
  · rw [h9, t3_w1 hxw hyw]
    exact (by decide : (0 : Nat) ≠ 2)
  · rw [h9, t3_w0 hxw]
    exact (by decide : (0 : Nat) ≠ 2)
  · rw [t3_n h1 h2 h3]
    exact h
theorem mk_ne {a b i j : Nat} (h : a ≠ b) : ((a, i) : tk9) ≠ (b, j) := fun h9 => h (Prod.mk.inj h9).1
theorem t3_sg (hxy : x ≠ y) (hxw : x ≠ w) (hyw : y ≠ w) (hxA : x ∉ nmz A) (hyA : y ∉ nmz A) (hwA : w ∉ nmz A) : ∀ {B : wd9}, x ∉ nmz B → y ∉ nmz B → w ∉ nmz B → ∀ p, sgm (B ++ (g, w) :: (g + 1, y) :: (g, x) :: A) (t3z x y w p) = t3z x y w (sgm (B ++ (g + 1, x) :: (g, y) :: (g + 1, w) :: A) p)
  | [], _, _, _, p => by
    show sgm ((g, w) :: (g + 1, y) :: (g, x) :: A) (t3z x y w p) = t3z x y w (sgm ((g + 1, x) :: (g, y) :: (g + 1, w) :: A) p)
    have w1 : sgm ((g, w) :: (g + 1, y) :: (g, x) :: A) (w, 1) = (g + 1, 2) := sgm_1 (l := (g, w))
    have w0 : sgm ((g, w) :: (g + 1, y) :: (g, x) :: A) (w, 0) = (g, 2) := sgm_0 (l := (g, w))
    have n2 : ((g + 2, 2) : tk9) ≠ (g, 2) := mk_ne (by omega)
    have n3 : ((g + 2, 2) : tk9) ≠ (g + 1, 2) := mk_ne (by omega)
    have n4 : ((g, 2) : tk9) ≠ (g + 1, 2) := mk_ne (by omega)
    have n5 : ((g, 2) : tk9) ≠ (g + 1 + 1, 2) := mk_ne (by omega)
    have n6 : ((g + 1, 2) : tk9) ≠ (g, 2) := mk_ne (by omega)
    have y1 : sgm ((g, w) :: (g + 1, y) :: (g, x) :: A) (y, 1) = (g + 2, 2) := by
      rw [sgm_o (mk_ne hyw) (mk_ne hyw), show sgm ((g + 1, y) :: (g, x) :: A) (y, 1) = (g + 2, 2) from sgm_1 (l := (g + 1, y))]
      exact thz_o n2 n3
    have y0 : sgm ((g, w) :: (g + 1, y) :: (g, x) :: A) (y, 0) = (w, 0) := by
      rw [sgm_o (mk_ne hyw) (mk_ne hyw), show sgm ((g + 1, y) :: (g, x) :: A) (y, 0) = (g + 1, 2) from sgm_0 (l := (g + 1, y))]
      exact thz_0 g w
    have x1 : sgm ((g, w) :: (g + 1, y) :: (g, x) :: A) (x, 1) = (y, 1) := by
      rw [sgm_o (mk_ne hxw) (mk_ne hxw), sgm_o (mk_ne hxy) (mk_ne hxy), show sgm ((g, x) :: A) (x, 1) = (g + 1, 2) from sgm_1 (l := (g, x)), thz_1 (g + 1) y]
      exact thz_v (show (1 : Nat) ≠ 2 by decide)
    have x0 : sgm ((g, w) :: (g + 1, y) :: (g, x) :: A) (x, 0) = (w, 1) := by
      rw [sgm_o (mk_ne hxw) (mk_ne hxw), sgm_o (mk_ne hxy) (mk_ne hxy), show sgm ((g, x) :: A) (x, 0) = (g, 2) from sgm_0 (l := (g, x)), thz_o n4 n5]
      exact thz_1 g w
    have X1 : sgm ((g + 1, x) :: (g, y) :: (g + 1, w) :: A) (x, 1) = (g + 2, 2) := sgm_1 (l := (g + 1, x))
    have X0 : sgm ((g + 1, x) :: (g, y) :: (g + 1, w) :: A) (x, 0) = (g + 1, 2) := sgm_0 (l := (g + 1, x))
    have Y1 : sgm ((g + 1, x) :: (g, y) :: (g + 1, w) :: A) (y, 1) = (x, 1) := by
      rw [sgm_o (mk_ne (Ne.symm hxy)) (mk_ne (Ne.symm hxy)), show sgm ((g, y) :: (g + 1, w) :: A) (y, 1) = (g + 1, 2) from sgm_1 (l := (g, y))]
      exact thz_1 (g + 1) x
    have Y0 : sgm ((g + 1, x) :: (g, y) :: (g + 1, w) :: A) (y, 0) = (g, 2) := by
      rw [sgm_o (mk_ne (Ne.symm hxy)) (mk_ne (Ne.symm hxy)), show sgm ((g, y) :: (g + 1, w) :: A) (y, 0) = (g, 2) from sgm_0 (l := (g, y))]
      exact thz_o n4 n5
    have W1 : sgm ((g + 1, x) :: (g, y) :: (g + 1, w) :: A) (w, 1) = (x, 0) := by
      rw [sgm_o (mk_ne (Ne.symm hxw)) (mk_ne (Ne.symm hxw)), sgm_o (mk_ne (Ne.symm hyw)) (mk_ne (Ne.symm hyw)), show sgm ((g + 1, w) :: A) (w, 1) = (g + 2, 2) from sgm_1 (l := (g + 1, w)), thz_o n2 n3]
      exact thz_0 (g + 1) x
    have W0 : sgm ((g + 1, x) :: (g, y) :: (g + 1, w) :: A) (w, 0) = (y, 0) := by
      rw [sgm_o (mk_ne (Ne.symm hxw)) (mk_ne (Ne.symm hxw)), sgm_o (mk_ne (Ne.symm hyw)) (mk_ne (Ne.symm hyw)), show sgm ((g + 1, w) :: A) (w, 0) = (g + 1, 2) from sgm_0 (l := (g + 1, w)), thz_0 g y]
      exact thz_v (show (0 : Nat) ≠ 2 by decide)
    rcases t3_cs (x := x) (y := y) (w := w) p with h | h | h | h | h | h | ⟨h1, h2, h3⟩
    · rw [h, t3_x1, y1, X1, t3_m]
    · rw [h, t3_x0, w1, X0, t3_m]
    · rw [h, t3_y1 hxy, x1, Y1, t3_x1]
    · rw [h, t3_y0 hxy hyw, w0, Y0, t3_m]
    · rw [h, t3_w1 hxw hyw, x0, W1, t3_x0]
    · rw [h, t3_w0 hxw, y0, W0, t3_y0 hxy hyw]
    · rw [t3_n h1 h2 h3, sgm_o h3.1 h3.2, sgm_o h2.1 h2.2, sgm_o h1.1 h1.2, sgm_o h1.1 h1.2, sgm_o h2.1 h2.2, sgm_o h3.1 h3.2]
      have q1 := sgm_n hxA h1
      have q2 := sgm_n hyA h2
      have q3 := sgm_n hwA h3
      generalize sgm A p = q at q1 q2 q3
      show thz g w (thz (g + 1) y (thz g x q)) = t3z x y w (thz (g + 1) x (thz g y (thz (g + 1) w q)))
      by_cases c0 : q = (g, 2)
      · rw [c0, thz_1, thz_v (p := (x, 1)) (by decide : (1 : Nat) ≠ 2), thz_v (p := (x, 1)) (by decide : (1 : Nat) ≠ 2), thz_o n4 n5, thz_1, thz_v (p := (y, 1)) (by decide : (1 : Nat) ≠ 2), t3_y1 hxy]
      · by_cases c1 : q = (g + 1, 2)
        · rw [c1, thz_0, thz_v (p := (x, 0)) (by decide : (0 : Nat) ≠ 2), thz_v (p := (x, 0)) (by decide : (0 : Nat) ≠ 2), thz_1, thz_v (p := (w, 1)) (by decide : (1 : Nat) ≠ 2), thz_v (p := (w, 1)) (by decide : (1 : Nat) ≠ 2), t3_w1 hxw hyw]
        · by_cases c2 : q = (g + 1 + 1, 2)
          · rw [c2, thz_o (show ((g + 1 + 1, 2) : tk9) ≠ (g, 2) from n2) (show ((g + 1 + 1, 2) : tk9) ≠ (g + 1, 2) from n3), thz_0, thz_v (p := (y, 0)) (by decide : (0 : Nat) ≠ 2), thz_0, thz_v (p := (w, 0)) (by decide : (0 : Nat) ≠ 2), thz_v (p := (w, 0)) (by decide : (0 : Nat) ≠ 2), t3_w0 hxw]
          · rw [thz_o c0 c1, thz_o c1 c2, thz_o c0 c1, thz_o c1 c2, thz_o c0 c1, thz_o c1 c2, t3_n q1 q2 q3]
  | l :: B, hx, hy, hw, p => by
    have lx : l.2 ≠ x := fun h9 => hx (by rw [← h9]; exact List.mem_cons_self)
    have ly : l.2 ≠ y := fun h9 => hy (by rw [← h9]; exact List.mem_cons_self)
    have lw : l.2 ≠ w := fun h9 => hw (by rw [← h9]; exact List.mem_cons_self)
    have ih := t3_sg hxy hxw hyw hxA hyA hwA (fun h9 => hx (List.mem_cons_of_mem _ h9)) (fun h9 => hy (List.mem_cons_of_mem _ h9)) (fun h9 => hw (List.mem_cons_of_mem _ h9)) p
    show sgm (l :: (B ++ (g, w) :: (g + 1, y) :: (g, x) :: A)) (t3z x y w p) = t3z x y w (sgm (l :: (B ++ (g + 1, x) :: (g, y) :: (g + 1, w) :: A)) p)
    by_cases h1 : p = (l.2, 1)
    · rw [h1, t3_o (p := (l.2, 1)) lx ly lw, sgm_1, sgm_1, t3_m]
    · by_cases h0 : p = (l.2, 0)
      · rw [h0, t3_o (p := (l.2, 0)) lx ly lw, sgm_0, sgm_0, t3_m]
      · have k1 : t3z x y w p ≠ (l.2, 1) := fun h9 => h1 (by rw [← t3_i hxy hxw hyw p, h9, t3_o (p := (l.2, 1)) lx ly lw])
        have k0 : t3z x y w p ≠ (l.2, 0) := fun h9 => h0 (by rw [← t3_i hxy hxw hyw p, h9, t3_o (p := (l.2, 0)) lx ly lw])
        rw [sgm_o k1 k0, sgm_o h1 h0, ih]
        generalize sgm (B ++ (g + 1, x) :: (g, y) :: (g + 1, w) :: A) p = q
        by_cases q2 : q.2 = 2
        · rw [t3_2 q2]
          by_cases c0 : q = (l.1, 2)
          · rw [c0, thz_1, t3_o (p := (l.2, 1)) lx ly lw]
          · by_cases c1 : q = (l.1 + 1, 2)
            · rw [c1, thz_0, t3_o (p := (l.2, 0)) lx ly lw]
            · rw [thz_o c0 c1, t3_2 q2]
        · rw [thz_v q2, thz_v (t3_b hxy hxw hyw q2)]
theorem cj_pt {τ : tk9 → tk9} (hs : ∀ p, sgm W' (τ p) = τ (sgm W p)) : ∀ {r : List tk9} {p q : tk9}, pth (sgm W) p r q → pth (sgm W') (τ p) (r.map τ) (τ q)
  | [], p, q, h => by
    have h : sgm W p = q := h
    show sgm W' (τ p) = τ q
    rw [hs, h]
  | a :: r, p, q, h => ⟨by rw [hs, h.1], cj_pt hs h.2⟩
theorem cj_fl {τ : tk9 → tk9} : ∀ (L : List (List tk9)), (L.map (List.map τ)).flatten = L.flatten.map τ
  | [] => rfl
  | c :: L => by
    rw [List.map_cons, List.flatten_cons, List.flatten_cons, List.map_append, cj_fl]
theorem cj_or {τ : tk9 → tk9} (hi : ∀ p, τ (τ p) = p) (hs : ∀ p, sgm W' (τ p) = τ (sgm W p)) (ht : ∀ p, tkz n W' p ↔ tkz n W (τ p)) (h : orz n W L) : orz n W' (L.map (List.map τ)) := by
  refine ⟨fun c hc => ?_, ?_, fun p => ?_⟩
  · obtain ⟨c0, h1, rfl⟩ := List.mem_map.mp hc
    obtain ⟨p, r, rfl, hp⟩ := h.1 c0 h1
    exact ⟨τ p, r.map τ, rfl, cj_pt hs hp⟩
  · rw [cj_fl]
    exact List.Pairwise.map τ (fun a b hab h9 => hab (by rw [← hi a, h9, hi])) h.2.1
  · rw [cj_fl, ht, ← h.2.2]
    constructor
    · intro h9
      obtain ⟨q, h1, h2⟩ := List.mem_map.mp h9
      rw [← h2, hi]
      exact h1
    · intro h9
      exact List.mem_map.mpr ⟨_, h9, hi p⟩
/-- side by side within a component -/
def adz (L : List (List tk9)) (p q : tk9) : Prop := ∃ c, c ∈ L ∧ ∃ u v, c = u ++ p :: q :: v
theorem adz_k {p q : tk9} (h : adz L' p q) : ∃ k, L'.flatten[k]? = some p ∧ L'.flatten[k + 1]? = some q := by
  obtain ⟨c, hc, u, v, rfl⟩ := h
  obtain ⟨P, Q, rfl⟩ := spl_m hc
  refine ⟨P.flatten.length + u.length, ?_, ?_⟩
  · rw [List.flatten_append, List.flatten_cons, List.append_assoc, List.getElem?_append_right (by omega), List.getElem?_append_right (by omega)]
    simp
  · rw [List.flatten_append, List.flatten_cons, List.append_assoc, List.getElem?_append_right (by omega), List.getElem?_append_right (by omega), show P.flatten.length + u.length + 1 - P.flatten.length - u.length = 1 by omega]
    rfl
theorem rotA {u : tk9} (ho : okw n W) (hP : ∀ z, z ∈ nmz W → PhZ n (dlz z W)) (hL : orz n W L) (hu : u ∈ L.flatten) (hne : sgm W u ≠ u) : ∃ L', orz n W L' ∧ (∀ ov, vlz (Gz n W) L ov = vlz (Gz n W) L' ov) ∧ L'.length = L.length ∧ adz L' u (sgm W u) ∧ ∀ p q, q ≠ u → adz L p q → adz L' p q := by
  obtain ⟨c, hc, hu2⟩ := List.mem_flatten.mp hu
  obtain ⟨P, Q, rfl⟩ := spl_m hc
  obtain ⟨a, b, rfl⟩ := spl_m hu2
  have h1 := orz_t hL
  obtain ⟨p, r, e, hp⟩ := h1.1 _ (List.mem_append_right P List.mem_cons_self)
  rw [List.cons_append] at e
  obtain ⟨rfl, e2⟩ := List.cons.inj e
  cases b with
  | nil =>
    rw [List.nil_append] at e2
    refine ⟨P ++ ([u] ++ a) :: Q, h1, bs_r ho (sk_W ho hL) hP a [u] hL, by simp only [List.length_append, List.length_cons], ?_, fun p q hq ⟨c, hc, s, t, ec⟩ => ?_⟩
    · cases r with
      | nil => exact absurd hp hne
      | cons v r =>
        refine ⟨[u] ++ a, List.mem_append_right _ List.mem_cons_self, [], r, ?_⟩
        rw [e2, hp.1]
        rfl
    · rcases List.mem_append.mp hc with h9 | h9
      · exact ⟨c, List.mem_append_left _ h9, s, t, ec⟩
      · rcases List.mem_cons.mp h9 with h8 | h8
        · rw [h8] at ec
          rcases List.eq_nil_or_concat t with ht | ⟨t', b9, ht⟩
          · exfalso
            rw [ht] at ec
            have e5 : a ++ [u] = (s ++ [p]) ++ [q] := by rw [ec, List.append_assoc]; rfl
            have := List.append_inj' e5 rfl
            exact hq (List.cons.inj this.2).1.symm
          · rw [ht] at ec
            have e5 : a ++ [u] = (s ++ p :: q :: t') ++ [b9] := by rw [ec, List.concat_eq_append, List.append_assoc]; rfl
            have := List.append_inj' e5 rfl
            refine ⟨[u] ++ a, List.mem_append_right _ List.mem_cons_self, u :: s, t', ?_⟩
            rw [this.1]
            rfl
        · exact ⟨c, List.mem_append_right _ (List.mem_cons_of_mem _ h8), s, t, ec⟩
  | cons v b =>
    refine ⟨_, hL, fun _ => rfl, rfl, ⟨_, List.mem_append_right _ List.mem_cons_self, a, b, ?_⟩, fun p q _ h9 => h9⟩
    rw [← e2] at hp
    rw [show sgm W u = v from hp.1]
end XTWB
end
section
/-! 99zzzzzzzzzzzzzzzzm.xtwc -/
/-! two: three letters: the values -/
section XTWC
variable {n g x y w : Nat} {W A B : wd9} {L : List (List tk9)}
theorem nd_pos {l : List tk9} {i j : Nat} {p : tk9} (hn : l.Nodup) (h1 : l[i]? = some p) (h2 : l[j]? = some p) : i = j := by
  obtain ⟨a1, a2⟩ := List.getElem?_eq_some_iff.mp h1
  obtain ⟨b1, b2⟩ := List.getElem?_eq_some_iff.mp h2
  have hp := List.pairwise_iff_getElem.mp hn
  rcases Nat.lt_trichotomy i j with h | h | h
  · exact absurd (a2.trans b2.symm) (hp i j a1 b1 h)
  · exact h
  · exact absurd (b2.trans a2.symm) (hp j i b1 a1 h)
/-- the first visit, by places -/
theorem pos_fv {z j i1 i0 : Nat} (hL : orz n W L) (h : fvz L.flatten z j) (h1 : L.flatten[i1]? = some (z, 1)) (h0 : L.flatten[i0]? = some (z, 0)) : (j = 1 ↔ i1 < i0) := by
  obtain ⟨a, c, e, h2, h3⟩ := h
  have hj : L.flatten[a.length]? = some (z, j) := by
    rw [e, List.getElem?_append_right (Nat.le_refl _), Nat.sub_self]
    rfl
  have big : ∀ k i, L.flatten[k]? = some (z, i) → i ≠ 2 → a.length ≤ k := fun k i hk hi => by
    rcases Nat.lt_or_ge k a.length with h9 | h9
    · exfalso
      rw [e, List.getElem?_append_left h9] at hk
      rcases h3 _ (List.mem_of_getElem? hk) with h8 | h8
      · exact hi h8
      · exact h8 rfl
    · exact h9
  have b1 := big i1 1 h1 (by decide)
  have b0 := big i0 0 h0 (by decide)
  have hne : i1 ≠ i0 := fun h9 => by
    rw [h9, h0] at h1
    exact absurd (Prod.mk.inj (Option.some.inj h1)).2 (by decide)
  constructor
  · intro e1
    rw [e1] at hj
    have := nd_pos hL.2.1 hj h1
    omega
  · intro hlt
    have hm : (z, j) ∈ L.flatten := List.mem_of_getElem? hj
    rcases (hL.2.2 _).mp hm with ⟨h9, -⟩ | ⟨h9, -⟩
    · exact absurd h9 h2
    · have h9 : j < 2 := h9
      rcases (show j = 0 ∨ j = 1 by omega) with e1 | e1
      · rw [e1] at hj
        have := nd_pos hL.2.1 hj h0
        omega
      · exact e1
theorem tkp_ex {p : tk9} (h : p ∈ L.flatten) : ∃ k : Nat, L.flatten[k]? = some p := List.getElem?_of_mem h
theorem gd_p1 {ov : Nat → Bool} {z i1 i0 : Nat} (hL : orz n W L) (hg : gdz L ov) (h1 : L.flatten[i1]? = some (z, 1)) (h0 : L.flatten[i0]? = some (z, 0)) : ov z = decide (i1 < i0) := by
  obtain ⟨j, hj⟩ := fv_ex (i := 1) (List.mem_of_getElem? h1) (by decide)
  rw [hg z j hj]
  exact decide_eq_decide.mpr (pos_fv hL hj h1 h0)
theorem gd_p2 {ov : Nat → Bool} (hL : orz n W L) (h : ∀ z i1 i0 : Nat, L.flatten[i1]? = some (z, 1) → L.flatten[i0]? = some (z, 0) → ov z = decide (i1 < i0)) : gdz L ov := fun z j hj => by
  have hz : z ∈ nmz W := fs_nm hL (p := (z, decide (j = 1))) (fsz_m.mpr ⟨List.not_mem_nil, j, hj, rfl⟩)
  obtain ⟨i1, h1⟩ := tkp_ex ((hL.2.2 (z, 1)).mpr (Or.inr ⟨by omega, hz⟩))
  obtain ⟨i0, h0⟩ := tkp_ex ((hL.2.2 (z, 0)).mpr (Or.inr ⟨by omega, hz⟩))
  rw [h z i1 i0 h1 h0]
  exact (decide_eq_decide.mpr (pos_fv hL hj h1 h0)).symm
/-- layered -/
def lay (a b c : Bool) : Prop := a = c → b = a
theorem lay_st : ∀ a b c a' b' c' : Bool, (a = c → b = a) → (a' = c' → b' = a') → ¬ (a = a' ∧ b = b' ∧ c = c') → (a ≠ a' ∧ ((!a) = c → b = !a)) ∨ (b ≠ b' ∧ (a = c → (!b) = a)) ∨ (c ≠ c' ∧ (a = (!c) → b = a)) := by
  intro a b c a' b' c'
  cases a <;> cases b <;> cases c <;> cases a' <;> cases b' <;> cases c' <;> simp
/-- from one layered pattern to another -/
theorem lay_go {D : (Nat → Bool) → Prop} (hxy : x ≠ y) (hxw : x ≠ w) (hyw : y ≠ w) (hD : ∀ ov z, z = x ∨ z = y ∨ z = w → lay (ov x) (ov y) (ov w) → lay (flz ov z x) (flz ov z y) (flz ov z w) → D ov → D (flz ov z)) (ov1 : Nat → Bool) (h1 : lay (ov1 x) (ov1 y) (ov1 w)) : ∀ (m : Nat) (ov : Nat → Bool), (if ov x = ov1 x then 0 else 1) + (if ov y = ov1 y then 0 else 1) + (if ov w = ov1 w then 0 else 1) ≤ m → lay (ov x) (ov y) (ov w) → D ov → (∀ z, z ≠ x → z ≠ y → z ≠ w → ov z = ov1 z) → D ov1 := by
  intro m
  induction m with
  | zero =>
    intro ov hm hl hd ho
    have e : ov = ov1 := funext (fun z => by
      by_cases zx : z = x
      · rw [zx]
        by_cases c : ov x = ov1 x
        · exact c
        · rw [if_neg c] at hm
          omega
      · by_cases zy : z = y
        · rw [zy]
          by_cases c : ov y = ov1 y
          · exact c
          · rw [if_neg c] at hm
            omega
        · by_cases zw : z = w
          · rw [zw]
            by_cases c : ov w = ov1 w
            · exact c
            · rw [if_neg c] at hm
              omega
          · exact ho z zx zy zw)
    rw [← e]
    exact hd
  | succ m ih =>
    intro ov hm hl hd ho
    by_cases c : ov x = ov1 x ∧ ov y = ov1 y ∧ ov w = ov1 w
    · exact ih ov (by rw [if_pos c.1, if_pos c.2.1, if_pos c.2.2]; omega) hl hd ho
    · have fx : flz ov x x = !ov x := flz_at ov x
      have fy : flz ov y y = !ov y := flz_at ov y
      have fw : flz ov w w = !ov w := flz_at ov w
      have nn : ∀ a b : Bool, a ≠ b → (!a) = b := fun a b => by cases a <;> cases b <;> simp
      rcases lay_st _ _ _ _ _ _ hl h1 c with ⟨d1, d2⟩ | ⟨d1, d2⟩ | ⟨d1, d2⟩
      · have l2 : lay (flz ov x x) (flz ov x y) (flz ov x w) := by
          rw [fx, flz_ot (Ne.symm hxy), flz_ot (Ne.symm hxw)]
          exact d2
        refine ih (flz ov x) ?_ l2 (hD ov x (Or.inl rfl) hl l2 hd) (fun z zx zy zw => by rw [flz_ot zx]; exact ho z zx zy zw)
        rw [fx, flz_ot (Ne.symm hxy), flz_ot (Ne.symm hxw), if_pos (nn _ _ d1)]
        rw [if_neg d1] at hm
        omega
      · have l2 : lay (flz ov y x) (flz ov y y) (flz ov y w) := by
          rw [fy, flz_ot hxy, flz_ot (Ne.symm hyw)]
          exact d2
        refine ih (flz ov y) ?_ l2 (hD ov y (Or.inr (Or.inl rfl)) hl l2 hd) (fun z zx zy zw => by rw [flz_ot zy]; exact ho z zx zy zw)
        rw [fy, flz_ot hxy, flz_ot (Ne.symm hyw), if_pos (nn _ _ d1)]
        rw [if_neg d1] at hm
        omega
      · have l2 : lay (flz ov w x) (flz ov w y) (flz ov w w) := by
          rw [fw, flz_ot hxw, flz_ot hyw]
          exact d2
        refine ih (flz ov w) ?_ l2 (hD ov w (Or.inr (Or.inr rfl)) hl l2 hd) (fun z zx zy zw => by rw [flz_ot zw]; exact ho z zx zy zw)
        rw [fw, flz_ot hxw, flz_ot hyw, if_pos (nn _ _ d1)]
        rw [if_neg d1] at hm
        omega
end XTWC
end
section
/-! 99zzzzzzzzzzzzzzzzn.xtwd -/
/-! two: three letters: R3 -/
section XTWD
variable {n g x y w : Nat} {A B : wd9}
theorem nm3 {a b c : Nat × Nat} {z : Nat} : z ∈ nmz (B ++ a :: b :: c :: A) ↔ z = a.2 ∨ z = b.2 ∨ z = c.2 ∨ z ∈ nmz (B ++ A) := by
  rw [nm_a, nm_a, List.mem_append, List.mem_append, show nmz (a :: b :: c :: A) = a.2 :: b.2 :: c.2 :: nmz A from rfl, List.mem_cons, List.mem_cons, List.mem_cons]
  constructor
  · rintro (h | h | h | h | h)
    · exact Or.inr (Or.inr (Or.inr (Or.inl h)))
    · exact Or.inl h
    · exact Or.inr (Or.inl h)
    · exact Or.inr (Or.inr (Or.inl h))
    · exact Or.inr (Or.inr (Or.inr (Or.inr h)))
  · rintro (h | h | h | h | h)
    · exact Or.inr (Or.inl h)
    · exact Or.inr (Or.inr (Or.inl h))
    · exact Or.inr (Or.inr (Or.inr (Or.inl h)))
    · exact Or.inl h
    · exact Or.inr (Or.inr (Or.inr (Or.inr h)))
/-- what three letters that differ stand apart from -/
theorem ok3 {a b c : Nat × Nat} (h : okw n (B ++ a :: b :: c :: A)) : (c.2 ≠ b.2 ∧ c.2 ≠ a.2 ∧ b.2 ≠ a.2) ∧ (a.2 ∉ nmz A ∧ a.2 ∉ nmz B) ∧ (b.2 ∉ nmz A ∧ b.2 ∉ nmz B) ∧ (c.2 ∉ nmz A ∧ c.2 ∉ nmz B) ∧ okw n (B ++ A) := by
  obtain ⟨h1, h2, h3⟩ := okw_d (g := a.1) (x := a.2) h
  obtain ⟨k1, k2, k3⟩ := okw_d (g := b.1) (x := b.2) h3
  obtain ⟨j1, j2, j3⟩ := okw_d (g := c.1) (x := c.2) k3
  refine ⟨⟨fun h9 => k1 (by rw [← h9]; exact List.mem_cons_self), fun h9 => h1 (by rw [← h9]; exact List.mem_cons_of_mem _ List.mem_cons_self), fun h9 => h1 (by rw [← h9]; exact List.mem_cons_self)⟩, ⟨fun h9 => h1 (List.mem_cons_of_mem _ (List.mem_cons_of_mem _ h9)), h2⟩, ⟨fun h9 => k1 (List.mem_cons_of_mem _ h9), k2⟩, ⟨j1, j2⟩, j3⟩
theorem r3_ok (h : okw n (B ++ (g + 1, x) :: (g, y) :: (g + 1, w) :: A)) : okw n (B ++ (g, w) :: (g + 1, y) :: (g, x) :: A) := by
  have h9 := h.1 (g + 1, x) (List.mem_append_right _ List.mem_cons_self)
  have h9 : g + 1 + 1 < n := h9
  refine ⟨fun l hl => ?_, ?_⟩
  · rcases List.mem_append.mp hl with h1 | h1
    · exact h.1 l (List.mem_append_left _ h1)
    · rcases List.mem_cons.mp h1 with h2 | h2
      · rw [h2]
        show g + 1 < n
        omega
      · rcases List.mem_cons.mp h2 with h3 | h3
        · rw [h3]
          exact h9
        · rcases List.mem_cons.mp h3 with h4 | h4
          · rw [h4]
            show g + 1 < n
            omega
          · exact h.1 l (List.mem_append_right _ (List.mem_cons_of_mem _ (List.mem_cons_of_mem _ (List.mem_cons_of_mem _ h4))))
  · have e1 : nmz (B ++ (g, w) :: (g + 1, y) :: (g, x) :: A) = nmz B ++ w :: y :: x :: nmz A := nm_a
    have e2 : nmz (B ++ (g + 1, x) :: (g, y) :: (g + 1, w) :: A) = nmz B ++ x :: y :: w :: nmz A := nm_a
    have hp : (nmz B ++ w :: y :: x :: nmz A).Perm (nmz B ++ x :: y :: w :: nmz A) := by
      refine List.perm_iff_count.mpr (fun t => ?_)
      simp only [List.count_append, List.count_cons]
      omega
    rw [e1]
    have h2 := h.2
    rw [e2] at h2
    exact hp.nodup_iff.mpr h2
theorem r3_tk (hxy : x ≠ y) (hxw : x ≠ w) (hyw : y ≠ w) (p : tk9) : tkz n (B ++ (g, w) :: (g + 1, y) :: (g, x) :: A) p ↔ tkz n (B ++ (g + 1, x) :: (g, y) :: (g + 1, w) :: A) (t3z x y w p) := by
  have m1 : ∀ z, z ∈ nmz (B ++ (g, w) :: (g + 1, y) :: (g, x) :: A) ↔ z = w ∨ z = y ∨ z = x ∨ z ∈ nmz (B ++ A) := fun z => nm3
  have m2 : ∀ z, z ∈ nmz (B ++ (g + 1, x) :: (g, y) :: (g + 1, w) :: A) ↔ z = x ∨ z = y ∨ z = w ∨ z ∈ nmz (B ++ A) := fun z => nm3
  have yes : ∀ z i, (z = x ∨ z = y ∨ z = w) → i < 2 → tkz n (B ++ (g, w) :: (g + 1, y) :: (g, x) :: A) (z, i) ∧ tkz n (B ++ (g + 1, x) :: (g, y) :: (g + 1, w) :: A) (z, i) := fun z i hz hi => by
    refine ⟨Or.inr ⟨hi, (m1 z).mpr ?_⟩, Or.inr ⟨hi, (m2 z).mpr ?_⟩⟩
    · rcases hz with h | h | h
      · exact Or.inr (Or.inr (Or.inl h))
      · exact Or.inr (Or.inl h)
      · exact Or.inl h
    · rcases hz with h | h | h
      · exact Or.inl h
      · exact Or.inr (Or.inl h)
      · exact Or.inr (Or.inr (Or.inl h))
  have fin : ∀ a i b j, p = (a, i) → t3z x y w p = (b, j) → (a = x ∨ a = y ∨ a = w) → (b = x ∨ b = y ∨ b = w) → i < 2 → j < 2 → (tkz n (B ++ (g, w) :: (g + 1, y) :: (g, x) :: A) p ↔ tkz n (B ++ (g + 1, x) :: (g, y) :: (g + 1, w) :: A) (t3z x y w p)) := fun a i b j e1 e2 ha hb hi hj => by
    rw [e2, e1]
    exact ⟨fun _ => (yes b j hb hj).2, fun _ => (yes a i ha hi).1⟩
  rcases t3_cs (x := x) (y := y) (w := w) p with h | h | h | h | h | h | ⟨h1, h2, h3⟩
  · exact fin x 1 y 1 h (by rw [h, t3_x1]) (Or.inl rfl) (Or.inr (Or.inl rfl)) (by omega) (by omega)
  · exact fin x 0 w 1 h (by rw [h, t3_x0]) (Or.inl rfl) (Or.inr (Or.inr rfl)) (by omega) (by omega)
  · exact fin y 1 x 1 h (by rw [h, t3_y1 hxy]) (Or.inr (Or.inl rfl)) (Or.inl rfl) (by omega) (by omega)
  · exact fin y 0 w 0 h (by rw [h, t3_y0 hxy hyw]) (Or.inr (Or.inl rfl)) (Or.inr (Or.inr rfl)) (by omega) (by omega)
  · exact fin w 1 x 0 h (by rw [h, t3_w1 hxw hyw]) (Or.inr (Or.inr rfl)) (Or.inl rfl) (by omega) (by omega)
  · exact fin w 0 y 0 h (by rw [h, t3_w0 hxw]) (Or.inr (Or.inr rfl)) (Or.inr (Or.inl rfl)) (by omega) (by omega)
  · rw [t3_n h1 h2 h3]
    obtain ⟨a, i⟩ := p
    constructor
    · rintro (h | ⟨h, h4⟩)
      · exact Or.inl h
      · refine Or.inr ⟨h, (m2 a).mpr ?_⟩
        rcases (m1 a).mp h4 with h5 | h5 | h5 | h5
        · exact Or.inr (Or.inr (Or.inl h5))
        · exact Or.inr (Or.inl h5)
        · exact Or.inl h5
        · exact Or.inr (Or.inr (Or.inr h5))
    · rintro (h | ⟨h, h4⟩)
      · exact Or.inl h
      · refine Or.inr ⟨h, (m1 a).mpr ?_⟩
        rcases (m2 a).mp h4 with h5 | h5 | h5 | h5
        · exact Or.inr (Or.inr (Or.inl h5))
        · exact Or.inr (Or.inl h5)
        · exact Or.inl h5
        · exact Or.inr (Or.inr (Or.inr h5))
/- r3_V (to be written): for all k, B, A, L with (B ++ (g+1,x) :: (g,y) :: (g+1,w) :: A).length = k, okw, orz n .. L, PhZ of the shorter ones:
   exists L1 with orz n (B ++ (g,w) :: (g+1,y) :: (g,x) :: A) L1 and for all ov with lay (ov x) (ov y) (ov w): vlz (Gz n W2) L ov = vlz (Gz n W1) L1 ov.
   Proof: rotA for (y,1), (w,1), (w,0) (their next ones by t3_sg's sub-lines: (x,1), (x,0), (y,0)); L1 := map t3z; adz_k three times gives a, b, c;
   gd_p1 for L, gd_p2 for L1 (its place k holds t3z of what L has there); skein of both (vlz_sk); Gz equal:
   z = x: rz_F with swz y w; z = w: rz_F with swz x y; z = y: r2_V twice; others: PhZ + induction; lay_go, then skR_eq over nmz (B ++ A). -/
end XTWD
end
section
/-! 99zzzzzzzzzzzzzzzzo.xtwe -/
/-! two: three letters: R3, the values -/
section XTWE
variable {n g x y w : Nat} {W W1 W2 V A B : wd9} {L M : List (List tk9)}
theorem sg_vB {V : wd9} {p q : tk9} (h : sgm V p = q) (hq : q.2 ≠ 2) : ∀ {B : wd9}, p.1 ∉ nmz B → sgm (B ++ V) p = q
  | [], _ => h
  | l :: B, hp => by
    have hl : p.1 ≠ l.2 := fun h9 => hp (by rw [h9]; exact List.mem_cons_self)
    show sgm (l :: (B ++ V)) p = q
    rw [sgm_o (fun h9 => hl (by rw [h9])) (fun h9 => hl (by rw [h9])), sg_vB h hq (fun h9 => hp (List.mem_cons_of_mem _ h9))]
    exact thz_v hq
theorem r3_gd {ov : Nat → Bool} {a b c : Nat} (hxy : x ≠ y) (hxw : x ≠ w) (hyw : y ≠ w) (hM : orz n W M) (hM1 : orz n W1 (M.map (List.map (t3z x y w)))) (a1 : M.flatten[a]? = some (y, 1)) (a2 : M.flatten[a + 1]? = some (x, 1)) (b1 : M.flatten[b]? = some (w, 1)) (b2 : M.flatten[b + 1]? = some (x, 0)) (c1 : M.flatten[c]? = some (w, 0)) (c2 : M.flatten[c + 1]? = some (y, 0)) (hg : gdz M ov) : gdz (M.map (List.map (t3z x y w))) ov ∧ lay (ov x) (ov y) (ov w) := by
  have ox : ov x = decide (a + 1 < b + 1) := gd_p1 hM hg a2 b2
  have oy : ov y = decide (a < c + 1) := gd_p1 hM hg a1 c2
  have ow : ov w = decide (b < c) := gd_p1 hM hg b1 c1
  have ne : ∀ (i j : Nat) (p q : tk9), M.flatten[i]? = some p → M.flatten[j]? = some q → p ≠ q → i ≠ j := fun i j p q h1 h2 h3 h4 => h3 (by
    rw [h4, h2] at h1
    exact (Option.some.inj h1).symm)
  have n1 : a ≠ c := ne a c _ _ a1 c1 (mk_ne hyw)
  have n2 : a + 1 ≠ c := ne _ _ _ _ a2 c1 (mk_ne hxw)
  have mp : ∀ (i : Nat) (p : tk9), M.flatten[i]? = some p → (M.map (List.map (t3z x y w))).flatten[i]? = some (t3z x y w p) := fun i p h => by
    rw [cj_fl, List.getElem?_map, h]
    rfl
  have pm : ∀ (i : Nat) (p : tk9), (M.map (List.map (t3z x y w))).flatten[i]? = some p → M.flatten[i]? = some (t3z x y w p) := fun i p h => by
    rw [cj_fl, List.getElem?_map] at h
    cases hi : M.flatten[i]? with
    | none =>
      rw [hi] at h
      cases h
    | some q =>
      rw [hi] at h
      have h : some (t3z x y w q) = some p := h
      rw [← Option.some.inj h, t3_i hxy hxw hyw]
  constructor
  · refine gd_p2 hM1 (fun z i1 i0 h1 h0 => ?_)
    have h1 := pm _ _ h1
    have h0 := pm _ _ h0
    by_cases zx : z = x
    · rw [zx] at h1 h0 ⊢
      rw [t3_x1] at h1
      rw [t3_x0] at h0
      have e1 := nd_pos hM.2.1 h1 a1
      have e0 := nd_pos hM.2.1 h0 b1
      rw [ox, e1, e0]
      exact decide_eq_decide.mpr (by omega)
    · by_cases zy : z = y
      · rw [zy] at h1 h0 ⊢
        rw [t3_y1 hxy] at h1
        rw [t3_y0 hxy hyw] at h0
        have e1 := nd_pos hM.2.1 h1 a2
        have e0 := nd_pos hM.2.1 h0 c1
        rw [oy, e1, e0]
        exact decide_eq_decide.mpr (by omega)
      · by_cases zw : z = w
        · rw [zw] at h1 h0 ⊢
          rw [t3_w1 hxw hyw] at h1
          rw [t3_w0 hxw] at h0
          have e1 := nd_pos hM.2.1 h1 b2
          have e0 := nd_pos hM.2.1 h0 c2
          rw [ow, e1, e0]
          exact decide_eq_decide.mpr (by omega)
        · rw [t3_o (p := (z, 1)) zx zy zw] at h1
          rw [t3_o (p := (z, 0)) zx zy zw] at h0
          exact gd_p1 hM hg h1 h0
  · intro h
    rw [ox, ow] at h
    have h := decide_eq_decide.mp h
    rw [ox, oy]
    exact decide_eq_decide.mpr (by omega)
theorem lay_x : ∀ a b c : Bool, (a = c → b = a) → ((!a) = c → b = !a) → b = c := by
  intro a b c
  cases a <;> cases b <;> cases c <;> simp
theorem lay_w : ∀ a b c : Bool, (a = c → b = a) → (a = (!c) → b = a) → a = b := by
  intro a b c
  cases a <;> cases b <;> cases c <;> simp
theorem lay_y : ∀ a b c : Bool, (a = c → b = a) → (a = c → (!b) = a) → a ≠ c := by
  intro a b c
  cases a <;> cases b <;> cases c <;> simp
theorem u01 : ∀ p q : Bool, (if p = q then 0 else 1 : Nat) ≤ 1 := by
  intro p q
  cases p <;> cases q <;> decide
theorem r3_core (hxy : x ≠ y) (hxw : x ≠ w) (hyw : y ≠ w) (ho2 : okw n W2) (ho1 : okw n W1) (m2 : ∀ z, z ∈ nmz W2 ↔ z = x ∨ z = y ∨ z = w ∨ z ∈ nmz V) (m1 : ∀ z, z ∈ nmz W1 ↔ z = w ∨ z = y ∨ z = x ∨ z ∈ nmz V) (vx : x ∉ nmz V) (vy : y ∉ nmz V) (vw : w ∉ nmz V) (ts : ∀ p, sgm W1 (t3z x y w p) = t3z x y w (sgm W2 p)) (tt : ∀ p, tkz n W1 p ↔ tkz n W2 (t3z x y w p)) (s1 : sgm W2 (y, 1) = (x, 1)) (s2 : sgm W2 (w, 1) = (x, 0)) (s3 : sgm W2 (w, 0) = (y, 0)) (hP : ∀ z, z ∈ nmz W2 → PhZ n (dlz z W2)) (hL : orz n W2 L) (gx : ∀ o : Nat → Bool, o y = o w → Fz n (dlz x W2) o = Fz n (dlz x W1) o) (gw : ∀ o : Nat → Bool, o x = o y → Fz n (dlz w W2) o = Fz n (dlz w W1) o) (gy : ∀ o : Nat → Bool, o x ≠ o w → Fz n (dlz y W2) o = Fz n (dlz y W1) o) (gz : ∀ (z : Nat) (o : Nat → Bool), z ∈ nmz V → lay (o x) (o y) (o w) → Fz n (dlz z W2) o = Fz n (dlz z W1) o) : ∃ L1, orz n W1 L1 ∧ ∀ ov : Nat → Bool, lay (ov x) (ov y) (ov w) → vlz (Gz n W2) L ov = vlz (Gz n W1) L1 ov := by
  have n2 : ∀ z, (z = x ∨ z = y ∨ z = w) → z ∈ nmz W2 := fun z hz => (m2 z).mpr (by
    rcases hz with h | h | h
    · exact Or.inl h
    · exact Or.inr (Or.inl h)
    · exact Or.inr (Or.inr (Or.inl h)))
  have n1 : ∀ z, (z = x ∨ z = y ∨ z = w) → z ∈ nmz W1 := fun z hz => (m1 z).mpr (by
    rcases hz with h | h | h
    · exact Or.inr (Or.inr (Or.inl h))
    · exact Or.inr (Or.inl h)
    · exact Or.inl h)
  have tok : ∀ (z i : Nat), (z = x ∨ z = y ∨ z = w) → i < 2 → ∀ L, orz n W2 L → ((z, i) : tk9) ∈ L.flatten := fun z i hz hi L hL => (hL.2.2 _).mpr (Or.inr ⟨hi, n2 z hz⟩)
  obtain ⟨La, ha1, ha2, ha3, ha4, -⟩ := rotA (u := (y, 1)) ho2 hP hL (tok y 1 (Or.inr (Or.inl rfl)) (by omega) L hL) (by rw [s1]; exact mk_ne hxy)
  rw [s1] at ha4
  obtain ⟨Lb, hb1, hb2, hb3, hb4, hb5⟩ := rotA (u := (w, 1)) ho2 hP ha1 (tok w 1 (Or.inr (Or.inr rfl)) (by omega) La ha1) (by rw [s2]; exact mk_ne hxw)
  rw [s2] at hb4
  obtain ⟨M, hc1, hc2, hc3, hc4, hc5⟩ := rotA (u := (w, 0)) ho2 hP hb1 (tok w 0 (Or.inr (Or.inr rfl)) (by omega) Lb hb1) (by rw [s3]; exact mk_ne hyw)
  rw [s3] at hc4
  obtain ⟨a, a1, a2⟩ := adz_k (hc5 _ _ (mk_ne hxw) (hb5 _ _ (mk_ne hxw) ha4))
  obtain ⟨b, b1, b2⟩ := adz_k (hc5 _ _ (mk_ne hxw) hb4)
  obtain ⟨c, c1, c2⟩ := adz_k hc4
  have hM1 : orz n W1 (M.map (List.map (t3z x y w))) := cj_or (t3_i hxy hxw hyw) ts tt hc1
  refine ⟨_, hM1, fun ov hov => ?_⟩
  rw [ha2 ov, hb2 ov, hc2 ov]
  have sk2 := vlz_sk (sk_W ho2 hc1) hc1
  have sk1 := vlz_sk (sk_W ho1 hM1) hM1
  obtain ⟨ov0, g0, e0⟩ := gd_ex hc1 ov
  obtain ⟨g9, l0⟩ := r3_gd hxy hxw hyw hc1 hM1 a1 a2 b1 b2 c1 c2 g0
  have d0 : vlz (Gz n W2) M ov0 = vlz (Gz n W1) (M.map (List.map (t3z x y w))) ov0 := by
    rw [vlz_g g0, vlz_g g9, List.length_map]
  obtain ⟨ov1, k1, k2⟩ : ∃ ov1 : Nat → Bool, (∀ z, (z = x ∨ z = y ∨ z = w) → ov1 z = ov z) ∧ ∀ z, ¬ (z = x ∨ z = y ∨ z = w) → ov1 z = ov0 z := ⟨fun z => if z = x ∨ z = y ∨ z = w then ov z else ov0 z, fun z h => if_pos h, fun z h => if_neg h⟩
  have l1 : lay (ov1 x) (ov1 y) (ov1 w) := by
    rw [k1 x (Or.inl rfl), k1 y (Or.inr (Or.inl rfl)), k1 w (Or.inr (Or.inr rfl))]
    exact hov
  have d1 : vlz (Gz n W2) M ov1 = vlz (Gz n W1) (M.map (List.map (t3z x y w))) ov1 := by
    refine lay_go (D := fun ov => vlz (Gz n W2) M ov = vlz (Gz n W1) (M.map (List.map (t3z x y w))) ov) hxy hxw hyw (fun o z hz h1 h2 h3 => ?_) ov1 l1 3 ov0 (Nat.add_le_add (Nat.add_le_add (u01 _ _) (u01 _ _)) (u01 _ _)) l0 d0 (fun z zx zy zw => (k2 z (fun h9 => h9.elim zx (fun h8 => h8.elim zy zw))).symm)
    have h3 : vlz (Gz n W2) M o = vlz (Gz n W1) (M.map (List.map (t3z x y w))) o := h3
    show vlz (Gz n W2) M (flz o z) = vlz (Gz n W1) (M.map (List.map (t3z x y w))) (flz o z)
    have q2 := sk2 (flz o z) z (n2 z hz)
    have q1 := sk1 (flz o z) z (n1 z hz)
    rw [flz_2] at q2 q1
    rw [q2, q1, h3]
    refine congrArg _ ?_
    show Fz n (dlz z W2) (flz o z) = Fz n (dlz z W1) (flz o z)
    have h1 : o x = o w → o y = o x := h1
    have h2 : flz o z x = flz o z w → flz o z y = flz o z x := h2
    rcases hz with h | h | h
    · rw [h] at h2 ⊢
      rw [flz_at, flz_ot (Ne.symm hxy), flz_ot (Ne.symm hxw)] at h2
      exact gx _ (by rw [flz_ot (Ne.symm hxy), flz_ot (Ne.symm hxw)]; exact lay_x _ _ _ h1 h2)
    · rw [h] at h2 ⊢
      rw [flz_at, flz_ot hxy, flz_ot (Ne.symm hyw)] at h2
      exact gy _ (by rw [flz_ot hxy, flz_ot (Ne.symm hyw)]; exact lay_y _ _ _ h1 h2)
    · rw [h] at h2 ⊢
      rw [flz_at, flz_ot hxw, flz_ot hyw] at h2
      exact gw _ (by rw [flz_ot hxw, flz_ot hyw]; exact lay_w _ _ _ h1 h2)
  refine skR_eq (R := fun o => lay (o x) (o y) (o w)) (G := Gz n W2) (nmz V) (fun o z hR hz => ?_) (fun o z hR hz => sk2 o z ((m2 z).mpr (Or.inr (Or.inr (Or.inr hz))))) (fun o z hR hz => ?_) ov ov1 l1 (fun z hz => ?_) d1
  · show lay (flz o z x) (flz o z y) (flz o z w)
    rw [flz_ot (fun h9 => vx (by rw [h9]; exact hz)), flz_ot (fun h9 => vy (by rw [h9]; exact hz)), flz_ot (fun h9 => vw (by rw [h9]; exact hz))]
    exact hR
  · have q1 := sk1 o z ((m1 z).mpr (Or.inr (Or.inr (Or.inr hz))))
    exact q1.trans (congrArg (skz (o z) _) (gz z o hz hR).symm)
  · by_cases h : z = x ∨ z = y ∨ z = w
    · exact (k1 z h).symm
    · rw [k2 z h]
      refine e0 z (fun h9 => ?_)
      rcases (m2 z).mp h9 with h8 | h8 | h8 | h8
      · exact h (Or.inl h8)
      · exact h (Or.inr (Or.inl h8))
      · exact h (Or.inr (Or.inr h8))
      · exact hz h8
theorem r3_V : ∀ (k : Nat) (B A : wd9) (L : List (List tk9)), (B ++ (g + 1, x) :: (g, y) :: (g + 1, w) :: A).length = k → okw n (B ++ (g + 1, x) :: (g, y) :: (g + 1, w) :: A) → orz n (B ++ (g + 1, x) :: (g, y) :: (g + 1, w) :: A) L → (∀ V, V.length < k → okw n V → PhZ n V) → ∃ L1, orz n (B ++ (g, w) :: (g + 1, y) :: (g, x) :: A) L1 ∧ ∀ ov : Nat → Bool, lay (ov x) (ov y) (ov w) → vlz (Gz n (B ++ (g + 1, x) :: (g, y) :: (g + 1, w) :: A)) L ov = vlz (Gz n (B ++ (g, w) :: (g + 1, y) :: (g, x) :: A)) L1 ov
  | 0, B, A, L, hk, _, _, _ => by
    rw [List.length_append] at hk
    simp at hk
  | k + 1, B, A, L, hk, ho, hL, hP => by
    obtain ⟨⟨hwy, hwx, hyx⟩, ⟨hxA, hxB⟩, ⟨hyA, hyB⟩, ⟨hwA, hwB⟩, hoB⟩ := ok3 ho
    have hwy : w ≠ y := hwy
    have hwx : w ≠ x := hwx
    have hyx : y ≠ x := hyx
    have hxA : x ∉ nmz A := hxA
    have hxB : x ∉ nmz B := hxB
    have hyA : y ∉ nmz A := hyA
    have hyB : y ∉ nmz B := hyB
    have hwA : w ∉ nmz A := hwA
    have hwB : w ∉ nmz B := hwB
    have hxy : x ≠ y := Ne.symm hyx
    have hxw : x ≠ w := Ne.symm hwx
    have hyw : y ≠ w := Ne.symm hwy
    have ho1 := r3_ok ho
    have hts := fun p => t3_sg (g := g) hxy hxw hyw hxA hyA hwA hxB hyB hwB p
    have hti := t3_i hxy hxw hyw
    have htk := fun p => r3_tk (n := n) (g := g) (A := A) (B := B) hxy hxw hyw p
    have hL1 := cj_or hti hts htk hL
    have m2 : ∀ z, z ∈ nmz (B ++ (g + 1, x) :: (g, y) :: (g + 1, w) :: A) ↔ z = x ∨ z = y ∨ z = w ∨ z ∈ nmz (B ++ A) := fun z => nm3
    have m1 : ∀ z, z ∈ nmz (B ++ (g, w) :: (g + 1, y) :: (g, x) :: A) ↔ z = w ∨ z = y ∨ z = x ∨ z ∈ nmz (B ++ A) := fun z => nm3
    have vn : ∀ z, z ∉ nmz A → z ∉ nmz B → z ∉ nmz (B ++ A) := fun z h1 h2 h9 => by
      rw [nm_a] at h9
      exact (List.mem_append.mp h9).elim h2 h1
    have el : (B ++ A).length + 3 = k + 1 := by
      rw [← hk, List.length_append, List.length_append, List.length_cons, List.length_cons, List.length_cons]
      omega
    have l2 : ∀ a b : Nat × Nat, (B ++ a :: b :: A).length = k := fun a b => by
      rw [List.length_append] at el ⊢
      rw [List.length_cons, List.length_cons]
      omega
    have hPd : ∀ z, z ∈ nmz (B ++ (g + 1, x) :: (g, y) :: (g + 1, w) :: A) → PhZ n (dlz z (B ++ (g + 1, x) :: (g, y) :: (g + 1, w) :: A)) := fun z hz => hP _ (by rw [← hk]; exact dlz_lt hz) (ok_dl ho)
    have cc : ∀ (z : Nat) (l : Nat × Nat) (V : wd9), l.2 ≠ z → dlz z (l :: V) = l :: dlz z V := fun z l V h => dlz_c h
    have dx2 : dlz x (B ++ (g + 1, x) :: (g, y) :: (g + 1, w) :: A) = B ++ (g, y) :: (g + 1, w) :: A := by
      rw [dlz_a, dlz_x, cc x (g, y) _ hyx, cc x (g + 1, w) _ hwx, dlz_n hxA, dlz_n hxB]
    have dx1 : dlz x (B ++ (g, w) :: (g + 1, y) :: (g, x) :: A) = B ++ (g, w) :: (g + 1, y) :: A := by
      rw [dlz_a, cc x (g, w) _ hwx, cc x (g + 1, y) _ hyx, dlz_x, dlz_n hxA, dlz_n hxB]
    have dy2 : dlz y (B ++ (g + 1, x) :: (g, y) :: (g + 1, w) :: A) = B ++ (g + 1, x) :: (g + 1, w) :: A := by
      rw [dlz_a, cc y (g + 1, x) _ hxy, dlz_x, cc y (g + 1, w) _ hwy, dlz_n hyA, dlz_n hyB]
    have dy1 : dlz y (B ++ (g, w) :: (g + 1, y) :: (g, x) :: A) = B ++ (g, w) :: (g, x) :: A := by
      rw [dlz_a, cc y (g, w) _ hwy, dlz_x, cc y (g, x) _ hxy, dlz_n hyA, dlz_n hyB]
    have dw2 : dlz w (B ++ (g + 1, x) :: (g, y) :: (g + 1, w) :: A) = B ++ (g + 1, x) :: (g, y) :: A := by
      rw [dlz_a, cc w (g + 1, x) _ hxw, cc w (g, y) _ hyw, dlz_x, dlz_n hwA, dlz_n hwB]
    have dw1 : dlz w (B ++ (g, w) :: (g + 1, y) :: (g, x) :: A) = B ++ (g + 1, y) :: (g, x) :: A := by
      rw [dlz_a, dlz_x, cc w (g + 1, y) _ hyw, cc w (g, x) _ hxw, dlz_n hwA, dlz_n hwB]
    have Y1 : sgm ((g + 1, x) :: (g, y) :: (g + 1, w) :: A) (y, 1) = (x, 1) := by
      rw [sgm_o (mk_ne hyx) (mk_ne hyx), show sgm ((g, y) :: (g + 1, w) :: A) (y, 1) = (g + 1, 2) from sgm_1 (l := (g, y))]
      exact thz_1 (g + 1) x
    have W1 : sgm ((g + 1, x) :: (g, y) :: (g + 1, w) :: A) (w, 1) = (x, 0) := by
      rw [sgm_o (mk_ne hwx) (mk_ne hwx), sgm_o (mk_ne hwy) (mk_ne hwy), show sgm ((g + 1, w) :: A) (w, 1) = (g + 2, 2) from sgm_1 (l := (g + 1, w)), thz_o (g := g) (x := y) (p := (g + 2, 2)) (mk_ne (by omega)) (mk_ne (by omega))]
      exact thz_0 (g + 1) x
    have W0 : sgm ((g + 1, x) :: (g, y) :: (g + 1, w) :: A) (w, 0) = (y, 0) := by
      rw [sgm_o (mk_ne hwx) (mk_ne hwx), sgm_o (mk_ne hwy) (mk_ne hwy), show sgm ((g + 1, w) :: A) (w, 0) = (g + 1, 2) from sgm_0 (l := (g + 1, w)), thz_0 g y]
      exact thz_v (show (0 : Nat) ≠ 2 by decide)
    -- a renaming of two
    have ren : ∀ (a b g1 g2 : Nat) (o : Nat → Bool), a ≠ b → a ∉ nmz A → a ∉ nmz B → b ∉ nmz A → b ∉ nmz B → o a = o b → okw n (B ++ (g1, a) :: (g2, b) :: A) → (∃ L, orz n (B ++ (g1, a) :: (g2, b) :: A) L) → Fz n (B ++ (g1, a) :: (g2, b) :: A) o = Fz n (B ++ (g1, b) :: (g2, a) :: A) o := fun a b g1 g2 o hab aA aB bA bB hoo hok hex => by
      have er : rnW (swz a b) (B ++ (g1, a) :: (g2, b) :: A) = B ++ (g1, b) :: (g2, a) :: A := by
        have e1 : rnW (swz a b) (B ++ (g1, a) :: (g2, b) :: A) = rnW (swz a b) B ++ (g1, swz a b a) :: (g2, swz a b b) :: rnW (swz a b) A := List.map_append
        rw [e1, rnW_n aB bB, rnW_n aA bA, swz_1, swz_2]
      rw [← er]
      refine (rz_F (swz_i a b) k (B ++ (g1, a) :: (g2, b) :: A) o o (l2 _ _) hok hex (fun V hV => hP V (by omega)) (fun z hz9 => ?_)).symm
      by_cases za : z = a
      · rw [za, swz_1, hoo]
      · by_cases zb : z = b
        · rw [zb, swz_2, hoo]
        · rw [swz_o za zb]
    refine r3_core hxy hxw hyw ho ho1 m2 m1 (vn x hxA hxB) (vn y hyA hyB) (vn w hwA hwB) hts htk (sg_vB Y1 (show (1 : Nat) ≠ 2 by decide) hyB) (sg_vB W1 (show (0 : Nat) ≠ 2 by decide) hwB) (sg_vB W0 (show (0 : Nat) ≠ 2 by decide) hwB) hPd hL (fun o hoo => ?_) (fun o hoo => ?_) (fun o hoo => ?_) (fun z o hz9 hoo => ?_)
    · have q1 := ok_dl (x := x) ho
      have q2 := orz_dl ho hL ((m2 x).mpr (Or.inl rfl))
      rw [dx2] at q1 q2
      rw [dx2, dx1]
      exact ren y w g (g + 1) o hyw hyA hyB hwA hwB hoo q1 q2
    · have q1 := ok_dl (x := w) ho
      have q2 := orz_dl ho hL ((m2 w).mpr (Or.inr (Or.inr (Or.inl rfl))))
      rw [dw2] at q1 q2
      rw [dw2, dw1]
      exact ren x y (g + 1) g o hxy hxA hxB hyA hyB hoo q1 q2
    · have q1 := ok_dl (x := y) ho
      obtain ⟨Ly, q2⟩ := orz_dl ho hL ((m2 y).mpr (Or.inr (Or.inl rfl)))
      rw [dy2] at q1 q2
      have q3 := ok_dl (x := y) ho1
      obtain ⟨Lz, q4⟩ := orz_dl ho1 hL1 ((m1 y).mpr (Or.inr (Or.inl rfl)))
      rw [dy1] at q3 q4
      have hP2 : ∀ V, V.length < k → okw n V → PhZ n V := fun V hV => hP V (by omega)
      rw [dy2, dy1, ← hP _ (by rw [l2]; omega) q1 Ly o q2, ← hP _ (by rw [l2]; omega) q3 Lz o q4, r2_V k B A Ly (l2 _ _) q1 q2 hP2 o (Ne.symm hoo), r2_V k B A Lz (l2 _ _) q3 q4 hP2 o hoo]
    · have zx : x ≠ z := fun h9 => vn x hxA hxB (by rw [h9]; exact hz9)
      have zy : y ≠ z := fun h9 => vn y hyA hyB (by rw [h9]; exact hz9)
      have zw : w ≠ z := fun h9 => vn w hwA hwB (by rw [h9]; exact hz9)
      have z2 := (m2 z).mpr (Or.inr (Or.inr (Or.inr hz9)))
      obtain ⟨Lz, hLz⟩ := orz_dl ho hL z2
      have hl := len_dl ho z2
      have hoz := ok_dl (x := z) ho
      have e2 : dlz z (B ++ (g + 1, x) :: (g, y) :: (g + 1, w) :: A) = dlz z B ++ (g + 1, x) :: (g, y) :: (g + 1, w) :: dlz z A := by
        rw [dlz_a, cc z (g + 1, x) _ zx, cc z (g, y) _ zy, cc z (g + 1, w) _ zw]
      have e1 : dlz z (B ++ (g, w) :: (g + 1, y) :: (g, x) :: A) = dlz z B ++ (g, w) :: (g + 1, y) :: (g, x) :: dlz z A := by
        rw [dlz_a, cc z (g, w) _ zw, cc z (g + 1, y) _ zy, cc z (g, x) _ zx]
      have ho1z := ok_dl (x := z) ho1
      have hl1 := len_dl ho1 ((m1 z).mpr (Or.inr (Or.inr (Or.inr hz9))))
      have hl3 : (B ++ (g, w) :: (g + 1, y) :: (g, x) :: A).length = k + 1 := by
        rw [← hk, List.length_append, List.length_append]
        rfl
      rw [e2] at hLz hl hoz
      rw [e1] at ho1z hl1
      rw [e2, e1]
      obtain ⟨L1, j1, j2⟩ := r3_V k (dlz z B) (dlz z A) Lz (by omega) hoz hLz (fun V hV => hP V (by omega))
      rw [← hP _ (by omega) hoz Lz o hLz, ← hP _ (by omega) ho1z L1 o j1]
      exact j2 o hoo
/-- PhZ goes over -/
theorem r3_P (ho : okw n (B ++ (g + 1, x) :: (g, y) :: (g + 1, w) :: A)) (hP : ∀ V, V.length < (B ++ (g + 1, x) :: (g, y) :: (g + 1, w) :: A).length → okw n V → PhZ n V) (h : PhZ n (B ++ (g, w) :: (g + 1, y) :: (g, x) :: A)) : PhZ n (B ++ (g + 1, x) :: (g, y) :: (g + 1, w) :: A) := fun L ov hL => by
  rw [Fz_e ho hL]
  have hO := orc_o hL
  obtain ⟨L1, a1, a2⟩ := r3_V _ B A L rfl ho hL hP
  obtain ⟨L2, b1, b2⟩ := r3_V _ B A _ rfl ho hO hP
  have hG := sk_W ho hL
  have l9 : lay ((fun z => if z = y then ov x else ov z) x) ((fun z => if z = y then ov x else ov z) y) ((fun z => if z = y then ov x else ov z) w) := fun _ => by
    show (if y = y then ov x else ov y) = (if x = y then ov x else ov x)
    rw [if_pos rfl]
    split
    · rfl
    · rfl
  refine skA_eq _ (vlz_sk hG hL) (vlz_sk hG hO) ov (fun z => if z = y then ov x else ov z) (fun z hz => ?_) ?_
  · have zy : z ≠ y := fun h9 => hz (by
      rw [h9]
      exact nm3.mpr (Or.inr (Or.inl rfl)))
    exact (if_neg zy).symm
  · rw [a2 _ l9, b2 _ l9, h L1 _ a1, h L2 _ b1]
theorem r2_P (ho : okw n (B ++ (g, y) :: (g, x) :: A)) (hP : ∀ V, V.length < (B ++ (g, y) :: (g, x) :: A).length → okw n V → PhZ n V) : PhZ n (B ++ (g, y) :: (g, x) :: A) := fun L ov hL => by
  rw [Fz_e ho hL]
  have hO := orc_o hL
  have hG := sk_W ho hL
  obtain ⟨hxy, -⟩ := s2_adj ho
  have l9 : (fun z => if z = y then !ov x else ov z) x ≠ (fun z => if z = y then !ov x else ov z) y := by
    show (if x = y then !ov x else ov x) ≠ (if y = y then !ov x else ov y)
    rw [if_pos rfl, if_neg hxy]
    cases ov x <;> decide
  refine skA_eq _ (vlz_sk hG hL) (vlz_sk hG hO) ov (fun z => if z = y then !ov x else ov z) (fun z hz => ?_) ?_
  · have zy : z ≠ y := fun h9 => hz (by
      rw [h9, nm_a]
      exact List.mem_append_right _ List.mem_cons_self)
    exact (if_neg zy).symm
  · rw [r2_V _ B A L rfl ho hL hP _ l9, r2_V _ B A _ rfl ho hO hP _ l9]
theorem cr_P (h1n : 1 ≤ n) (ho : okw n W) (ho1 : okw (n + 1) W) (h1 : ∀ V, V.length < W.length → okw (n + 1) V → PhZ (n + 1) V) (h2 : ∀ V, V.length ≤ W.length → okw n V → PhZ n V) : PhZ (n + 1) W := fun L ov hL => by
  rw [Fz_e ho1 hL, cr_V h1n _ W L ov rfl ho ho1 hL h1 h2, cr_V h1n _ W _ ov rfl ho ho1 (orc_o hL) h1 h2]
theorem r1_P (hob : okw (g + 1) (B ++ A)) (ho : okw (g + 2) (B ++ (g, x) :: A)) (h1 : ∀ V, V.length < (B ++ (g, x) :: A).length → okw (g + 2) V → PhZ (g + 2) V) (h2 : ∀ V, V.length ≤ (B ++ (g, x) :: A).length → okw (g + 1) V → PhZ (g + 1) V) : PhZ (g + 2) (B ++ (g, x) :: A) := fun L ov hL => by
  rw [Fz_e ho hL, r1_V _ B A L rfl hob ho hL h1 h2, r1_V _ B A _ rfl hob ho (orc_o hL) h1 h2]
end XTWE
end
section
/-! 99zzzzzzzzzzzzzzzzp.xtwf -/
/-! two: letters far apart -/
section XTWF
variable {n g h x y : Nat} {W W' A B U U' : wd9} {L : List (List tk9)}
theorem sg_cg (hU : ∀ p, sgm U p = sgm U' p) : ∀ (B : wd9) (p : tk9), sgm (B ++ U) p = sgm (B ++ U') p
  | [], p => hU p
  | l :: B, p => by
    show sgm (l :: (B ++ U)) p = sgm (l :: (B ++ U')) p
    by_cases h1 : p = (l.2, 1)
    · rw [h1, sgm_1, sgm_1]
    · by_cases h0 : p = (l.2, 0)
      · rw [h0, sgm_0, sgm_0]
      · rw [sgm_o h1 h0, sgm_o h1 h0, sg_cg hU B p]
theorem th_c1 (hf : g + 1 < h ∨ h + 1 < g) : thz h y (g, 2) = (g, 2) ∧ thz h y (g + 1, 2) = (g + 1, 2) := ⟨thz_o (g := h) (x := y) (p := (g, 2)) (mk_ne (by omega)) (mk_ne (by omega)), thz_o (g := h) (x := y) (p := (g + 1, 2)) (mk_ne (by omega)) (mk_ne (by omega))⟩
theorem th_cm (hf : g + 1 < h ∨ h + 1 < g) (q : tk9) : thz g x (thz h y q) = thz h y (thz g x q) := by
  have f1 := th_c1 (y := y) hf
  have f2 := th_c1 (g := h) (h := g) (y := x) (Or.symm hf)
  have v1 : ∀ (a b i : Nat) (z : Nat), i ≠ 2 → thz a b (z, i) = (z, i) := fun a b i z hi => thz_v (p := (z, i)) hi
  by_cases c0 : q = (g, 2)
  · rw [c0, f1.1, thz_1, v1 _ _ _ _ (by decide)]
  · by_cases c1 : q = (g + 1, 2)
    · rw [c1, f1.2, thz_0, v1 _ _ _ _ (by decide)]
    · by_cases c2 : q = (h, 2)
      · rw [c2, f2.1, thz_1, v1 _ _ _ _ (by decide)]
      · by_cases c3 : q = (h + 1, 2)
        · rw [c3, f2.2, thz_0, v1 _ _ _ _ (by decide)]
        · rw [thz_o c2 c3, thz_o c0 c1, thz_o c2 c3]
theorem sg_cm (hf : g + 1 < h ∨ h + 1 < g) (hxy : x ≠ y) (p : tk9) : sgm ((g, x) :: (h, y) :: A) p = sgm ((h, y) :: (g, x) :: A) p := by
  have hyx := Ne.symm hxy
  have f1 := th_c1 (y := y) hf
  have f2 := th_c1 (g := h) (h := g) (y := x) (Or.symm hf)
  have L1 : sgm ((g, x) :: (h, y) :: A) (x, 1) = (g + 1, 2) := sgm_1 (l := (g, x))
  have L0 : sgm ((g, x) :: (h, y) :: A) (x, 0) = (g, 2) := sgm_0 (l := (g, x))
  have R1 : sgm ((h, y) :: (g, x) :: A) (y, 1) = (h + 1, 2) := sgm_1 (l := (h, y))
  have R0 : sgm ((h, y) :: (g, x) :: A) (y, 0) = (h, 2) := sgm_0 (l := (h, y))
  have L3 : sgm ((g, x) :: (h, y) :: A) (y, 1) = (h + 1, 2) := by
    rw [sgm_o (mk_ne hyx) (mk_ne hyx), show sgm ((h, y) :: A) (y, 1) = (h + 1, 2) from sgm_1 (l := (h, y))]
    exact f2.2
  have L2 : sgm ((g, x) :: (h, y) :: A) (y, 0) = (h, 2) := by
    rw [sgm_o (mk_ne hyx) (mk_ne hyx), show sgm ((h, y) :: A) (y, 0) = (h, 2) from sgm_0 (l := (h, y))]
    exact f2.1
  have R3 : sgm ((h, y) :: (g, x) :: A) (x, 1) = (g + 1, 2) := by
    rw [sgm_o (mk_ne hxy) (mk_ne hxy), show sgm ((g, x) :: A) (x, 1) = (g + 1, 2) from sgm_1 (l := (g, x))]
    exact f1.2
  have R2 : sgm ((h, y) :: (g, x) :: A) (x, 0) = (g, 2) := by
    rw [sgm_o (mk_ne hxy) (mk_ne hxy), show sgm ((g, x) :: A) (x, 0) = (g, 2) from sgm_0 (l := (g, x))]
    exact f1.1
  by_cases c0 : p = (x, 1)
  · rw [c0, L1, R3]
  · by_cases c1 : p = (x, 0)
    · rw [c1, L0, R2]
    · by_cases c2 : p = (y, 1)
      · rw [c2, L3, R1]
      · by_cases c3 : p = (y, 0)
        · rw [c3, L2, R0]
        · rw [sgm_o (l := (g, x)) c0 c1, sgm_o (l := (h, y)) c2 c3, sgm_o (l := (h, y)) c2 c3, sgm_o (l := (g, x)) c0 c1]
          exact th_cm hf _
theorem cm_or (hs : ∀ p, sgm W p = sgm W' p) (hn : ∀ z, z ∈ nmz W ↔ z ∈ nmz W') (hL : orz n W L) : orz n W' L := by
  refine ⟨fun c hc => ?_, hL.2.1, fun p => ?_⟩
  · rw [← funext hs]
    exact hL.1 c hc
  · rw [hL.2.2]
    exact ⟨fun h9 => h9.elim Or.inl (fun h8 => Or.inr ⟨h8.1, (hn _).mp h8.2⟩), fun h9 => h9.elim Or.inl (fun h8 => Or.inr ⟨h8.1, (hn _).mpr h8.2⟩)⟩
theorem ok_pm (hp : W.Perm W') (ho : okw n W) : okw n W' := ⟨fun l hl => ho.1 l (hp.mem_iff.mpr hl), (hp.map Prod.snd).nodup_iff.mp ho.2⟩
theorem nm_pm (hp : W.Perm W') (z : Nat) : z ∈ nmz W ↔ z ∈ nmz W' := (hp.map Prod.snd).mem_iff
theorem cm_pm : (B ++ (g, x) :: (h, y) :: A).Perm (B ++ (h, y) :: (g, x) :: A) := List.Perm.append_left B (List.Perm.swap _ _ _)
theorem cm_ne (ho : okw n (B ++ (g, x) :: (h, y) :: A)) : x ≠ y ∧ (x ∉ nmz A ∧ x ∉ nmz B) ∧ y ∉ nmz A ∧ y ∉ nmz B := by
  obtain ⟨h1, h2, h3⟩ := okw_d ho
  obtain ⟨k1, k2, -⟩ := okw_d h3
  exact ⟨fun h9 => h1 (by rw [h9]; exact List.mem_cons_self), ⟨fun h9 => h1 (List.mem_cons_of_mem _ h9), h2⟩, k1, k2⟩
theorem cm_V (hf : g + 1 < h ∨ h + 1 < g) : ∀ (k : Nat) (B A : wd9) (L : List (List tk9)), (B ++ (g, x) :: (h, y) :: A).length = k → okw n (B ++ (g, x) :: (h, y) :: A) → orz n (B ++ (g, x) :: (h, y) :: A) L → (∀ V, V.length < k → okw n V → PhZ n V) → ∀ ov : Nat → Bool, vlz (Gz n (B ++ (g, x) :: (h, y) :: A)) L ov = vlz (Gz n (B ++ (h, y) :: (g, x) :: A)) L ov
  | 0, B, A, L, hk, _, _, _, _ => by
    rw [List.length_append] at hk
    simp at hk
  | k + 1, B, A, L, hk, ho, hL, hP, ov => by
    obtain ⟨hxy, ⟨hxA, hxB⟩, hyA, hyB⟩ := cm_ne ho
    have hyx := Ne.symm hxy
    have cc : ∀ (z : Nat) (l : Nat × Nat) (V : wd9), l.2 ≠ z → dlz z (l :: V) = l :: dlz z V := fun z l V h => dlz_c h
    unfold vlz
    refine goz_cg (S := nmz (B ++ (g, x) :: (h, y) :: A)) (fun z hz o o' hoo => ?_) _ ov ov (fun p hp => fs_nm hL hp) (fun _ _ => rfl)
    show Fz n (dlz z (B ++ (g, x) :: (h, y) :: A)) o = Fz n (dlz z (B ++ (h, y) :: (g, x) :: A)) o'
    obtain ⟨Lz, hLz⟩ := orz_dl ho hL hz
    have hoz := ok_dl (x := z) ho
    rw [Fz_cg hoz hLz (fun t ht => hoo t (nm_dl.mp ht).1)]
    by_cases zx : z = x
    · rw [zx, dlz_a, dlz_a, dlz_x, cc x (h, y) _ hyx, cc x (h, y) _ hyx, dlz_x]
    · by_cases zy : z = y
      · rw [zy, dlz_a, dlz_a, dlz_x, cc y (g, x) _ hxy, cc y (g, x) _ hxy, dlz_x]
      · have e1 : dlz z (B ++ (g, x) :: (h, y) :: A) = dlz z B ++ (g, x) :: (h, y) :: dlz z A := by
          rw [dlz_a, cc z (g, x) _ (Ne.symm zx), cc z (h, y) _ (Ne.symm zy)]
        have e2 : dlz z (B ++ (h, y) :: (g, x) :: A) = dlz z B ++ (h, y) :: (g, x) :: dlz z A := by
          rw [dlz_a, cc z (h, y) _ (Ne.symm zy), cc z (g, x) _ (Ne.symm zx)]
        have hl := len_dl ho hz
        rw [e1] at hLz hoz hl
        have hoz2 : okw n (dlz z B ++ (h, y) :: (g, x) :: dlz z A) := ok_pm cm_pm hoz
        have hLz2 : orz n (dlz z B ++ (h, y) :: (g, x) :: dlz z A) Lz := cm_or (sg_cg (sg_cm hf hxy) _) (nm_pm cm_pm) hLz
        have hl2 : (dlz z B ++ (h, y) :: (g, x) :: dlz z A).length = (dlz z B ++ (g, x) :: (h, y) :: dlz z A).length := by
          rw [List.length_append, List.length_append]
          rfl
        rw [e1, e2, ← hP _ (by omega) hoz Lz o' hLz, ← hP _ (by omega) hoz2 Lz o' hLz2]
        exact cm_V hf k (dlz z B) (dlz z A) Lz (by omega) hoz hLz (fun V hV => hP V (by omega)) o'
theorem cm_P (hf : g + 1 < h ∨ h + 1 < g) (ho : okw n (B ++ (g, x) :: (h, y) :: A)) (hP : ∀ V, V.length < (B ++ (g, x) :: (h, y) :: A).length → okw n V → PhZ n V) (h0 : PhZ n (B ++ (h, y) :: (g, x) :: A)) : PhZ n (B ++ (g, x) :: (h, y) :: A) := fun L ov hL => by
  have hO := orc_o hL
  obtain ⟨hxy, -⟩ := cm_ne ho
  have tr : ∀ L, orz n (B ++ (g, x) :: (h, y) :: A) L → orz n (B ++ (h, y) :: (g, x) :: A) L := fun L h9 => cm_or (sg_cg (sg_cm hf hxy) _) (nm_pm cm_pm) h9
  rw [Fz_e ho hL, cm_V hf _ B A L rfl ho hL hP, cm_V hf _ B A _ rfl ho hO hP, h0 L ov (tr L hL), h0 _ ov (tr _ hO)]
end XTWF
end
section
/-! 99zzzzzzzzzzzzzzzzq.xtwg -/
/-! two: every word -/
def tpz (k : Nat) (U : wd9) : Nat := (U.filter (fun l => decide (l.1 = k))).length
section XTWG
variable {n k : Nat} {W U V : wd9} {Pr : wd9 → Prop}
theorem tpz_a : tpz k (U ++ V) = tpz k U + tpz k V := by
  unfold tpz
  rw [List.filter_append, List.length_append]
theorem tpz_y {a : Nat} : tpz k ((k, a) :: U) = tpz k U + 1 := by
  unfold tpz
  rw [List.filter_cons_of_pos (by simp), List.length_cons]
theorem tpz_o {l : Nat × Nat} (h : l.1 ≠ k) : tpz k (l :: U) = tpz k U := by
  unfold tpz
  rw [List.filter_cons_of_neg (by simp [h])]
theorem tpz_n : ∀ {U : wd9}, (∀ l, l ∈ U → l.1 ≠ k) → tpz k U = 0
  | [], _ => rfl
  | l :: U, h => by
    rw [tpz_o (h l List.mem_cons_self)]
    exact tpz_n (fun m hm => h m (List.mem_cons_of_mem _ hm))
theorem tpz_0 : ∀ {U : wd9}, tpz k U = 0 → ∀ l, l ∈ U → l.1 ≠ k
  | [], _, l, hl => absurd hl List.not_mem_nil
  | (t, a) :: U, h, l, hl => by
    by_cases c : t = k
    · rw [c, tpz_y] at h
      omega
    · rw [tpz_o (l := (t, a)) c] at h
      rcases List.mem_cons.mp hl with h1 | h1
      · rw [h1]
        exact c
      · exact tpz_0 h l h1
theorem tpz_s : ∀ {U : wd9}, tpz k U ≠ 0 → ∃ U1 a U2, U = U1 ++ (k, a) :: U2 ∧ ∀ l, l ∈ U1 → l.1 ≠ k
  | [], h => absurd rfl h
  | (t, a) :: U, h => by
    by_cases c : t = k
    · exact ⟨[], a, U, by rw [c]; rfl, fun l hl => absurd hl List.not_mem_nil⟩
    · rw [tpz_o (l := (t, a)) c] at h
      obtain ⟨U1, b, U2, e, h1⟩ := tpz_s h
      refine ⟨(t, a) :: U1, b, U2, by rw [e]; rfl, fun l hl => ?_⟩
      rcases List.mem_cons.mp hl with h2 | h2
      · rw [h2]
        exact c
      · exact h1 l h2
theorem tpz_2 (h : ¬ tpz k U ≤ 1) : ∃ U1 a M b U2, U = U1 ++ (k, a) :: (M ++ (k, b) :: U2) ∧ ∀ l, l ∈ M → l.1 ≠ k := by
  obtain ⟨U1, a, V, e, h1⟩ := tpz_s (U := U) (k := k) (by omega)
  have h2 : tpz k V ≠ 0 := by
    rw [e, tpz_a, tpz_y, tpz_n h1] at h
    omega
  obtain ⟨M, b, U2, e2, h3⟩ := tpz_s h2
  exact ⟨U1, a, M, b, U2, by rw [e, e2], h3⟩
theorem fr_r {l0 : Nat × Nat} (hf : ∀ (B A : wd9) (l l' : Nat × Nat), l.1 + 1 < l'.1 ∨ l'.1 + 1 < l.1 → Pr (B ++ l' :: l :: A) → Pr (B ++ l :: l' :: A)) : ∀ (M B A : wd9), (∀ l, l ∈ M → l.1 + 1 < l0.1) → Pr (B ++ (M ++ l0 :: A)) → Pr (B ++ l0 :: (M ++ A))
  | [], _, _, _, h => h
  | l :: M, B, A, hM, h => by
    have h1 := fr_r hf M (B ++ [l]) A (fun m hm => hM m (List.mem_cons_of_mem _ hm)) (by rw [List.append_assoc]; exact h)
    rw [List.append_assoc] at h1
    exact hf B (M ++ A) l0 l (Or.inr (hM l List.mem_cons_self)) h1
theorem fr_l {l0 : Nat × Nat} (hf : ∀ (B A : wd9) (l l' : Nat × Nat), l.1 + 1 < l'.1 ∨ l'.1 + 1 < l.1 → Pr (B ++ l' :: l :: A) → Pr (B ++ l :: l' :: A)) : ∀ (M B A : wd9), (∀ l, l ∈ M → l.1 + 1 < l0.1) → Pr (B ++ l0 :: (M ++ A)) → Pr (B ++ (M ++ l0 :: A))
  | [], _, _, _, h => h
  | l :: M, B, A, hM, h => by
    have h1 : Pr (B ++ l :: l0 :: (M ++ A)) := hf B (M ++ A) l l0 (Or.inl (hM l List.mem_cons_self)) h
    have h2 := fr_l hf M (B ++ [l]) A (fun m hm => hM m (List.mem_cons_of_mem _ hm)) (by rw [List.append_assoc]; exact h1)
    rw [List.append_assoc] at h2
    exact h2
theorem wd_l (hf : ∀ (B A : wd9) (l l' : Nat × Nat), l.1 + 1 < l'.1 ∨ l'.1 + 1 < l.1 → Pr (B ++ l' :: l :: A) → Pr (B ++ l :: l' :: A)) (h3 : ∀ (B A : wd9) (g x y w : Nat), Pr (B ++ (g, w) :: (g + 1, y) :: (g, x) :: A) → Pr (B ++ (g + 1, x) :: (g, y) :: (g + 1, w) :: A)) (h2 : ∀ (B A : wd9) (g x y : Nat), Pr (B ++ (g, y) :: (g, x) :: A)) : ∀ (k m : Nat) (U B A : wd9), tpz k U ≤ m → (∀ l, l ∈ U → l.1 ≤ k) → (∀ U' : wd9, (∀ l, l ∈ U' → l.1 ≤ k) → tpz k U' ≤ 1 → Pr (B ++ (U' ++ A))) → Pr (B ++ (U ++ A)) := by
  intro k
  induction k with
  | zero =>
    intro m U B A hm hU hfin
    by_cases c : tpz 0 U ≤ 1
    · exact hfin U hU c
    · obtain ⟨U1, a, M, b, U2, rfl, hM⟩ := tpz_2 c
      cases M with
      | nil =>
        have h9 := h2 (B ++ U1) (U2 ++ A) 0 b a
        simp only [List.append_assoc, List.cons_append, List.nil_append] at h9 ⊢
        exact h9
      | cons l M =>
        exfalso
        have q1 := hM l List.mem_cons_self
        have q2 := hU l (List.mem_append_right _ (List.mem_cons_of_mem _ List.mem_cons_self))
        omega
  | succ k ihk =>
    intro m
    induction m with
    | zero =>
      intro U B A hm hU hfin
      exact hfin U hU (by omega)
    | succ m ihm =>
      intro U B A hm hU hfin
      by_cases c : tpz (k + 1) U ≤ 1
      · exact hfin U hU c
      · obtain ⟨U1, a, M, b, U2, rfl, hM⟩ := tpz_2 c
        have hMk : ∀ l, l ∈ M → l.1 ≤ k := fun l hl => by
          have q1 := hM l hl
          have q2 := hU l (List.mem_append_right _ (List.mem_cons_of_mem _ (List.mem_append_left _ hl)))
          omega
        have lt : ∀ V : wd9, (∀ l, l ∈ V → l.1 ≤ k) → tpz k V = 0 → ∀ l, l ∈ V → l.1 + 1 < k + 1 := fun V q1 q0 l hl => by
          have q2 := q1 l hl
          have q3 := tpz_0 q0 l hl
          omega
        have key : Pr ((B ++ (U1 ++ [(k + 1, a)])) ++ (M ++ ((k + 1, b) :: (U2 ++ A)))) := by
          refine ihk (tpz k M) M _ _ (Nat.le_refl _) hMk (fun M' hM1 hM2 => ?_)
          by_cases c0 : tpz k M' = 0
          · have h9 := fr_r (l0 := (k + 1, a)) hf M' (B ++ U1) ((k + 1, b) :: (U2 ++ A)) (lt M' hM1 c0) (by
              have h8 := h2 ((B ++ U1) ++ M') (U2 ++ A) (k + 1) b a
              simp only [List.append_assoc] at h8 ⊢
              exact h8)
            simp only [List.append_assoc, List.cons_append, List.nil_append] at h9 ⊢
            exact h9
          · obtain ⟨M1, cc, M2, rfl, q1⟩ := tpz_s c0
            have t1 : tpz k M1 = 0 := tpz_n q1
            have t2 : tpz k M2 = 0 := by
              rw [tpz_a, tpz_y] at hM2
              omega
            have p1 : ∀ l, l ∈ M1 → l.1 ≤ k := fun l hl => hM1 l (List.mem_append_left _ hl)
            have p2 : ∀ l, l ∈ M2 → l.1 ≤ k := fun l hl => hM1 l (List.mem_append_right _ (List.mem_cons_of_mem _ hl))
            have z : ∀ V : wd9, (∀ l, l ∈ V → l.1 ≤ k) → tpz (k + 1) V = 0 := fun V hV => tpz_n (fun l hl => by
              have := hV l hl
              omega)
            have w1 := ihm (U1 ++ (M1 ++ (k, b) :: (k + 1, cc) :: (k, a) :: (M2 ++ U2))) B A (by
              rw [tpz_a, tpz_y, tpz_a, tpz_y, z M hMk] at hm
              rw [tpz_a, tpz_a, tpz_o (l := (k, b)) (show k ≠ k + 1 by omega), tpz_y, tpz_o (l := (k, a)) (show k ≠ k + 1 by omega), tpz_a, z M1 p1, z M2 p2]
              omega) (fun l hl => by
              rcases List.mem_append.mp hl with q2 | q2
              · exact hU l (List.mem_append_left _ q2)
              · rcases List.mem_append.mp q2 with q3 | q3
                · have := p1 l q3
                  omega
                · rcases List.mem_cons.mp q3 with q4 | q4
                  · rw [q4]
                    exact Nat.le_succ k
                  · rcases List.mem_cons.mp q4 with q5 | q5
                    · rw [q5]
                      exact Nat.le_refl _
                    · rcases List.mem_cons.mp q5 with q6 | q6
                      · rw [q6]
                        exact Nat.le_succ k
                      · rcases List.mem_append.mp q6 with q7 | q7
                        · have := p2 l q7
                          omega
                        · exact hU l (List.mem_append_right _ (List.mem_cons_of_mem _ (List.mem_append_right _ (List.mem_cons_of_mem _ q7))))) hfin
            have w2 := h3 (B ++ (U1 ++ M1)) (M2 ++ (U2 ++ A)) k a cc b (by
              simp only [List.append_assoc, List.cons_append] at w1 ⊢
              exact w1)
            have w3 := fr_l (l0 := (k + 1, b)) hf M2 (B ++ (U1 ++ (M1 ++ [(k + 1, a), (k, cc)]))) (U2 ++ A) (lt M2 p2 t2) (by
              simp only [List.append_assoc, List.cons_append, List.nil_append] at w2 ⊢
              exact w2)
            have w4 := fr_r (l0 := (k + 1, a)) hf M1 (B ++ U1) ((k, cc) :: (M2 ++ (k + 1, b) :: (U2 ++ A))) (lt M1 p1 t1) (by
              simp only [List.append_assoc, List.cons_append, List.nil_append] at w3 ⊢
              exact w3)
            simp only [List.append_assoc, List.cons_append, List.nil_append] at w4 ⊢
            exact w4
        simp only [List.append_assoc, List.cons_append, List.nil_append] at key ⊢
        exact key
theorem fln_tk : ∀ {L : List (List tk9)}, (∀ c, c ∈ L → c ≠ []) → L.length ≤ L.flatten.length
  | [], _ => Nat.le_refl 0
  | c :: L, h => by
    have h1 := fln_tk (L := L) (fun d hd => h d (List.mem_cons_of_mem _ hd))
    have h2 : c.length ≠ 0 := fun h9 => h c List.mem_cons_self (List.length_eq_zero_iff.mp h9)
    rw [List.flatten_cons, List.length_append, List.length_cons]
    omega
theorem or_ne {L : List (List tk9)} (hL : orz n W L) : ∀ c, c ∈ L → c ≠ [] := fun c hc h9 => by
  obtain ⟨p, r, e, -⟩ := hL.1 c hc
  rw [h9] at e
  cases e
theorem ph_tr (hn : n ≤ 1) (ho : okw n W) : PhZ n W := fun L ov hL => by
  have hW : nmz W = [] := by
    cases W with
    | nil => rfl
    | cons l W =>
      have := ho.1 l List.mem_cons_self
      omega
  have len : ∀ L, orz n W L → vlz (Gz n W) L ov = lfz 0 := fun L hL => by
    have g9 : gdz L ov := fun x i hx => by
      have h9 := fs_nm hL (p := (x, decide (i = 1))) (fsz_m.mpr ⟨List.not_mem_nil, i, hx, rfl⟩)
      rw [hW] at h9
      exact absurd h9 List.not_mem_nil
    rw [vlz_g g9]
    have h1 := fln_tk (or_ne hL)
    have h2 : L.flatten.length ≤ 1 := by
      have hm : ∀ p, p ∈ L.flatten → p = (0, 2) := fun p hp => by
        rcases (hL.2.2 p).mp hp with ⟨h3, h4⟩ | ⟨-, h3⟩
        · obtain ⟨a, i⟩ := p
          have h3 : i = 2 := h3
          have h4 : a < n := h4
          rw [h3, show a = 0 by omega]
        · rw [hW] at h3
          exact absurd h3 List.not_mem_nil
      have hn := hL.2.1
      generalize L.flatten = l at hm hn
      match l, hm, hn with
      | [], _, _ => exact Nat.zero_le _
      | [a], _, _ => exact Nat.le_refl _
      | a :: b :: l, hm, hn =>
        exfalso
        have e1 := hm a List.mem_cons_self
        have e2 := hm b (List.mem_cons_of_mem _ List.mem_cons_self)
        exact (List.nodup_cons.mp hn).1 (by rw [e1, ← e2]; exact List.mem_cons_self)
    rw [show L.length - 1 = 0 by omega]
  rw [Fz_e ho hL, len L hL, len _ (orc_o hL)]
theorem ph_all : ∀ (n : Nat) (W : wd9), okw n W → PhZ n W
  | 0, W, ho => ph_tr (by omega) ho
  | 1, W, ho => ph_tr (by omega) ho
  | g + 2, W, ho => by
    have ihn := ph_all (g + 1)
    have main : ∀ (K : Nat) (W : wd9), W.length = K → okw (g + 2) W → PhZ (g + 2) W := by
      intro K
      induction K using Nat.strongRecOn with
      | ind K ih =>
        have hP : ∀ V : wd9, V.length < K → okw (g + 2) V → PhZ (g + 2) V := fun V hV => ih _ hV V rfl
        intro W hK ho
        have key := wd_l (Pr := fun W => W.length = K → okw (g + 2) W → PhZ (g + 2) W) (fun B A l l' hll h0 hk hok => by
          have e : (B ++ l' :: l :: A).length = (B ++ l :: l' :: A).length := by
            rw [List.length_append, List.length_append]
            rfl
          exact cm_P (g := l.1) (h := l'.1) (x := l.2) (y := l'.2) hll hok (by rw [show (B ++ (l.1, l.2) :: (l'.1, l'.2) :: A).length = K from hk]; exact hP) (h0 (e.trans hk) (ok_pm (cm_pm (g := l.1) (h := l'.1) (x := l.2) (y := l'.2)) hok))) (fun B A g' x y w h0 hk hok => by
          have e : (B ++ (g', w) :: (g' + 1, y) :: (g', x) :: A).length = (B ++ (g' + 1, x) :: (g', y) :: (g' + 1, w) :: A).length := by
            rw [List.length_append, List.length_append]
            rfl
          exact r3_P hok (by rw [hk]; exact hP) (h0 (e.trans hk) (r3_ok hok))) (fun B A g' x y hk hok => r2_P hok (by rw [hk]; exact hP)) g (tpz g W) W [] [] (Nat.le_refl _) (fun l hl => by
          have := ho.1 l hl
          omega) (fun U hU1 hU2 hk hok => by
          rw [List.nil_append, List.append_nil] at hk hok ⊢
          by_cases c0 : tpz g U = 0
          · have hok2 : okw (g + 1) U := ⟨fun l hl => by
              have q1 := hU1 l hl
              have q2 := tpz_0 c0 l hl
              omega, hok.2⟩
            exact cr_P (n := g + 1) (by omega) hok2 hok (by rw [hk]; exact hP) (fun V _ hV => ihn V hV)
          · obtain ⟨B, x, A, rfl, q1⟩ := tpz_s c0
            have t2 : tpz g A = 0 := by
              rw [tpz_a, tpz_y] at hU2
              omega
            obtain ⟨-, -, hd⟩ := okw_d hok
            have hok2 : okw (g + 1) (B ++ A) := ⟨fun l hl => by
              rcases List.mem_append.mp hl with q2 | q2
              · have q3 := hU1 l (List.mem_append_left _ q2)
                have q4 := q1 l q2
                omega
              · have q3 := hU1 l (List.mem_append_right _ (List.mem_cons_of_mem _ q2))
                have q4 := tpz_0 t2 l q2
                omega, hd.2⟩
            exact r1_P hok2 hok (by rw [hk]; exact hP) (fun V _ hV => ihn V hV))
        rw [List.nil_append, List.append_nil] at key
        exact key hK ho
    exact main _ W rfl ho
end XTWG
end
section
/-! 99zzzzzzzzzzzzzzzzr.xtwh -/
/-! two: lists of visits that show a closed braid -/
def trz (ov : Nat → Bool) (p : tk9) : Nat × Nat := (p.1, if decide (p.2 = 1) = ov p.1 then 0 else 1)
def pjz (ov : Nat → Bool) (e : List tk9) : List (Nat × Nat) := (e.filter (fun p => decide (p.2 ≠ 2))).map (trz ov)
def bdz (n : Nat) (W : wd9) (ov : Nat → Bool) (A : rn_L) (sg : Nat → Bool) : Prop := okw n W ∧ (∃ L, orz n W L ∧ A = L.map (pjz ov)) ∧ ∀ x, x ∈ nmz W → sg x = !ov x
section XTWH
variable {n : Nat} {W : wd9} {ov sg : Nat → Bool} {A : rn_L} {L : List (List tk9)}
theorem pjz_a (a b : List tk9) : pjz ov (a ++ b) = pjz ov a ++ pjz ov b := by
  unfold pjz
  rw [List.filter_append, List.map_append]
theorem pjz_m {p : tk9} {r : List tk9} (h : p.2 = 2) : pjz ov (p :: r) = pjz ov r := by
  unfold pjz
  rw [List.filter_cons_of_neg (by simp [h])]
theorem pjz_v {p : tk9} {r : List tk9} (h : p.2 ≠ 2) : pjz ov (p :: r) = trz ov p :: pjz ov r := by
  unfold pjz
  rw [List.filter_cons_of_pos (by simp [h]), List.map_cons]
theorem pjz_sp {p : Nat × Nat} {Y : List (Nat × Nat)} : ∀ {e : List tk9} {X : List (Nat × Nat)}, pjz ov e = X ++ p :: Y → ∃ a u b, e = a ++ u :: b ∧ u.2 ≠ 2 ∧ pjz ov a = X ∧ trz ov u = p ∧ pjz ov b = Y
  | [], X, h => by
    have h9 := congrArg List.length h
    rw [List.length_append] at h9
    simp [pjz] at h9
  | u :: e, X, h => by
    by_cases c : u.2 = 2
    · rw [pjz_m c] at h
      obtain ⟨a, t, b, h1, h2, h3, h4, h5⟩ := pjz_sp h
      exact ⟨u :: a, t, b, by rw [h1]; rfl, h2, by rw [pjz_m c]; exact h3, h4, h5⟩
    · rw [pjz_v c] at h
      cases X with
      | nil =>
        obtain ⟨e1, e2⟩ := List.cons.inj h
        exact ⟨[], u, e, rfl, c, rfl, e1, e2⟩
      | cons x X =>
        obtain ⟨e1, e2⟩ := List.cons.inj h
        obtain ⟨a, t, b, h1, h2, h3, h4, h5⟩ := pjz_sp e2
        exact ⟨u :: a, t, b, by rw [h1]; rfl, h2, by rw [pjz_v c, e1, h3], h4, h5⟩
theorem mp_sp {c : List (Nat × Nat)} {Q : rn_L} {f : List tk9 → List (Nat × Nat)} : ∀ {L : List (List tk9)} {P : rn_L}, P ++ c :: Q = L.map f → ∃ L1 e L2, L = L1 ++ e :: L2 ∧ L1.map f = P ∧ f e = c ∧ L2.map f = Q
  | [], P, h => by
    have h9 := congrArg List.length h
    rw [List.length_append] at h9
    simp at h9
  | e :: L, P, h => by
    cases P with
    | nil =>
      obtain ⟨e1, e2⟩ := List.cons.inj h
      exact ⟨[], e, L, rfl, rfl, e1.symm, e2.symm⟩
    | cons x P =>
      obtain ⟨e1, e2⟩ := List.cons.inj h
      obtain ⟨L1, e', L2, h1, h2, h3, h4⟩ := mp_sp e2
      exact ⟨e :: L1, e', L2, by rw [h1]; rfl, by rw [List.map_cons, h2, e1], h3, h4⟩
theorem pj_fl : ∀ (L : List (List tk9)), (L.map (pjz ov)).flatten = pjz ov L.flatten
  | [] => rfl
  | c :: L => by
    rw [List.map_cons, List.flatten_cons, List.flatten_cons, pjz_a, pj_fl L]
theorem pj_mem {e : List tk9} {q : Nat × Nat} : q ∈ pjz ov e ↔ ∃ p, p ∈ e ∧ p.2 ≠ 2 ∧ trz ov p = q := by
  unfold pjz
  rw [List.mem_map]
  constructor
  · rintro ⟨p, h1, h2⟩
    obtain ⟨h3, h4⟩ := List.mem_filter.mp h1
    exact ⟨p, h3, of_decide_eq_true h4, h2⟩
  · rintro ⟨p, h1, h2, h3⟩
    exact ⟨p, List.mem_filter.mpr ⟨h1, decide_eq_true h2⟩, h3⟩
/-- two ends of one crossing -/
theorem trz_2 {u t : tk9} {x : Nat} (hu : u.2 < 2) (ht : t.2 < 2) (h : trz ov u = (x, 0) ∧ trz ov t = (x, 1) ∨ trz ov u = (x, 1) ∧ trz ov t = (x, 0)) : ∃ i, i < 2 ∧ u = (x, i) ∧ t = (x, 1 - i) := by
  obtain ⟨a, i⟩ := u
  obtain ⟨b, j⟩ := t
  have hu : i < 2 := hu
  have ht : j < 2 := ht
  have ha : a = x := by
    rcases h with ⟨h1, -⟩ | ⟨h1, -⟩
    · exact (Prod.mk.inj h1).1
    · exact (Prod.mk.inj h1).1
  have hb : b = x := by
    rcases h with ⟨-, h1⟩ | ⟨-, h1⟩
    · exact (Prod.mk.inj h1).1
    · exact (Prod.mk.inj h1).1
  subst ha
  subst hb
  refine ⟨i, hu, rfl, ?_⟩
  have hne : i ≠ j := fun h9 => by
    rw [h9] at h
    rcases h with ⟨h1, h2⟩ | ⟨h1, h2⟩
    · rw [h1] at h2
      exact absurd (Prod.mk.inj h2).2 (by decide)
    · rw [h1] at h2
      exact absurd (Prod.mk.inj h2).2 (by decide)
  rw [show j = 1 - i by omega]
theorem or_2 (hL : orz n W L) {u : tk9} (hu : u ∈ L.flatten) (h2 : u.2 ≠ 2) : u.2 < 2 ∧ u.1 ∈ nmz W := by
  rcases (hL.2.2 _).mp hu with ⟨h3, -⟩ | h3
  · exact absurd h3 h2
  · exact h3
theorem smV_cs {v w : Nat} (hvw : v < w) (hw : w < A.flatten.length) : (∃ P X Y Z Po, A = P ++ (X ++ vAt A v :: (Y ++ vAt A w :: Z)) :: Po ∧ smV A v w = P ++ (X ++ Z) :: Po ++ [Y]) ∨ ∃ P X X' Mi V V' Po, A = P ++ (X ++ vAt A v :: X') :: (Mi ++ (V ++ vAt A w :: V') :: Po) ∧ smV A v w = P ++ (((X ++ V') ++ V) ++ X') :: (Mi ++ Po) := by
  obtain ⟨c1, c2, c3⟩ := rn_c_in A v (by omega)
  obtain ⟨j1, j2, j3⟩ := rn_c_in A w hw
  unfold smV
  generalize rn_c A v = c at c1 c2 c3
  generalize rn_c A w = J at j1 j2 j3
  have eA : A = ((cps A 0 c).map (List.map (vAt A))) ++ ((seg (rn_b A c) (rn_b A (c + 1))).map (vAt A)) :: ((cps A (c + 1) A.length).map (List.map (vAt A))) := by
    conv => lhs; rw [← cps_all (A := A)]
    rw [cps_app (Nat.zero_le c) (show c ≤ A.length by omega), cps_cons c1, List.map_append, List.map_cons]
  have eL : seg (rn_b A c) (rn_b A (c + 1)) = seg (rn_b A c) v ++ v :: seg (v + 1) (rn_b A (c + 1)) := by
    rw [seg_app c2 (Nat.le_of_lt c3), seg_cons c3]
  unfold smC
  by_cases hone : w < rn_b A (c + 1)
  · rw [if_pos hone]
    have eL2 : seg (v + 1) (rn_b A (c + 1)) = seg (v + 1) w ++ w :: seg (w + 1) (rn_b A (c + 1)) := by
      rw [seg_app (show v + 1 ≤ w by omega) (Nat.le_of_lt hone), seg_cons hone]
    rw [eL, eL2, List.map_append, List.map_cons, List.map_append, List.map_cons] at eA
    refine Or.inl ⟨_, _, _, _, _, eA, ?_⟩
    rw [List.map_append, List.map_append, List.map_append, List.map_cons, List.map_cons, List.map_nil, List.map_append]
    rw [show ∀ (a : rn_L) (b : List vT) (d e : rn_L), a ++ [b] ++ d ++ e = a ++ b :: d ++ e from fun a b d e => by simp]
  · rw [if_neg hone]
    have hcJ : c < J := by
      rcases Nat.lt_or_ge c J with h9 | h9
      · exact h9
      · have := rn_b_mono2 (A := A) (show J + 1 ≤ c + 1 by omega)
        omega
    have eP : cps A (c + 1) A.length = cps A (c + 1) J ++ seg (rn_b A J) (rn_b A (J + 1)) :: cps A (J + 1) A.length := by
      rw [cps_app (show c + 1 ≤ J by omega) (show J ≤ A.length by omega), cps_cons j1]
    have eM : seg (rn_b A J) (rn_b A (J + 1)) = seg (rn_b A J) w ++ w :: seg (w + 1) (rn_b A (J + 1)) := by
      rw [seg_app j2 (Nat.le_of_lt j3), seg_cons j3]
    rw [eL, eP, eM, List.map_append, List.map_cons, List.map_append, List.map_cons, List.map_append, List.map_cons] at eA
    refine Or.inr ⟨_, _, _, _, _, _, _, eA, ?_⟩
    rw [List.map_append, List.map_append, List.map_append, List.map_cons, List.map_nil, List.map_append, List.map_append, List.map_append]
    rw [show ∀ (a : rn_L) (b : List vT) (d e : rn_L), a ++ [b] ++ d ++ e = a ++ b :: (d ++ e) from fun a b d e => by simp]
theorem bd_sm {v w x : Nat} (h : bdz n W ov A sg) (hvw : v < w) (hw : w < A.flatten.length) (hx : vAt A v = (x, 0) ∧ vAt A w = (x, 1) ∨ vAt A v = (x, 1) ∧ vAt A w = (x, 0)) : bdz n (dlz x W) ov (smV A v w) sg := by
  obtain ⟨ho, ⟨L, hL, eA⟩, hs⟩ := h
  refine ⟨ok_dl ho, ?_, fun y hy => hs y (nm_dl.mp hy).1⟩
  rcases smV_cs hvw hw with ⟨P, X, Y, Z, Po, e1, e2⟩ | ⟨P, X, X', Mi, V, V', Po, e1, e2⟩
  · obtain ⟨L1, e, L2, rfl, q1, q2, q3⟩ := mp_sp (e1.symm.trans eA)
    obtain ⟨a, u, r, rfl, u2, p1, p2, p3⟩ := pjz_sp q2
    obtain ⟨b, t, c, rfl, t2, p4, p5, p6⟩ := pjz_sp p3
    have mu : u ∈ (L1 ++ (a ++ u :: (b ++ t :: c)) :: L2).flatten := List.mem_flatten.mpr ⟨_, List.mem_append_right _ List.mem_cons_self, List.mem_append_right _ List.mem_cons_self⟩
    have mt : t ∈ (L1 ++ (a ++ u :: (b ++ t :: c)) :: L2).flatten := List.mem_flatten.mpr ⟨_, List.mem_append_right _ List.mem_cons_self, List.mem_append_right _ (List.mem_cons_of_mem _ (List.mem_append_right _ List.mem_cons_self))⟩
    obtain ⟨u3, u4⟩ := or_2 hL mu u2
    obtain ⟨t3, -⟩ := or_2 hL mt t2
    rw [← p2, ← p5] at hx
    obtain ⟨i, hi, rfl, rfl⟩ := trz_2 u3 t3 hx
    obtain ⟨A9, B9, g, eW⟩ := nm_ex (show x ∈ nmz W from u4)
    rw [eW] at ho hL
    obtain ⟨hxA, hxB, -⟩ := okw_d ho
    have k := orz_s1 ho hi hL
    refine ⟨L1 ++ (a ++ c) :: L2 ++ [b], ?_, ?_⟩
    · rw [eW, dlz_e hxA hxB]
      refine orz_p ?_ k
      rw [List.append_assoc]
      refine List.Perm.append_left _ ?_
      rw [List.cons_append]
      refine List.Perm.cons _ ?_
      exact List.perm_append_comm
    · rw [e2, List.map_append, List.map_append, List.map_cons, pjz_a, q1, q3, p1, p6]
      show _ = P ++ (X ++ Z) :: Po ++ [pjz ov b]
      rw [p4]
  · obtain ⟨L1, e, L2, rfl, q1, q2, q3⟩ := mp_sp (e1.symm.trans eA)
    obtain ⟨M2, e', L3, rfl, r1, r2, r3⟩ := mp_sp q3.symm
    obtain ⟨a1, u, a2, rfl, u2, p1, p2, p3⟩ := pjz_sp q2
    obtain ⟨b1, t, b2, rfl, t2, p4, p5, p6⟩ := pjz_sp r2
    have mu : u ∈ (L1 ++ (a1 ++ u :: a2) :: (M2 ++ (b1 ++ t :: b2) :: L3)).flatten := List.mem_flatten.mpr ⟨_, List.mem_append_right _ List.mem_cons_self, List.mem_append_right _ List.mem_cons_self⟩
    have mt : t ∈ (L1 ++ (a1 ++ u :: a2) :: (M2 ++ (b1 ++ t :: b2) :: L3)).flatten := List.mem_flatten.mpr ⟨_, List.mem_append_right _ (List.mem_cons_of_mem _ (List.mem_append_right _ List.mem_cons_self)), List.mem_append_right _ List.mem_cons_self⟩
    obtain ⟨u3, u4⟩ := or_2 hL mu u2
    obtain ⟨t3, -⟩ := or_2 hL mt t2
    rw [← p2, ← p5] at hx
    obtain ⟨i, hi, rfl, rfl⟩ := trz_2 u3 t3 hx
    obtain ⟨A9, B9, g, eW⟩ := nm_ex (show x ∈ nmz W from u4)
    rw [eW] at ho hL
    obtain ⟨hxA, hxB, -⟩ := okw_d ho
    have k := orz_s2 ho hi hL
    refine ⟨L1 ++ (a1 ++ (b2 ++ (b1 ++ a2))) :: (M2 ++ L3), ?_, ?_⟩
    · rw [eW, dlz_e hxA hxB]
      exact k
    · rw [e2, List.map_append, List.map_cons, List.map_append, pjz_a, pjz_a, pjz_a, q1, r1, r3, p1, p3, p4, p6, List.append_assoc, List.append_assoc]
theorem trz_fl (x : Nat) (p : tk9) : trz (flz ov x) p = flp (fun y => decide (y = x)) (trz ov p) := by
  unfold flp
  by_cases c : p.1 = x
  · rw [if_pos (show decide ((trz ov p).1 = x) = true from decide_eq_true c)]
    unfold trz
    show (p.1, if decide (p.2 = 1) = flz ov x p.1 then 0 else 1) = (p.1, 1 - if decide (p.2 = 1) = ov p.1 then 0 else 1)
    rw [c, flz_at]
    cases decide (p.2 = 1) <;> cases ov x <;> rfl
  · rw [if_neg (show ¬ decide ((trz ov p).1 = x) = true from fun h9 => c (of_decide_eq_true h9))]
    unfold trz
    rw [flz_ot c]
theorem pjz_fl (x : Nat) (e : List tk9) : pjz (flz ov x) e = (pjz ov e).map (flp (fun y => decide (y = x))) := by
  unfold pjz
  rw [List.map_map]
  exact List.map_congr_left (fun p _ => trz_fl x p)
theorem bd_ch (x : Nat) (h : bdz n W ov A sg) : bdz n W (flz ov x) (chA A x) (chS sg x) := by
  obtain ⟨ho, ⟨L, hL, eA⟩, hs⟩ := h
  refine ⟨ho, ⟨L, hL, ?_⟩, fun y hy => ?_⟩
  · unfold chA
    rw [eA, List.map_map]
    exact List.map_congr_left (fun e _ => (pjz_fl x e).symm)
  · show (if y = x then !sg y else sg y) = !(if y = x then !ov y else ov y)
    rw [hs y hy]
    split
    · rfl
    · rfl
theorem bd_nm (h : bdz n W ov A sg) {p : Nat × Nat} (hp : p ∈ A.flatten) : p.1 ∈ nmz W := by
  obtain ⟨ho, ⟨L, hL, eA⟩, hs⟩ := h
  rw [eA, pj_fl] at hp
  obtain ⟨u, h1, h2, h3⟩ := pj_mem.mp hp
  rw [← h3]
  exact (or_2 hL h1 h2).2
/-- met over first everywhere: circles apart -/
theorem bd_lf (h : bdz n W ov A sg) (hg : gPre A A.flatten.length) : Fz n W ov = lfz (A.length - 1) := by
  obtain ⟨ho, ⟨L, hL, eA⟩, hs⟩ := h
  have g9 : gdz L ov := fun x i hx => by
    obtain ⟨a, c, e, h2, h3⟩ := hx
    have e1 : A.flatten = pjz ov a ++ trz ov (x, i) :: pjz ov c := by
      rw [eA, pj_fl, e, pjz_a, pjz_v (p := (x, i)) h2]
    have at0 : vAt A (pjz ov a).length = trz ov (x, i) := by
      unfold vAt
      rw [e1, List.getElem?_append_right (Nat.le_refl _), Nat.sub_self]
      rfl
    have lt : (pjz ov a).length < A.flatten.length := by
      rw [e1, List.length_append, List.length_cons]
      omega
    have h4 := hg _ lt lt (fun w hw h9 => by
      unfold crs at h9
      rw [at0] at h9
      have hm : vAt A w ∈ pjz ov a := by
        unfold vAt
        rw [e1, List.getElem?_append_left hw, List.getElem?_eq_getElem hw]
        exact List.getElem_mem hw
      obtain ⟨u, k1, k2, k3⟩ := pj_mem.mp hm
      rcases h3 u k1 with k4 | k4
      · exact k2 k4
      · rw [← k3] at h9
        exact k4 h9)
    unfold uns at h4
    rw [at0] at h4
    have h4 : (if decide (i = 1) = ov x then 0 else 1) = 0 := h4
    by_cases c9 : decide (i = 1) = ov x
    · exact c9.symm
    · rw [if_neg c9] at h4
      exact absurd h4 (by decide)
  rw [← ph_all n W ho L ov hL, vlz_g g9, eA, List.length_map]
theorem bd_sk (h : bdz n W ov A sg) {x : Nat} (hx : x ∈ nmz W) : Fz n W ov = skz (ov x) (Fz n W (flz ov x)) (Fz n (dlz x W) ov) := by
  obtain ⟨ho, ⟨L, hL, -⟩, -⟩ := h
  exact sk_F ho hL ov x hx
end XTWH
end
section
/-! 99zzzzzzzzzzzzzzzzs.xtwi -/
/-! two: the closed braid's own order -/
def wdN (w ν : Nat → Nat) : Nat → wd9
  | 0 => []
  | l + 1 => (w l, ν l) :: wdN w ν l
def rtk (w ν : Nat → Nat) (s : Nat) : Nat → List tk9
  | 0 => []
  | i + 1 => if psn w s i = w i ∨ psn w s i = w i + 1 then rtk w ν s i ++ [(ν i, if psn w s i = w i then 1 else 0)] else rtk w ν s i
def rgT (w ν : Nat → Nat) (l : Nat) (R : List Nat) : List tk9 := R.flatMap (fun s => (s, 2) :: rtk w ν s l)
def nmf (ν : Nat → Nat) (p : Nat × Nat) : Nat × Nat := (ν p.1, p.2)
section XTWI
variable {w ν : Nat → Nat} {lp ov : Nat → Bool} {s n l : Nat}
theorem rtk_on {i : Nat} (h : onL w s i) : rtk w ν s (i + 1) = rtk w ν s i ++ [(ν i, if psn w s i = w i then 1 else 0)] := if_pos h
theorem rtk_off {i : Nat} (h : ¬ onL w s i) : rtk w ν s (i + 1) = rtk w ν s i := if_neg h
theorem wdN_nm {x : Nat} : ∀ {l : Nat}, x ∈ nmz (wdN w ν l) ↔ ∃ k, k < l ∧ x = ν k
  | 0 => ⟨fun h => absurd h List.not_mem_nil, fun ⟨k, h, _⟩ => absurd h (Nat.not_lt_zero _)⟩
  | l + 1 => by
    show x ∈ ν l :: nmz (wdN w ν l) ↔ _
    rw [List.mem_cons, wdN_nm]
    constructor
    · rintro (h | ⟨k, h1, h2⟩)
      · exact ⟨l, Nat.lt_succ_self l, h⟩
      · exact ⟨k, by omega, h2⟩
    · rintro ⟨k, h1, h2⟩
      by_cases c : k = l
      · exact Or.inl (by rw [h2, c])
      · exact Or.inr ⟨k, by omega, h2⟩
theorem rtk_mem {p : tk9} : ∀ {i : Nat}, p ∈ rtk w ν s i ↔ ∃ k, k < i ∧ onL w s k ∧ p = (ν k, if psn w s k = w k then 1 else 0)
  | 0 => ⟨fun h => absurd h List.not_mem_nil, fun ⟨k, h, _⟩ => absurd h (Nat.not_lt_zero _)⟩
  | i + 1 => by
    by_cases h : onL w s i
    · rw [rtk_on h, List.mem_append, rtk_mem, List.mem_singleton]
      constructor
      · rintro (⟨k, h1, h2⟩ | e)
        · exact ⟨k, by omega, h2⟩
        · exact ⟨i, Nat.lt_succ_self _, h, e⟩
      · rintro ⟨k, h1, h2, h3⟩
        by_cases c : k = i
        · rw [c] at h3
          exact Or.inr h3
        · exact Or.inl ⟨k, by omega, h2, h3⟩
    · rw [rtk_off h, rtk_mem]
      constructor
      · rintro ⟨k, h1, h2⟩
        exact ⟨k, by omega, h2⟩
      · rintro ⟨k, h1, h2, h3⟩
        by_cases c : k = i
        · rw [c] at h2
          exact absurd h2 h
        · exact ⟨k, by omega, h2, h3⟩
theorem okN : ∀ {l : Nat}, (∀ i, i < l → w i + 1 < n) → (∀ i j, i < l → j < l → ν i = ν j → i = j) → okw n (wdN w ν l)
  | 0, _, _ => ⟨fun m hm => absurd hm List.not_mem_nil, List.nodup_nil⟩
  | l + 1, hw, hν => by
    have ih := okN (l := l) (fun i hi => hw i (by omega)) (fun i j hi hj => hν i j (by omega) (by omega))
    refine ⟨fun m hm => ?_, ?_⟩
    · rcases List.mem_cons.mp hm with h | h
      · rw [h]
        exact hw l (Nat.lt_succ_self l)
      · exact ih.1 m h
    · show (ν l :: nmz (wdN w ν l)).Nodup
      refine List.nodup_cons.mpr ⟨fun h => ?_, ih.2⟩
      obtain ⟨k, h1, h2⟩ := wdN_nm.mp h
      have := hν l k (Nat.lt_succ_self l) (by omega) h2
      omega
theorem pth_th {W : wd9} {g x : Nat} : ∀ {r : List tk9} {p q : tk9}, pth (sgm W) p r q → nov x p → (∀ t, t ∈ r → nov x t ∧ t.2 ≠ 2) → pth (sgm ((g, x) :: W)) p r (thz g x q)
  | [], p, q, h, hp, _ => by
    have h : sgm W p = q := h
    show sgm ((g, x) :: W) p = thz g x q
    rw [sgm_o (l := (g, x)) hp.1 hp.2, h]
  | a :: r, p, q, h, hp, hr => by
    have ha := hr a List.mem_cons_self
    refine ⟨?_, pth_th h.2 ha.1 (fun t ht => hr t (List.mem_cons_of_mem _ ht))⟩
    rw [sgm_o (l := (g, x)) hp.1 hp.2, h.1]
    exact thz_v ha.2
theorem rt_pth : ∀ i, (∀ j k, j < i → k < i → ν j = ν k → j = k) → pth (sgm (wdN w ν i)) (s, 2) (rtk w ν s i) (psn w s i, 2)
  | 0, _ => rfl
  | i + 1, hν => by
    have ih := rt_pth i (fun j k hj hk => hν j k (by omega) (by omega))
    have nv9 : ∀ t, t ∈ rtk w ν s i → nov (ν i) t ∧ t.2 ≠ 2 := fun t ht => by
      obtain ⟨k, hk, -, rfl⟩ := rtk_mem.mp ht
      refine ⟨nov_n (fun h9 => ?_), ?_⟩
      · have := hν k i (by omega) (by omega) h9
        omega
      · show (if psn w s k = w k then 1 else 0) ≠ 2
        split
        · decide
        · decide
    have h1 := pth_th (g := w i) (x := ν i) ih nov_m nv9
    show pth (sgm ((w i, ν i) :: wdN w ν i)) (s, 2) (rtk w ν s (i + 1)) (psn w s (i + 1), 2)
    by_cases h : onL w s i
    · rw [rtk_on h]
      have e2 : psn w s (i + 1) = sw2 (w i) (w i + 1) (psn w s i) := rfl
      by_cases c : psn w s i = w i
      · rw [if_pos c]
        rw [c, thz_1] at h1
        refine pth_a.mpr ⟨h1, ?_⟩
        show sgm ((w i, ν i) :: wdN w ν i) (ν i, 1) = (psn w s (i + 1), 2)
        rw [e2, c]
        unfold sw2
        rw [if_pos rfl]
        exact sgm_1 (l := (w i, ν i))
      · have c2 : psn w s i = w i + 1 := h.elim (fun h9 => absurd h9 c) id
        rw [if_neg c]
        rw [c2, thz_0] at h1
        refine pth_a.mpr ⟨h1, ?_⟩
        show sgm ((w i, ν i) :: wdN w ν i) (ν i, 0) = (psn w s (i + 1), 2)
        rw [e2, c2]
        unfold sw2
        rw [if_neg (by omega), if_pos rfl]
        exact sgm_0 (l := (w i, ν i))
    · rw [rtk_off h, (rnL_off (lp := fun _ => true) h).2]
      rw [thz_o (p := (psn w s i, 2)) (mk_ne (fun h9 => h (Or.inl h9))) (mk_ne (fun h9 => h (Or.inr h9)))] at h1
      exact h1
theorem rg_pth (hν : ∀ j k, j < l → k < l → ν j = ν k → j = k) : ∀ (R : List Nat) (c a : Nat), (∀ X c' d Y, c :: R = X ++ c' :: d :: Y → psn w c' l = d) → (∀ X c', c :: R = X ++ [c'] → psn w c' l = a) → ∃ r, rgT w ν l (c :: R) = (c, 2) :: r ∧ pth (sgm (wdN w ν l)) (c, 2) r (a, 2)
  | [], c, a, _, h2 => by
    refine ⟨rtk w ν c l, ?_, ?_⟩
    · unfold rgT
      rw [List.flatMap_cons]
      show ((c, 2) :: rtk w ν c l) ++ [] = _
      rw [List.append_nil]
    · have h9 := rt_pth (s := c) (w := w) l hν
      rw [h2 [] c rfl] at h9
      exact h9
  | d :: R, c, a, h1, h2 => by
    obtain ⟨r, e, hp⟩ := rg_pth hν R d a (fun X c' d' Y e => h1 (c :: X) c' d' Y (by rw [e]; rfl)) (fun X c' e => h2 (c :: X) c' (by rw [e]; rfl))
    refine ⟨rtk w ν c l ++ (d, 2) :: r, ?_, pth_a.mpr ⟨?_, hp⟩⟩
    · show rgT w ν l (c :: d :: R) = _
      unfold rgT at e ⊢
      rw [List.flatMap_cons, e]
      rfl
    · have h9 := rt_pth (s := c) (w := w) l hν
      rw [h1 [] c d R rfl] at h9
      exact h9
theorem rgT_fl : ∀ Rs : List (List Nat), (Rs.map (rgT w ν l)).flatten = rgT w ν l Rs.flatten
  | [] => rfl
  | R :: Rs => by
    rw [List.map_cons, List.flatten_cons, List.flatten_cons, rgT_fl Rs]
    unfold rgT
    rw [List.flatMap_append]
theorem rgT_mem {R : List Nat} {p : tk9} : p ∈ rgT w ν l R ↔ ∃ s, s ∈ R ∧ (p = (s, 2) ∨ p ∈ rtk w ν s l) := by
  unfold rgT
  rw [List.mem_flatMap]
  exact ⟨fun ⟨s, h1, h2⟩ => ⟨s, h1, List.mem_cons.mp h2⟩, fun ⟨s, h1, h2⟩ => ⟨s, h1, List.mem_cons.mpr h2⟩⟩
theorem rtk_2 {p : tk9} {i : Nat} (h : p ∈ rtk w ν s i) : p.2 < 2 := by
  obtain ⟨k, -, -, rfl⟩ := rtk_mem.mp h
  show (if psn w s k = w k then 1 else 0) < 2
  split
  · decide
  · decide
theorem rtk_nd : ∀ i, (∀ j k, j < i → k < i → ν j = ν k → j = k) → (rtk w ν s i).Nodup
  | 0, _ => List.nodup_nil
  | i + 1, hν => by
    have ih := rtk_nd i (fun j k hj hk => hν j k (by omega) (by omega))
    by_cases h : onL w s i
    · rw [rtk_on h]
      refine List.nodup_append.mpr ⟨ih, List.nodup_cons.mpr ⟨List.not_mem_nil, List.nodup_nil⟩, fun a ha b hb e => ?_⟩
      obtain ⟨k, hk, -, rfl⟩ := rtk_mem.mp ha
      rw [List.mem_singleton.mp hb] at e
      have := hν k i (by omega) (by omega) (Prod.mk.inj e).1
      omega
    · rw [rtk_off h]
      exact ih
theorem rtk_uni {t : Nat} {p : tk9} (hν : ∀ j k, j < l → k < l → ν j = ν k → j = k) (h1 : p ∈ rtk w ν s l) (h2 : p ∈ rtk w ν t l) : s = t := by
  obtain ⟨k, k1, k2, k3⟩ := rtk_mem.mp h1
  obtain ⟨j, j1, j2, j3⟩ := rtk_mem.mp h2
  rw [k3] at j3
  obtain ⟨e1, e2⟩ := Prod.mk.inj j3
  have e := hν k j k1 j1 e1
  subst e
  refine psn_inj (w := w) k ?_
  by_cases c : psn w s k = w k
  · by_cases d : psn w t k = w k
    · rw [c, d]
    · rw [if_pos c, if_neg d] at e2
      exact absurd e2 (by decide)
  · by_cases d : psn w t k = w k
    · rw [if_neg c, if_pos d] at e2
      exact absurd e2 (by decide)
    · rcases k2 with k2 | k2
      · exact absurd k2 c
      · rcases j2 with j2 | j2
        · exact absurd j2 d
        · rw [k2, j2]
theorem rgT_nd (hν : ∀ j k, j < l → k < l → ν j = ν k → j = k) : ∀ {R : List Nat}, R.Nodup → (rgT w ν l R).Nodup
  | [], _ => List.nodup_nil
  | a :: R, h => by
    obtain ⟨h1, h2⟩ := List.nodup_cons.mp h
    have e : rgT w ν l (a :: R) = ((a, 2) :: rtk w ν a l) ++ rgT w ν l R := by
      unfold rgT
      rw [List.flatMap_cons]
    rw [e]
    refine List.nodup_append.mpr ⟨List.nodup_cons.mpr ⟨fun h9 => absurd (rtk_2 h9) (Nat.lt_irrefl 2), rtk_nd l hν⟩, rgT_nd hν h2, fun p hp q hq e => ?_⟩
    rw [← e] at hq
    obtain ⟨t, ht, hq2⟩ := rgT_mem.mp hq
    rcases List.mem_cons.mp hp with hp | hp
    · rcases hq2 with hq2 | hq2
      · rw [hp] at hq2
        have := (Prod.mk.inj hq2).1
        exact h1 (by rw [this]; exact ht)
      · have := rtk_2 hq2
        rw [hp] at this
        exact absurd this (Nat.lt_irrefl 2)
    · rcases hq2 with hq2 | hq2
      · have := rtk_2 hp
        rw [hq2] at this
        exact absurd this (Nat.lt_irrefl 2)
      · have := rtk_uni hν hp hq2
        exact h1 (by rw [this]; exact ht)
/-- the closed braid has an order -/
theorem cl_orz {Rs : List (List Nat)} (hw : ∀ i, i < l → w i + 1 < n) (hν : ∀ i j, i < l → j < l → ν i = ν j → i = j) (hQ : clQ w n l Rs) (hall : ∀ s, s < n → s ∈ Rs.flatten) : orz n (wdN w ν l) (Rs.map (rgT w ν l)) := by
  refine ⟨fun c hc => ?_, ?_, fun p => ?_⟩
  · obtain ⟨R, hR, rfl⟩ := List.mem_map.mp hc
    obtain ⟨hne, j, h1, h2, h3, h4⟩ := hQ.2.2 R hR
    cases R with
    | nil => exact absurd rfl hne
    | cons c R =>
      have e := h4 c R rfl
      obtain ⟨r, e1, hp⟩ := rg_pth (w := w) hν R c j h1 h2
      rw [← e] at hp
      exact ⟨(c, 2), r, e1, hp⟩
  · rw [rgT_fl]
    exact rgT_nd hν hQ.1
  · rw [rgT_fl, rgT_mem]
    constructor
    · rintro ⟨s, h1, h2 | h2⟩
      · rw [h2]
        exact Or.inl ⟨rfl, hQ.2.1 s h1⟩
      · refine Or.inr ⟨rtk_2 h2, ?_⟩
        obtain ⟨k, k1, -, k3⟩ := rtk_mem.mp h2
        rw [k3]
        exact wdN_nm.mpr ⟨k, k1, rfl⟩
    · rintro (⟨h1, h2⟩ | ⟨h1, h2⟩)
      · obtain ⟨a, i⟩ := p
        have h1 : i = 2 := h1
        exact ⟨a, hall a h2, Or.inl (by rw [h1])⟩
      · obtain ⟨k, k1, k2⟩ := wdN_nm.mp h2
        obtain ⟨a, i⟩ := p
        have h1 : i < 2 := h1
        have k2 : a = ν k := k2
        have hk := hw k k1
        rcases (show i = 1 ∨ i = 0 by omega) with e | e
        · obtain ⟨s, s1, s2⟩ := psn_sur k (w k) (by omega) (fun j hj => hw j (by omega))
          refine ⟨s, hall s s1, Or.inr (rtk_mem.mpr ⟨k, k1, Or.inl s2, ?_⟩)⟩
          rw [if_pos s2, k2, e]
        · obtain ⟨s, s1, s2⟩ := psn_sur k (w k + 1) hk (fun j hj => hw j (by omega))
          refine ⟨s, hall s s1, Or.inr (rtk_mem.mpr ⟨k, k1, Or.inr s2, ?_⟩)⟩
          rw [if_neg (by omega), k2, e]
theorem pj_rt : ∀ i, (∀ k, k < i → ov (ν k) = lp k) → pjz ov (rtk w ν s i) = (rnL w lp s i).map (nmf ν)
  | 0, _ => rfl
  | i + 1, h => by
    have ih := pj_rt i (fun k hk => h k (by omega))
    by_cases c : onL w s i
    · rw [rtk_on c, rnL_on c, pjz_a, List.map_append, ih]
      refine congrArg _ ?_
      rw [pjz_v (p := (ν i, if psn w s i = w i then 1 else 0)) (by show (if psn w s i = w i then 1 else 0) ≠ 2; split <;> decide)]
      show [(ν i, if decide ((if psn w s i = w i then 1 else 0) = 1) = ov (ν i) then 0 else 1)] = [(ν i, ubn w lp s i)]
      unfold ubn
      rw [h i (Nat.lt_succ_self i)]
      by_cases d : psn w s i = w i
      · rw [if_pos d, decide_eq_true d, decide_eq_true rfl]
      · rw [if_neg d, decide_eq_false d, decide_eq_false (by decide)]
    · rw [rtk_off c, (rnL_off (lp := lp) c).1]
      exact ih
theorem pj_rg (h : ∀ k, k < l → ov (ν k) = lp k) : ∀ R : List Nat, pjz ov (rgT w ν l R) = (R.flatMap (fun s => rnL w lp s l)).map (nmf ν)
  | [] => rfl
  | a :: R => by
    have e : rgT w ν l (a :: R) = ((a, 2) :: rtk w ν a l) ++ rgT w ν l R := by
      unfold rgT
      rw [List.flatMap_cons]
    rw [e, pjz_a, pjz_m (p := (a, 2)) rfl, pj_rt l h, pj_rg h R, List.flatMap_cons, List.map_append]
theorem cl_bdz {Rs : List (List Nat)} {sg : Nat → Bool} (hw : ∀ i, i < l → w i + 1 < n) (hν : ∀ i j, i < l → j < l → ν i = ν j → i = j) (hQ : clQ w n l Rs) (hall : ∀ s, s < n → s ∈ Rs.flatten) (ho : ∀ k, k < l → ov (ν k) = lp k) (hs : ∀ k, k < l → sg (ν k) = !lp k) : bdz n (wdN w ν l) ov ((rgS w lp l Rs).map (List.map (nmf ν))) sg := by
  refine ⟨okN hw hν, ⟨_, cl_orz hw hν hQ hall, ?_⟩, fun x hx => ?_⟩
  · unfold rgS
    rw [List.map_map, List.map_map]
    exact List.map_congr_left (fun R _ => (pj_rg ho R).symm)
  · obtain ⟨k, k1, rfl⟩ := wdN_nm.mp hx
    rw [hs k k1, ho k k1]
end XTWI
end
section
/-! 99zzzzzzzzzzzzzzzzt.xtwj -/
/-! two: lists that show one net show one closed braid -/
section XTWJ
variable {n : Nat} {W : wd9} {ov sg sb : Nat → Bool} {A B : rn_L} {N : Nat → Nat} {lab : vT → Nat}
theorem sc_lst {p q a : vT} {X : List vT} (h : (X ++ [a]).head? = some p) (ha : a ∉ X) : sc (X ++ [a]) a = p := by
  cases X with
  | nil => exact Option.some.inj h
  | cons b X =>
    have h : some b = some p := h
    rw [← Option.some.inj h]
    exact sc_end ha
theorem cy_eq {p : vT} : ∀ (c d X : List vT) (a : vT), (X ++ a :: c).Nodup → (X ++ a :: d).Nodup → (X ++ [a]).head? = some p → (∀ q, q ∈ X ++ a :: c → q ∈ X ++ a :: d → sc (X ++ a :: c) q = sc (X ++ a :: d) q) → c = d := by
  have pin : ∀ (X : List vT) (a : vT), (X ++ [a]).head? = some p → p ∈ X ++ [a] := fun X a h => List.mem_of_mem_head? h
  intro c
  induction c with
  | nil =>
    intro d X a hc hd hp h
    cases d with
    | nil => rfl
    | cons b d =>
      exfalso
      obtain ⟨aX, -⟩ := nd_mid hc
      have h1 := h a (List.mem_append_right _ List.mem_cons_self) (List.mem_append_right _ List.mem_cons_self)
      rw [sc_lst (q := a) hp aX, sc_mid aX] at h1
      have h2 := pin X a hp
      rw [h1] at h2
      have e : X ++ a :: b :: d = (X ++ [a]) ++ b :: d := by
        rw [List.append_assoc]
        rfl
      rw [e] at hd
      exact (nd_mid hd).1 h2
  | cons b c ih =>
    intro d X a hc hd hp h
    obtain ⟨aX, -⟩ := nd_mid hc
    cases d with
    | nil =>
      exfalso
      have h1 := h a (List.mem_append_right _ List.mem_cons_self) (List.mem_append_right _ List.mem_cons_self)
      rw [sc_lst (q := a) hp aX, sc_mid aX] at h1
      have h2 := pin X a hp
      rw [← h1] at h2
      have e : X ++ a :: b :: c = (X ++ [a]) ++ b :: c := by
        rw [List.append_assoc]
        rfl
      rw [e] at hc
      exact (nd_mid hc).1 h2
    | cons b' d =>
      have h1 := h a (List.mem_append_right _ List.mem_cons_self) (List.mem_append_right _ List.mem_cons_self)
      rw [sc_mid aX, sc_mid aX] at h1
      subst h1
      have e : ∀ c : List vT, X ++ a :: b :: c = (X ++ [a]) ++ b :: c := fun c => by
        rw [List.append_assoc]
        rfl
      rw [e] at hc hd h
      rw [e] at h
      refine congrArg _ (ih d (X ++ [a]) b hc hd ?_ h)
      rw [← hp]
      cases X with
      | nil => rfl
      | cons t X => rfl
theorem cir_p {P Q : rn_L} : cirs (P ++ [] :: Q) = cirs (P ++ Q) + 1 := by
  unfold cirs
  rw [List.countP_append, List.countP_cons_of_pos rfl, List.countP_append]
  omega
theorem cir_n {P Q : rn_L} {p : vT} {c : List vT} : cirs (P ++ (p :: c) :: Q) = cirs (P ++ Q) := by
  unfold cirs
  rw [List.countP_append, List.countP_cons_of_neg (by simp), List.countP_append]
theorem cir_pos : ∀ {A : rn_L}, 0 < cirs A → [] ∈ A
  | [], h => absurd h (Nat.lt_irrefl 0)
  | c :: A, h => by
    cases c with
    | nil => exact List.mem_cons_self
    | cons p c =>
      have e : cirs ((p :: c) :: A) = cirs A := cir_n (P := [])
      rw [e] at h
      exact List.mem_cons_of_mem _ (cir_pos h)
theorem rb_ex : ∀ (A : rn_L) (L : List (List tk9)), shw N lab A → shw N lab (L.map (pjz ov)) → A.flatten.Nodup → (L.map (pjz ov)).flatten.Nodup → (∀ p, p ∈ A.flatten ↔ p ∈ (L.map (pjz ov)).flatten) → (∀ p q, p ∈ A.flatten → q ∈ A.flatten → lab p = lab q → p = q) → cirs A = cirs (L.map (pjz ov)) → ∃ L', (∀ P, orz n W (P ++ L) → orz n W (P ++ L')) ∧ L'.map (pjz ov) = A := by
  intro A
  induction A with
  | nil =>
    intro L hA hL nA nL hm hi hc
    cases L with
    | nil => exact ⟨[], fun P h => h, rfl⟩
    | cons e L =>
      exfalso
      have e0 : pjz ov e = [] := List.eq_nil_iff_forall_not_mem.mpr (fun q hq => by
        have := (hm q).mpr (List.mem_flatten.mpr ⟨_, List.mem_cons_self, hq⟩)
        exact absurd this List.not_mem_nil)
      rw [List.map_cons, e0] at hc
      have h2 : cirs ([] :: L.map (pjz ov)) = cirs (L.map (pjz ov)) + 1 := cir_p (P := [])
      rw [h2] at hc
      have h3 : cirs ([] : rn_L) = 0 := rfl
      omega
  | cons c A ih =>
    intro L hA hL nA nL hm hi hc
    have hA2 : shw N lab A := fun K hK => hA K (List.mem_cons_of_mem _ hK)
    rw [List.flatten_cons] at nA
    obtain ⟨nc, nA2, nd⟩ := List.nodup_append.mp nA
    have prm : ∀ (L1 L2 : List (List tk9)) (e : List tk9), ((L1 ++ e :: L2).map (pjz ov)).flatten.Perm (pjz ov e ++ ((L1 ++ L2).map (pjz ov)).flatten) := fun L1 L2 e => ((List.perm_middle (l₁ := L1) (a := e) (l₂ := L2)).map (pjz ov)).flatten
    have sub : ∀ (L1 L2 : List (List tk9)) (e : List tk9), shw N lab ((L1 ++ e :: L2).map (pjz ov)) → shw N lab ((L1 ++ L2).map (pjz ov)) := fun L1 L2 e h K hK => h K (by
      rw [List.map_append] at hK ⊢
      rcases List.mem_append.mp hK with h9 | h9
      · exact List.mem_append_left _ h9
      · exact List.mem_append_right _ (List.mem_cons_of_mem _ h9))
    have orp : ∀ (P L1 L2 : List (List tk9)) (e : List tk9), orz n W (P ++ (L1 ++ e :: L2)) → orz n W ((P ++ [e]) ++ (L1 ++ L2)) := fun P L1 L2 e h => by
      rw [List.append_assoc]
      exact orz_p (List.Perm.append_left P (List.perm_middle (l₁ := L1) (a := e) (l₂ := L2)).symm) h
    cases c with
    | nil =>
      have hc1 : cirs ([] :: A) = cirs A + 1 := cir_p (P := [])
      have hx : [] ∈ L.map (pjz ov) := cir_pos (by rw [← hc, hc1]; omega)
      obtain ⟨e, he, e0⟩ := List.mem_map.mp hx
      obtain ⟨L1, L2, rfl⟩ := spl_m he
      have hp := prm L1 L2 e
      rw [e0, List.nil_append] at hp
      have hc2 : cirs ((L1 ++ e :: L2).map (pjz ov)) = cirs ((L1 ++ L2).map (pjz ov)) + 1 := by
        rw [List.map_append, List.map_cons, e0, cir_p, List.map_append]
      obtain ⟨L', k1, k2⟩ := ih (L1 ++ L2) hA2 (sub L1 L2 e hL) nA2 (hp.nodup_iff.mp nL) (fun p => ((hm p).trans hp.mem_iff)) (fun p q h1 h2 => hi p q h1 h2) (by omega)
      refine ⟨e :: L', fun P h => ?_, by rw [List.map_cons, e0, k2]⟩
      have := k1 _ (orp P L1 L2 e h)
      rw [List.append_assoc] at this
      exact this
    | cons p c =>
      have pm9 : p ∈ ((p :: c) :: A).flatten := List.mem_flatten.mpr ⟨_, List.mem_cons_self, List.mem_cons_self⟩
      obtain ⟨f, hf, hpf⟩ := List.mem_flatten.mp ((hm p).mp pm9)
      obtain ⟨e, he, ef⟩ := List.mem_map.mp hf
      obtain ⟨L1, L2, rfl⟩ := spl_m he
      obtain ⟨X, Y, eXY⟩ := spl_m hpf
      obtain ⟨a, u, b, rfl, u2, p1, p2, p3⟩ := pjz_sp (ef.trans eXY)
      have hp := prm L1 L2 (a ++ u :: b)
      have nL2 := hp.nodup_iff.mp nL
      obtain ⟨ne, nr, ndj⟩ := List.nodup_append.mp nL2
      have hmem : ∀ q, q ∈ X ++ p :: Y → q ∈ ((p :: c) :: A).flatten := fun q hq => (hm q).mpr (hp.mem_iff.mpr (List.mem_append_left _ (by rw [ef, eXY]; exact hq)))
      rw [ef, eXY] at ne
      have ne2 : ((p :: Y) ++ X).Nodup := nd_rot ne
      have scE : ∀ q, q ∈ p :: c → q ∈ (p :: Y) ++ X → sc (p :: c) q = sc ((p :: Y) ++ X) q := fun q h1 h2 => by
        have h3 : q ∈ X ++ p :: Y := by
          rcases List.mem_append.mp h2 with h9 | h9
          · exact List.mem_append_right _ h9
          · exact List.mem_append_left _ h9
        rw [sc_rot ne h3]
        have s1 := sc_in h1 nc
        have s2 := sc_in h3 ne
        refine hi _ _ (List.mem_flatten.mpr ⟨_, List.mem_cons_self, s1⟩) (hmem _ s2) ?_
        rw [← hA (p :: c) List.mem_cons_self q h1, ← hL (X ++ p :: Y) (by rw [← eXY]; exact hf) q h3]
      have ec : c = Y ++ X := cy_eq (p := p) c (Y ++ X) [] p nc ne2 rfl scE
      have same : ∀ q, q ∈ p :: c ↔ q ∈ pjz ov (a ++ u :: b) := fun q => by
        rw [ef, eXY, ec, List.mem_cons, List.mem_append, List.mem_append, List.mem_cons]
        constructor
        · rintro (h | h | h)
          · exact Or.inr (Or.inl h)
          · exact Or.inr (Or.inr h)
          · exact Or.inl h
        · rintro (h | h | h)
          · exact Or.inr (Or.inr h)
          · exact Or.inl h
          · exact Or.inr (Or.inl h)
      have hm2 : ∀ q, q ∈ A.flatten ↔ q ∈ ((L1 ++ L2).map (pjz ov)).flatten := fun q => by
        have h1 := (hm q).trans hp.mem_iff
        rw [List.flatten_cons, List.mem_append, List.mem_append, same q] at h1
        constructor
        · intro h
          rcases h1.mp (Or.inr h) with h9 | h9
          · exact absurd rfl (nd q ((same q).mpr h9) q h)
          · exact h9
        · intro h
          rcases h1.mpr (Or.inr h) with h9 | h9
          · exact absurd rfl (ndj q h9 q h)
          · exact h9
      have hc1 : cirs ((p :: c) :: A) = cirs A := cir_n (P := [])
      have hc2 : cirs ((L1 ++ (a ++ u :: b) :: L2).map (pjz ov)) = cirs ((L1 ++ L2).map (pjz ov)) := by
        obtain ⟨t, Z, et⟩ : ∃ t Z, pjz ov (a ++ u :: b) = t :: Z := by
          rw [ef, eXY]
          cases X with
          | nil => exact ⟨p, Y, rfl⟩
          | cons t X => exact ⟨t, X ++ p :: Y, rfl⟩
        rw [List.map_append, List.map_cons, et, cir_n, List.map_append]
      obtain ⟨L', k1, k2⟩ := ih (L1 ++ L2) hA2 (sub L1 L2 _ hL) nA2 nr hm2 (fun q r h1 h2 => hi q r (by rw [List.flatten_cons]; exact List.mem_append_right _ h1) (by rw [List.flatten_cons]; exact List.mem_append_right _ h2)) (by omega)
      refine ⟨((u :: b) ++ a) :: L', fun P h => ?_, ?_⟩
      · have h9 := k1 _ (orp P L1 L2 _ h)
        rw [List.append_assoc] at h9
        exact orz_t h9
      · rw [List.map_cons, pjz_a, pjz_v u2, p1, p2, p3, k2, ec]
        rfl
theorem bd_iso (h : bdz n W ov B sb) (hB : shw N lab B) (hA : shw N lab A) (nA : A.flatten.Nodup) (nB : B.flatten.Nodup) (hm : ∀ p, p ∈ A.flatten ↔ p ∈ B.flatten) (hi : ∀ p q, p ∈ A.flatten → q ∈ A.flatten → lab p = lab q → p = q) (hc : cirs A = cirs B) : bdz n W ov A sb := by
  obtain ⟨ho, ⟨L, hL, rfl⟩, hs⟩ := h
  obtain ⟨L', k1, k2⟩ := rb_ex (n := n) (W := W) A L hA hB nA nB hm hi hc
  exact ⟨ho, ⟨L', k1 [] hL, k2.symm⟩, hs⟩
/-- a list that shows the closed braid's net -/
theorem bd_cl {T : ow_NT} {g w : Nat → Nat} {lp : Nat → Bool} {Rs : List (List Nat)} (hA : isoV A sg g T) (hR : isoV (rgS w lp T.1 Rs) (fun i => !lp i) (fun x => x) T) (hw : ∀ i, i < T.1 → w i + 1 < n) (hQ : clQ w n T.1 Rs) (hall : ∀ s, s < n → s ∈ Rs.flatten) : ∃ W, bdz n W (fun x => !sg x) A sg := by
  have hsur : ∀ i, ∃ x, i < T.1 → (x, 0) ∈ A.flatten ∧ (x, 1) ∈ A.flatten ∧ g x = i := fun i => by
    by_cases hi : i < T.1
    · obtain ⟨⟨x, u⟩, h1, h2⟩ := gl_sur hA (k := 2 * i) (by omega)
      have h3 := hA.1.1.2 _ h1
      have h4 : u < 2 := h3.2.1
      have h5 : ((x, 1 - u) : Nat × Nat) ∈ A.flatten := h3.2.2
      have h2 : 2 * g x + u = 2 * i := h2
      have hu : u = 0 := by omega
      subst hu
      exact ⟨x, fun _ => ⟨h1, h5, by omega⟩⟩
    · exact ⟨0, fun h9 => absurd h9 hi⟩
  obtain ⟨ν, hν⟩ : ∃ ν : Nat → Nat, ∀ i, i < T.1 → (ν i, 0) ∈ A.flatten ∧ (ν i, 1) ∈ A.flatten ∧ g (ν i) = i := ⟨fun i => Classical.choose (hsur i), fun i => Classical.choose_spec (hsur i)⟩
  have inj : ∀ i j, i < T.1 → j < T.1 → ν i = ν j → i = j := fun i j hi hj e => by
    have h1 := (hν i hi).2.2
    have h2 := (hν j hj).2.2
    rw [e, h2] at h1
    exact h1.symm
  have ok := cl_ok (lp := lp) hw hQ hall
  have hsg : ∀ k, k < T.1 → sg (ν k) = !lp k := fun k hk => by
    have h1 := hA.1.2.2.2.2.2.2.1 (ν k, 0) (hν k hk).1
    have h1 : T.2.2.2 (g (ν k)) < 0 ↔ sg (ν k) = true := h1
    rw [(hν k hk).2.2] at h1
    have h2 := hR.1.2.2.2.2.2.2.1 (k, 0) ((ok.2 (k, 0)).mpr ⟨hk, by omega⟩)
    have h2 : T.2.2.2 k < 0 ↔ (!lp k) = true := h2
    have h3 := h1.symm.trans h2
    revert h3
    cases sg (ν k) <;> cases lp k <;> simp
  have hb := cl_bdz (ov := fun x => !sg x) (sg := sg) hw inj hQ hall (fun k hk => by show (!sg (ν k)) = lp k; rw [hsg k hk, Bool.not_not]) hsg
  have fl : ∀ D : rn_L, (D.map (List.map (nmf ν))).flatten = D.flatten.map (nmf ν) := fun D => by
    induction D with
    | nil => rfl
    | cons c D ih => rw [List.map_cons, List.flatten_cons, List.flatten_cons, List.map_append, ih]
  have nj : ∀ p q, p ∈ (rgS w lp T.1 Rs).flatten → q ∈ (rgS w lp T.1 Rs).flatten → nmf ν p = nmf ν q → p = q := fun p q hp hq e => by
    obtain ⟨e1, e2⟩ := Prod.mk.inj e
    exact Prod.ext (inj _ _ ((ok.2 p).mp hp).1 ((ok.2 q).mp hq).1 e1) e2
  have glE : ∀ p, p ∈ (rgS w lp T.1 Rs).flatten → gl g (nmf ν p) = gl (fun x => x) p := fun p hp => by
    show 2 * g (ν p.1) + p.2 = 2 * p.1 + p.2
    rw [(hν p.1 ((ok.2 p).mp hp).1).2.2]
  have ndc : ∀ c, c ∈ rgS w lp T.1 Rs → c.Nodup := fun c hc => by
    have := ok.1
    rw [List.nodup_iff_pairwise_ne, List.pairwise_flatten] at this
    exact this.1 c hc
  refine ⟨_, bd_iso (N := T.2.2.1.1) (lab := gl g) hb (fun K hK q hq => ?_) hA.1.2.2.2.2.2.1 hA.1.1.1 ?_ (fun q => ?_) (fun p q hp hq e => ?_) ?_⟩
  · obtain ⟨c, hc, rfl⟩ := List.mem_map.mp hK
    obtain ⟨p, hp, rfl⟩ := List.mem_map.mp hq
    have inF : ∀ r, r ∈ c → r ∈ (rgS w lp T.1 Rs).flatten := fun r hr => List.mem_flatten.mpr ⟨c, hc, hr⟩
    rw [sc_map (ndc c hc) (fun r t hr ht => nj r t (inF r hr) (inF t ht)) hp, glE p (inF p hp), glE _ (inF _ (sc_in hp (ndc c hc)))]
    exact hR.1.2.2.2.2.2.1 c hc p hp
  · rw [fl]
    exact nodup_map ok.1 nj
  · rw [fl, List.mem_map]
    constructor
    · intro h
      have h3 := hA.1.1.2 _ h
      have h4 := hA.1.2.2.2.1 _ h
      have h5 := hν (g q.1) h4
      have h6 : ν (g q.1) = q.1 := hA.1.2.2.2.2.1 _ _ h5.1 h h5.2.2
      exact ⟨(g q.1, q.2), (ok.2 _).mpr ⟨h4, h3.2.1⟩, Prod.ext h6 rfl⟩
    · rintro ⟨p, h1, rfl⟩
      obtain ⟨h2, h3⟩ := (ok.2 p).mp h1
      have h5 := hν p.1 h2
      show (ν p.1, p.2) ∈ A.flatten
      rcases (show p.2 = 0 ∨ p.2 = 1 by omega) with e | e
      · rw [e]
        exact h5.1
      · rw [e]
        exact h5.2.1
  · have e : 2 * g p.1 + p.2 = 2 * g q.1 + q.2 := e
    have a1 := (hA.1.1.2 _ hp).2.1
    have a2 := (hA.1.1.2 _ hq).2.1
    exact Prod.ext (hA.1.2.2.2.2.1 p q hp hq (by omega)) (by omega)
  · have e1 : cirs ((rgS w lp T.1 Rs).map (List.map (nmf ν))) = cirs (rgS w lp T.1 Rs) := by
      unfold cirs
      rw [List.countP_map]
      refine List.countP_congr (fun c _ => ?_)
      cases c <;> simp
    rw [e1, hA.1.2.2.2.2.2.2.2, hR.1.2.2.2.2.2.2.2]
end XTWJ
end
section
/-! 99zzzzzzzzzzzzzzzzu.xtwk -/
/-! two: the reference's skein, exactly -/
def sgt9 (t : Nat) : Int := if t % 2 = 0 then 1 else -1
def tmz (k : Nat) : Nat → pz9
  | 0 => fun _ _ => 0
  | t + 1 => fun p q => tmz k t p q + (if p = 2 * (t : Int) - k ∧ q = -(k : Int) then sgt9 t * (binN k t : Int) else 0)
theorem sgt9_s (t : Nat) : sgt9 (t + 1) = -sgt9 t := by
  unfold sgt9
  by_cases h : t % 2 = 0
  · rw [if_pos h, if_neg (by omega)]
  · rw [if_neg h, if_pos (by omega)]
    decide
theorem tmz_cr (k : Nat) : ∀ (m : Nat) (p q : Int), tmz (k + 1) (m + 1) p q = (tmz k m (p + 1) (q + 1) - tmz k m (p - 1) (q + 1)) + (if p = 2 * (m : Int) - ((k : Int) + 1) ∧ q = -((k : Int) + 1) then sgt9 m * (binN k m : Int) else 0)
  | 0, p, q => by
    show (0 : Int) + (if p = 2 * ((0 : Nat) : Int) - ((k + 1 : Nat) : Int) ∧ q = -((k + 1 : Nat) : Int) then sgt9 0 * (binN (k + 1) 0 : Int) else 0) = ((0 : Int) - 0) + (if p = 2 * ((0 : Nat) : Int) - ((k : Int) + 1) ∧ q = -((k : Int) + 1) then sgt9 0 * (binN k 0 : Int) else 0)
    rw [binN_z, binN_z]
    by_cases c : p = 2 * ((0 : Nat) : Int) - ((k : Int) + 1) ∧ q = -((k : Int) + 1)
    · rw [if_pos c, if_pos ⟨by omega, by omega⟩]
      rfl
    · rw [if_neg c, if_neg (fun h => c ⟨by omega, by omega⟩)]
      rfl
  | m + 1, p, q => by
    have ih := tmz_cr k m p q
    show tmz (k + 1) (m + 1) p q + (if p = 2 * ((m + 1 : Nat) : Int) - ((k + 1 : Nat) : Int) ∧ q = -((k + 1 : Nat) : Int) then sgt9 (m + 1) * (binN (k + 1) (m + 1) : Int) else 0) = ((tmz k m (p + 1) (q + 1) + (if p + 1 = 2 * (m : Int) - k ∧ q + 1 = -(k : Int) then sgt9 m * (binN k m : Int) else 0)) - (tmz k m (p - 1) (q + 1) + (if p - 1 = 2 * (m : Int) - k ∧ q + 1 = -(k : Int) then sgt9 m * (binN k m : Int) else 0))) + (if p = 2 * ((m + 1 : Nat) : Int) - ((k : Int) + 1) ∧ q = -((k : Int) + 1) then sgt9 (m + 1) * (binN k (m + 1) : Int) else 0)
    rw [ih]
    have eb : sgt9 (m + 1) * ((binN (k + 1) (m + 1) : Nat) : Int) = -(sgt9 m * (binN k m : Int)) + sgt9 (m + 1) * (binN k (m + 1) : Int) := by
      show sgt9 (m + 1) * ((binN k m + binN k (m + 1) : Nat) : Int) = _
      rw [Int.natCast_add, Int.mul_add, sgt9_s, Int.neg_mul]
    rw [eb]
    generalize sgt9 m * (binN k m : Int) = X
    generalize sgt9 (m + 1) * (binN k (m + 1) : Int) = Y
    generalize tmz k m (p + 1) (q + 1) = u
    generalize tmz k m (p - 1) (q + 1) = v
    by_cases cq : q = -((k : Int) + 1)
    · by_cases c1 : p = 2 * (m : Int) - ((k : Int) + 1)
      · rw [if_pos ⟨c1, cq⟩, if_neg (fun h => by omega), if_pos (show p + 1 = 2 * (m : Int) - k ∧ q + 1 = -(k : Int) from ⟨by omega, by omega⟩), if_neg (fun h => by omega), if_neg (fun h => by omega)]
        omega
      · by_cases c2 : p = 2 * ((m + 1 : Nat) : Int) - ((k : Int) + 1)
        · rw [if_neg (fun h => c1 h.1), if_pos (show p = 2 * ((m + 1 : Nat) : Int) - ((k + 1 : Nat) : Int) ∧ q = -((k + 1 : Nat) : Int) from ⟨by omega, by omega⟩), if_neg (fun h => by omega), if_pos (show p - 1 = 2 * (m : Int) - k ∧ q + 1 = -(k : Int) from ⟨by omega, by omega⟩), if_pos ⟨c2, cq⟩]
          omega
        · rw [if_neg (fun h => c1 h.1), if_neg (fun h => c2 (by omega)), if_neg (fun h => c1 (by omega)), if_neg (fun h => c2 (by omega)), if_neg (fun h => c2 h.1)]
          omega
    · rw [if_neg (fun h => cq h.2), if_neg (fun h => cq (by omega)), if_neg (fun h => cq (by omega)), if_neg (fun h => cq (by omega)), if_neg (fun h => cq h.2)]
      omega
theorem tmz_l : ∀ (k : Nat) (p q : Int), tmz k (k + 1) p q = lfz k p q
  | 0, p, q => by
    show (0 : Int) + (if p = 2 * ((0 : Nat) : Int) - ((0 : Nat) : Int) ∧ q = -((0 : Nat) : Int) then sgt9 0 * (binN 0 0 : Int) else 0) = (if p = 0 ∧ q = 0 then 1 else 0)
    by_cases c : p = 0 ∧ q = 0
    · rw [if_pos c, if_pos ⟨by omega, by omega⟩]
      rfl
    · rw [if_neg c, if_neg (fun h => c ⟨by omega, by omega⟩)]
      rfl
  | k + 1, p, q => by
    rw [tmz_cr k (k + 1) p q, binN_0 (Nat.lt_succ_self k), tmz_l k, tmz_l k]
    show _ + (if p = 2 * ((k + 1 : Nat) : Int) - ((k : Int) + 1) ∧ q = -((k : Int) + 1) then sgt9 (k + 1) * (0 : Int) else 0) = lfz k (p + 1) (q + 1) - lfz k (p - 1) (q + 1)
    rw [Int.mul_zero]
    split
    · omega
    · omega
theorem lf_tab : ∀ m : Fin 18, ∀ t : Fin 18, t.val ≤ m.val → (Int64.ofInt (1 * (binN m.val t.val : Int)) * (nI m.val - nI t.val).toInt64) / (nI (t.val + 1)).toInt64 = Int64.ofInt (1 * (binN m.val (t.val + 1) : Int)) ∧ (Int64.ofInt (-1 * (binN m.val t.val : Int)) * (nI m.val - nI t.val).toInt64) / (nI (t.val + 1)).toInt64 = Int64.ofInt (-1 * (binN m.val (t.val + 1) : Int)) := by decide +kernel
theorem lf_par : ∀ t : Fin 18, (nI t.val &&& 1) = 0 ↔ t.val % 2 = 0 := by decide +kernel
/-- the reference's table -/
def twA (z : ow_MS) (n : pz9) : Prop := ∀ a b : Nat, a < 129 → b < 41 → z.2.2 44 (129 * b + a) = Int64.ofInt (n ((a : Int) - 64) ((b : Int) - 20))
theorem twA_fr {P : Nat → Prop} {z z1 : ow_MS} {n : pz9} (hf : fr P z z1) (hP : ¬ P 44) (h : twA z n) : twA z1 n := fun a b ha hb => by
  rw [(hf 44 hP).2.2]
  exact h a b ha hb
theorem twA_cg {z : ow_MS} {n n' : pz9} (h : twA z n) (e : ∀ p q, n p q = n' p q) : twA z n' := fun a b ha hb => by
  rw [← e]
  exact h a b ha hb
section XTWK1
variable {z : ow_MS}
theorem xr_leaf2 {c j a : Nat} {σ : Int} {n : pz9} (hc : 1 ≤ c) (hcj : c ≤ j + 6) (hj : j ≤ 12) (ha : 16 ≤ a) (ha2 : a ≤ 64) (hσ : σ = 1 ∨ σ = -1) (h46 : z.1 46 = 1) (hn : twA z n) : Te (fun K => qe_X13_leaf K (nI c) (Int64.ofInt σ) (nI a - 40) (nI j) z) (fun z1 => fr (fun g => g = 44) z z1 ∧ twA z1 (fun p q => n p q + σ * lfz (c - 1) (p - ((a : Int) - 40)) (q - (j : Int)))) := by
  let Q : ow_MS → Prop := fun z1 => fr (fun g => g = 44) z z1 ∧ twA z1 (fun p q => n p q + σ * lfz (c - 1) (p - ((a : Int) - 40)) (q - (j : Int)))
  have key : ∀ (d t : Nat) (y : ow_MS), t + d = c → fr (fun g => g = 44) z y → twA y (fun p q => n p q + σ * tmz (c - 1) t (p - ((a : Int) - 40)) (q - (j : Int))) → Tt (fun K i => q_X13_leaf K i 1 (nI c) (nI a - 40) (nI j) (nI (c - 1)) (nI t) (Int64.ofInt σ) (Int64.ofInt (σ * (binN (c - 1) t : Int))) 0 0 0 y) Q := by
    intro d
    induction d with
    | zero =>
      intro t y ht hf hy
      refine u_X13_leaf_1 ?_; unfold qm_X13_leaf_1
      refine w_ltT (by omega) (by omega) (w_some ⟨hf, twA_cg hy (fun p q => ?_)⟩)
      rw [show t = (c - 1) + 1 by omega, tmz_l]
    | succ d ih =>
      intro t y ht hf hy
      have ix := lf_ix (j := j) (k := c - 1) (t := t) (a := a) hj (by omega) (by omega) ha ha2
      have e9 : 129 * (j + 20 - (c - 1)) + a + 2 * t + 24 - (c - 1) = 129 * (j + 20 - (c - 1)) + (a + 2 * t + 24 - (c - 1)) := by omega
      rw [e9] at ix
      have hlt : 129 * (j + 20 - (c - 1)) + (a + 2 * t + 24 - (c - 1)) < 5289 := by omega
      have rd := hy (a + 2 * t + 24 - (c - 1)) (j + 20 - (c - 1)) (by omega) (by omega)
      have many : (Int64.ofInt (σ * (binN (c - 1) t : Int)) * (nI (c - 1) - nI t).toInt64) / (nI (t + 1)).toInt64 = Int64.ofInt (σ * (binN (c - 1) (t + 1) : Int)) := by
        have tb := lf_tab ⟨c - 1, by omega⟩ ⟨t, by omega⟩ (show t ≤ c - 1 by omega)
        rcases hσ with e | e
        · rw [e]
          exact tb.1
        · rw [e]
          exact tb.2
      have c2 : Tt (fun K i => q_X13_leaf K i 2 (nI c) (nI a - 40) (nI j) (nI (c - 1)) (nI t) (Int64.ofInt σ) (Int64.ofInt (σ * (binN (c - 1) t : Int))) (nI (129 * (j + 20 - (c - 1)) + (a + 2 * t + 24 - (c - 1)))) (Int64.ofInt (σ * (sgt9 t * (binN (c - 1) t : Int)))) (Int64.ofInt (n (((a + 2 * t + 24 - (c - 1) : Nat) : Int) - 64) (((j + 20 - (c - 1) : Nat) : Int) - 20) + σ * tmz (c - 1) t (((a + 2 * t + 24 - (c - 1) : Nat) : Int) - 64 - ((a : Int) - 40)) (((j + 20 - (c - 1) : Nat) : Int) - 20 - (j : Int)))) y) Q := by
        refine u_X13_leaf_2 ?_; unfold qm_X13_leaf_2
        rw [nI_1, many]
        have hnz : (nI (t + 1)).toInt64 ≠ 0 := by
          rw [nI_l (by omega)]
          exact fun e => by
            have := (pk_lEQ (a := t + 1) (b := 0) (by omega) (by omega)).mp e
            omega
        refine w_wrJ ml44 rfl hlt (w_nzJ hnz (ih (t + 1) _ (by omega) (fr_J2 hf rfl) (fun a2 b2 h1 h2 => ?_)))
        show _ = Int64.ofInt (n ((a2 : Int) - 64) ((b2 : Int) - 20) + σ * (tmz (c - 1) t ((a2 : Int) - 64 - ((a : Int) - 40)) ((b2 : Int) - 20 - (j : Int)) + (if (a2 : Int) - 64 - ((a : Int) - 40) = 2 * (t : Int) - ((c - 1 : Nat) : Int) ∧ (b2 : Int) - 20 - (j : Int) = -((c - 1 : Nat) : Int) then sgt9 t * (binN (c - 1) t : Int) else 0)))
        by_cases cs : a2 = a + 2 * t + 24 - (c - 1) ∧ b2 = j + 20 - (c - 1)
        · rw [if_pos ⟨by omega, by omega⟩, cs.1, cs.2, usJ_at, ← Int64.ofInt_add, Int.mul_add, Int.add_assoc]
        · rw [if_neg (fun h => cs ⟨by omega, by omega⟩), usJ_ne (by omega), Int.add_zero]
          exact hy a2 b2 h1 h2
      have par := lf_par ⟨t, by omega⟩
      dsimp only at par
      refine u_X13_leaf_1 ?_; unfold qm_X13_leaf_1
      rw [ix]
      refine w_ltF (by omega) (by omega) (w_rdJ ml44 rfl hlt rd (w_if (fun h9 => ?_) (fun h9 => ?_)))
      · have es : sgt9 t = 1 := if_pos (par.mp h9)
        rw [es, Int.one_mul] at c2
        exact c2
      · have es : sgt9 t = -1 := if_neg (fun h8 => h9 (par.mpr h8))
        rw [es, show σ * (-1 * (binN (c - 1) t : Int)) = 0 - σ * (binN (c - 1) t : Int) by rw [Int.neg_one_mul, Int.mul_neg, Int.zero_sub], Int64.ofInt_sub] at c2
        exact c2
  refine e_X13_leaf ?_
  refine u_X13_leaf_0 ?_; unfold qm_X13_leaf_0
  rw [show nI c - 1 = nI (c - 1) from pk_sub (b := 1) hc]
  have k0 := key c 0 z (by omega) fr_rf (twA_cg hn (fun p q => by show _ = n p q + σ * 0; rw [Int.mul_zero, Int.add_zero]))
  rw [show σ * ((binN (c - 1) 0 : Nat) : Int) = σ by rw [binN_z]; exact Int.mul_one σ] at k0
  exact w_rdF h46 (w_ifF (by decide) k0)
end XTWK1
theorem bd_len {n : Nat} {W : wd9} {ov sg : Nat → Bool} {A : rn_L} (hn : 1 ≤ n) (h : bdz n W ov A sg) : 1 ≤ A.length := by
  obtain ⟨-, ⟨L, hL, eA⟩, -⟩ := h
  have m : (0, 2) ∈ L.flatten := (hL.2.2 _).mpr (Or.inl ⟨rfl, hn⟩)
  obtain ⟨c, hc, -⟩ := List.mem_flatten.mp m
  rw [eA, List.length_map]
  exact List.length_pos_of_mem hc
/-- the skein relation, shifted -/
theorem tw_st {P P1 P2 : pz9} {b : Bool} {σ : Int} (h : P = skz b P2 P1) (p q a j : Int) (n : Int) : n + (if b then σ else 0 - σ) * P1 (p - (a + sgz b)) (q - (j + 1)) + σ * P2 (p - (a + 2 * sgz b)) (q - j) = n + σ * P (p - a) (q - j) := by
  rw [h]
  show _ = n + σ * (P2 (p - a - 2 * sgz b) (q - j) + sgz b * P1 (p - a - sgz b) (q - j - 1))
  rw [show p - (a + sgz b) = p - a - sgz b by omega, show q - (j + 1) = q - j - 1 by omega, show p - (a + 2 * sgz b) = p - a - 2 * sgz b by omega]
  generalize P1 (p - a - sgz b) (q - j - 1) = u
  generalize P2 (p - a - 2 * sgz b) (q - j) = v
  cases b
  · rw [if_neg (by decide), sgz_f, Int.mul_add, Int.neg_one_mul, Int.mul_neg, Int.zero_sub, Int.neg_mul]
    omega
  · rw [if_pos rfl, sgz_t, Int.mul_add, Int.one_mul]
    omega
theorem xr_skein2 {nn : Nat} (hnn : 1 ≤ nn) : ∀ (f depth dd k j a : Nat) (A : rn_L) (sg : Nat → Bool) (σ : Int) (n : pz9) (Wd : wd9) (ov : Nat → Bool) (z : ow_MS), f < dd → depth + f ≤ 12 → j ≤ depth → wkF A.flatten → A.flatten.length ≤ 24 → A.length ≤ 6 + j → rn_At z (1000 * (depth + 4)) A [] → rn_sg z (1000 * (depth + 4)) A.flatten sg → gPre A k → ouT A k f → 40 ≤ a + 2 * depth → a ≤ 40 + 2 * depth → (σ = 1 ∨ σ = -1) → z.1 46 = 1 → twA z n → bdz nn Wd ov A sg → Te (fun K => qd_X13_skein K dd (nI depth) (Int64.ofInt σ) (nI a - 40) (nI j) z) (fun z1 => fr (skH depth) z z1 ∧ twA z1 (fun p q => n p q + σ * Fz nn Wd ov (p - ((a : Int) - 40)) (q - (j : Int)))) := by
  intro f
  induction f using Nat.strongRecOn with
  | ind f ih =>
  intro depth dd k j a A sg σ n Wd ov z hdd hdf hj hF hl hC hA hS hg ho ha1 ha2 hσ h46 hcw hbz
  obtain ⟨dd, rfl⟩ : ∃ d', dd = d' + 1 := ⟨dd - 1, by omega⟩
  have hd := wkF_ok hF
  have hn : mw_net (1000 * (depth + 4)) := pnL (by omega)
  have hn2 : mw_net (1000 * (depth + 1 + 4)) := pnL (by omega)
  have cx : ∀ {i}, i < A.flatten.length → crs A i < 40 ∧ uns A i < 2 := fun hi => by
    obtain ⟨g1, g2, -⟩ := hF.2 _ (List.mem_of_getElem? (vAt_of hi))
    exact ⟨g1, g2⟩
  let Q : ow_MS → Prop := fun z1 => fr (skH depth) z z1 ∧ twA z1 (fun p q => n p q + σ * Fz nn Wd ov (p - ((a : Int) - 40)) (q - (j : Int)))
  have mono41 : ∀ {y : ow_MS}, fr (fun g => g = 41) z y → fr (skH depth) z y := fun hf => fr_mono (fun g hg => Or.inr (Or.inl hg)) hf
  have aA : ∀ {y : ow_MS}, fr (fun g => g = 41) z y → rn_At y (1000 * (depth + 4)) A [] := fun hf => fr_At hf (fun g hg => by omega) hA
  have aV : ∀ {y : ow_MS}, fr (fun g => g = 41) z y → y.1 (1000 * (depth + 4) + 1) = nI A.flatten.length := fun hf => by rw [(aA hf).1, List.append_nil]
  have c5 : gPre A A.flatten.length → ∀ (x8 : Int32) (y : ow_MS), fr (fun g => g = 41) z y → Tt (fun K i => q_X13_skein K (qd_X13_skein K dd) i 5 (nI depth) (nI a - 40) (nI j) (-1) x8 0 0 0 (Int64.ofInt σ) (1000 * (depth + 4)) 0 0 0 0 0 0 0 0 y) Q := by
    intro hno x8 y hf
    have hl1 := bd_len hnn hbz
    refine u_X13_skein_5 ?_; unfold qm_X13_skein_5
    refine w_ifT rfl (w_rdF (aA hf).2.1 (w_cs0 (xr_leaf2 (n := n) hl1 (by omega) (by omega) (by omega) (by omega) hσ (by rw [(hf 46 (by decide)).1]; exact h46) (twA_fr hf (by decide) hcw)) (fun z1 ⟨h9, h8⟩ => w_some ⟨?_, twA_cg h8 (fun p q => ?_)⟩)))
    · exact fr_tr (mono41 hf) (fr_mono (fun g hg => Or.inr (Or.inr (Or.inr hg))) h9)
    · rw [bd_lf hbz hno]
  have bad : ∀ (v : Nat) (x8 : Int32) (y : ow_MS), fr (fun g => g = 41) z y → v < A.flatten.length → (∀ u, u < v → crs A u ≠ crs A v) → uns A v ≠ 0 → (∀ u, u < v → (∀ t, t < u → crs A t ≠ crs A u) → uns A u = 0) → Tt (fun K i => q_X13_skein K (qd_X13_skein K dd) i 5 (nI depth) (nI a - 40) (nI j) (nI v) x8 0 0 0 (Int64.ofInt σ) (1000 * (depth + 4)) 0 0 0 0 0 0 0 0 y) Q := by
    intro v x8 y hf hv hfst hb hgood
    have hAy := aA hf
    obtain ⟨g1, g2, g3⟩ := rn_c_in A v hv
    have hml := mtf_lt hd hv
    have hmc := crs_mtf hd hv
    have hmn := mtf_ne hd hv
    have hvm : v < mtf A v := by
      rcases Nat.lt_or_ge (mtf A v) v with h8 | h8
      · exact absurd hmc (hfst _ h8)
      · omega
    obtain ⟨fc, hfc, kF, kg, ko⟩ := sk_ch (x := crs A v) hF hg ho hv rfl hfst hb hgood
    obtain ⟨q1, q2, q3⟩ := smC_ok hF hvm hml
    obtain ⟨fs, hfs, mF, mg, mo, ml⟩ := sk_sm hF hg ho hv hml hvm hmc hfst hb hgood q1 q2 q3
    have two9 : vAt A v = (crs A v, 0) ∧ vAt A (mtf A v) = (crs A v, 1) ∨ vAt A v = (crs A v, 1) ∧ vAt A (mtf A v) = (crs A v, 0) := by
      have u1 : uns A v = 1 := by
        have := (cx hv).2
        omega
      have u2 := (cx hml).2
      have e1 : vAt A v = (crs A v, 1) := Prod.ext rfl u1
      have e2 : uns A (mtf A v) = 0 := by
        rcases (show uns A (mtf A v) = 0 ∨ uns A (mtf A v) = 1 by omega) with h9 | h9
        · exact h9
        · exfalso
          have e3 : vAt A (mtf A v) = (crs A v, 1) := Prod.ext hmc h9
          exact hmn (nd_pos hF.1 (p := (crs A v, 1)) (by rw [← e3]; exact vAt_of hml) (by rw [← e1]; exact vAt_of hv))
      exact Or.inr ⟨e1, Prod.ext hmc e2⟩
    have hxm : crs A v ∈ nmz Wd := bd_nm hbz (vAt_mem hv)
    have hosg : ov (crs A v) = !sg (crs A v) := by
      rw [hbz.2.2 _ hxm, Bool.not_not]
    have hsk := bd_sk hbz hxm
    have bsm := bd_sm hbz hvm hml two9
    have bch := bd_ch (crs A v) hbz
    have hσ1 : (if ov (crs A v) then σ else 0 - σ) = 1 ∨ (if ov (crs A v) then σ else 0 - σ) = -1 := by
      cases ov (crs A v)
      · rw [if_neg (by decide)]
        omega
      · rw [if_pos rfl]
        exact hσ
    have c13 : ∀ (a' : Nat) (x : Int32) (x11 : Int32) (y5 : ow_MS), x = nI a' - 40 → (a' : Int) = a + 2 * sgz (ov (crs A v)) → 40 ≤ a' + 2 * (depth + 1) → a' ≤ 40 + 2 * (depth + 1) → fr (skH depth) z y5 → rn_At y5 (1000 * (depth + 1 + 4)) (chA A (crs A v)) [] → rn_sg y5 (1000 * (depth + 1 + 4)) (chA A (crs A v)).flatten (chS sg (crs A v)) → twA y5 (fun p q => n p q + (if ov (crs A v) then σ else 0 - σ) * Fz nn (dlz (crs A v) Wd) ov (p - ((a : Int) - 40 + sgz (ov (crs A v)))) (q - ((j : Int) + 1))) → Tt (fun K i => q_X13_skein K (qd_X13_skein K dd) i 13 (nI depth) (nI a - 40) (nI j) (nI v) (nI (rn_c A v)) (nI (crs A v)) (nI (mtf A v)) x11 (Int64.ofInt σ) (1000 * (depth + 4)) (1000 * (depth + 1 + 4)) x 0 (nI (depth + 1)) 0 0 (Int64.ofInt σ) 0 y5) Q := by
      intro a' x x11 y5 hx ha9 h1 h2 hf5 hA5 hS5 hc5
      rw [hx]
      refine u_X13_skein_13 ?_; unfold qm_X13_skein_13
      refine w_cs0 (ih fc (by omega) (depth + 1) dd (v + 1) j a' (chA A (crs A v)) (chS sg (crs A v)) σ _ Wd (flz ov (crs A v)) y5 (by omega) (by omega) (by omega) kF (by rw [ch_len]; exact hl) (by unfold chA; rw [List.length_map]; exact hC) hA5 hS5 kg ko h1 h2 hσ (by rw [(hf5 46 (by unfold skH; omega)).1]; exact h46) hc5 bch) (fun z6 ⟨h6, h7⟩ => w_some ⟨fr_tr hf5 (fr_mono (fun g hg => by unfold skH at hg ⊢; omega) h6), twA_cg h7 (fun p q => ?_)⟩)
      rw [ha9, show (a : Int) + 2 * sgz (ov (crs A v)) - 40 = (a : Int) - 40 + 2 * sgz (ov (crs A v)) by omega]
      exact tw_st hsk p q _ _ _
    have c8 : ∀ (t0 : Int32), t0 = (if sg (crs A v) then 0 else 1) → Tt (fun K i => q_X13_skein K (qd_X13_skein K dd) i 8 (nI depth) (nI a - 40) (nI j) (nI v) (nI (rn_c A v)) (nI (crs A v)) (nI (mtf A v)) 0 (Int64.ofInt σ) (1000 * (depth + 4)) 0 t0 0 0 0 0 0 0 y) Q := by
      intro t0 ht0
      have hSy : rn_sg y (1000 * (depth + 4)) A.flatten sg := fun p hp => by
        rw [(hf _ (by omega)).2.1]
        exact hS p hp
      refine u_X13_skein_8 ?_; unfold qm_X13_skein_8
      rw [show nI depth + 1 = nI (depth + 1) from nI_1 _]
      refine w_rdN rfl (by omega) (w_cs0 (xr_smoothIn hn hn2 (by omega) hl (by omega) hAy g1 g2 g3 hvm hml) (fun z2 ⟨b2, s2, f2⟩ => ?_))
      have b2 : rn_At z2 (1000 * (depth + 1 + 4)) (smV A v (mtf A v)) [] := b2
      have hz2 : fr (skH depth) z z2 := fr_tr (mono41 hf) (fr_mono (fun g hg => Or.inl (by omega)) f2)
      have hA2 : rn_At z2 (1000 * (depth + 4)) A [] := fr_At f2 (fun g hg => by omega) hAy
      have hS2 : rn_sg z2 (1000 * (depth + 4)) A.flatten sg := fun p hp => by
        rw [(f2 _ (by omega)).2.1]
        exact hSy p hp
      have hs1 : (if t0 = 0 then (0 - Int64.ofInt σ) else Int64.ofInt σ) = Int64.ofInt (if ov (crs A v) then σ else 0 - σ) := by
        rw [ht0, hosg]
        cases sg (crs A v)
        · exact if_neg (by decide)
        · refine (if_pos (by decide)).trans ?_
          show 0 - Int64.ofInt σ = Int64.ofInt (0 - σ)
          rw [Int64.ofInt_sub]
          rfl
      have h462 : z2.1 46 = 1 := by
        rw [(hz2 46 (by unfold skH; omega)).1]
        exact h46
      have c11 : ∀ (a' : Nat) (x : Int32), x = nI a' - 40 → (a' : Int) = a + sgz (ov (crs A v)) → 40 ≤ a' + 2 * (depth + 1) → a' ≤ 40 + 2 * (depth + 1) → Tt (fun K i => q_X13_skein K (qd_X13_skein K dd) i 11 (nI depth) (nI a - 40) (nI j) (nI v) (nI (rn_c A v)) (nI (crs A v)) (nI (mtf A v)) t0 (Int64.ofInt σ) (1000 * (depth + 4)) (1000 * (depth + 1 + 4)) x 0 (nI (depth + 1)) 0 0 (Int64.ofInt (if ov (crs A v) then σ else 0 - σ)) 0 z2) Q := by
        intro a' x hx ha9 h1 h2
        rw [hx]
        refine u_X13_skein_11 ?_; unfold qm_X13_skein_11
        rw [show nI depth + 1 = nI (depth + 1) from nI_1 _, show nI j + 1 = nI (j + 1) from nI_1 _]
        refine w_cs0 (ih fs (by omega) (depth + 1) dd v (j + 1) a' (smV A v (mtf A v)) sg (if ov (crs A v) then σ else 0 - σ) n (dlz (crs A v) Wd) ov z2 (by omega) (by omega) (by omega) mF (Nat.le_trans ml hl) (by have := smV_n hvm hml; omega) b2 (sg_sm hF hvm hml hSy s2) mg mo h1 h2 hσ1 h462 (twA_fr f2 (by omega) (twA_fr hf (by decide) hcw)) bsm) (fun z3 ⟨h3, h3c⟩ => ?_)
        have h3d : twA z3 (fun p q => n p q + (if ov (crs A v) then σ else 0 - σ) * Fz nn (dlz (crs A v) Wd) ov (p - ((a : Int) - 40 + sgz (ov (crs A v)))) (q - ((j : Int) + 1))) := twA_cg h3c (fun p q => by
          rw [ha9, show (a : Int) + sgz (ov (crs A v)) - 40 = (a : Int) - 40 + sgz (ov (crs A v)) by omega]
          rfl)
        have hA3 : rn_At z3 (1000 * (depth + 4)) A [] := fr_At h3 (fun g hg => by unfold skH at hg; omega) hA2
        have hS3 : rn_sg z3 (1000 * (depth + 4)) A.flatten sg := fun p hp => by
          rw [(h3 _ (by unfold skH; omega)).2.1]
          exact hS2 p hp
        refine w_cs0 (tn_copy hn2 hn (by omega) (by omega) (by omega) hA3) (fun z4 ⟨hA4, f4, s4⟩ => w_cs0 (tp_changeIn hn2 (by omega) (cx hv).1 (fun u hu => ⟨(cx hu).2, (cx hu).1⟩) hA4) (fun z5 ⟨hA5, f5, e5, e6⟩ => ?_))
        have hz5 : fr (skH depth) z z5 := fr_tr hz2 (fr_tr (fr_mono (fun g hg => by unfold skH at hg ⊢; omega) h3) (fr_tr (fr_mono (fun g hg => Or.inl (by omega)) f4) (fr_mono (fun g hg => Or.inl (by omega)) f5)))
        have hS5 := sg_ch hF hS3 s4 e5 e6
        have hc5 := twA_fr f5 (by omega) (twA_fr f4 (by omega) h3d)
        have h465 : z5.1 46 = 1 := by
          rw [(hz5 46 (by unfold skH; omega)).1]
          exact h46
        refine w_rdF h465 (w_ifF (by decide) ?_)
        cases e9 : sg (crs A v)
        · rw [e9] at hosg ht0
          refine w_ifF (by rw [ht0]; decide) ?_
          refine u_X13_skein_12 ?_; unfold qm_X13_skein_12
          exact c13 (a + 2) _ _ z5 (sk_pw2 (by omega)).2 (by rw [hosg]; show ((a + 2 : Nat) : Int) = a + 2 * 1; omega) (by omega) (by omega) hz5 hA5 hS5 hc5
        · rw [e9] at hosg ht0
          refine w_ifT (by rw [ht0]; decide) ?_
          refine u_X13_skein_12 ?_; unfold qm_X13_skein_12
          exact c13 (a - 2) _ _ z5 (sk_pw2 (by omega)).1 (by rw [hosg]; show ((a - 2 : Nat) : Int) = a + 2 * (-1); omega) (by omega) (by omega) hz5 hA5 hS5 hc5
      have c9 : Tt (fun K i => q_X13_skein K (qd_X13_skein K dd) i 9 (nI depth) (nI a - 40) (nI j) (nI v) (nI (rn_c A v)) (nI (crs A v)) (nI (mtf A v)) t0 (Int64.ofInt σ) (1000 * (depth + 4)) (1000 * (depth + 1 + 4)) 0 (nI (depth + 1)) 0 0 (Int64.ofInt (if ov (crs A v) then σ else 0 - σ)) 0 0 z2) Q := by
        refine u_X13_skein_9 ?_; unfold qm_X13_skein_9
        refine w_rdF h462 (w_ifF (by decide) ?_)
        cases e9 : sg (crs A v)
        · have ho9 : ov (crs A v) = true := by rw [hosg, e9]; rfl
          refine w_ifF (by rw [ht0, e9]; decide) ?_
          refine u_X13_skein_10 ?_; unfold qm_X13_skein_10
          exact c11 (a + 1) _ (sk_pw (by omega)).2 (by rw [ho9]; show ((a + 1 : Nat) : Int) = a + 1; omega) (by omega) (by omega)
        · have ho9 : ov (crs A v) = false := by rw [hosg, e9]; rfl
          refine w_ifT (by rw [ht0, e9]; decide) ?_
          refine u_X13_skein_10 ?_; unfold qm_X13_skein_10
          exact c11 (a - 1) _ (sk_pw (by omega)).1 (by rw [ho9]; show ((a - 1 : Nat) : Int) = a + (-1); omega) (by omega) (by omega)
      refine w_if (fun h0 => ?_) (fun h0 => ?_)
      · rw [if_pos h0] at hs1
        rw [hs1]
        exact c9
      · rw [if_neg h0] at hs1
        rw [← hs1] at c9
        exact c9
    have c7 : ∀ (d w : Nat), w + d = mtf A v → v < w → Tt (fun K i => q_X13_skein K (qd_X13_skein K dd) i 7 (nI depth) (nI a - 40) (nI j) (nI v) (nI (rn_c A v)) (nI (crs A v)) (nI w) 0 (Int64.ofInt σ) (1000 * (depth + 4)) 0 0 0 0 0 0 0 0 y) Q := by
      intro d
      induction d with
      | zero =>
        intro w hw hvw
        have hw : w = mtf A v := by omega
        subst hw
        refine u_X13_skein_7 ?_; unfold qm_X13_skein_7
        refine w_rdI (pl4 hn) rfl (by omega) (at_cu hAy hml).1 (w_ifT (by rw [hmc]) (w_rdI (pl6 hn) rfl (cx hv).1 (x := if sg (crs A v) then -1 else 1) (by rw [(hf _ (by omega)).2.1]; exact hS _ (vAt_mem hv)) ?_))
        cases e9 : sg (crs A v)
        · exact w_ifF (by decide) (c8 1 (by rw [e9]; rfl))
        · exact w_ifT (by decide) (c8 0 (by rw [e9]; rfl))
      | succ d ih7 =>
        intro w hw hvw
        have hwl : w < A.flatten.length := by omega
        refine u_X13_skein_7 ?_; unfold qm_X13_skein_7
        rw [show nI w + 1 = nI (w + 1) from nI_1 _]
        refine w_rdI (pl4 hn) rfl (by omega) (at_cu hAy hwl).1 (w_ifF (fun e9 => ?_) (ih7 (w + 1) (by omega) (by omega)))
        have e8 := (nI_eq (by have := (cx hwl).1; omega) (by have := (cx hv).1; omega)).mp e9
        exact sk_two hd hv hml hwl (by omega) hmc (by omega) (by omega) e8
    have c6 : ∀ (d c : Nat), c + d = rn_c A v → Tt (fun K i => q_X13_skein K (qd_X13_skein K dd) i 6 (nI depth) (nI a - 40) (nI j) (nI v) (nI c) 0 0 0 (Int64.ofInt σ) (1000 * (depth + 4)) 0 0 0 0 0 0 0 0 y) Q := by
      intro d
      induction d with
      | zero =>
        intro c hc
        have hc : c = rn_c A v := by omega
        subst hc
        refine u_X13_skein_6 ?_; unfold qm_X13_skein_6
        rw [show nI (rn_c A v) + 1 = nI (rn_c A v + 1) from nI_1 _, show nI v + 1 = nI (v + 1) from nI_1 _]
        exact w_rdI (pl3 hn) rfl (by omega) (hAy.2.2.1 _ (by omega)) (w_ltT (by have := rn_b_le A (rn_c A v + 1); unfold rn_b at this; omega) g3 (w_rdI (pl4 hn) rfl (by omega) (at_cu hAy hv).1 (c7 (mtf A v - (v + 1)) (v + 1) (by omega) (by omega))))
      | succ d ih6 =>
        intro c hc
        refine u_X13_skein_6 ?_; unfold qm_X13_skein_6
        rw [show nI c + 1 = nI (c + 1) from nI_1 _]
        have hle : rn_b A (c + 1) ≤ rn_b A (rn_c A v) := rn_b_mono2 (by omega)
        exact w_rdI (pl3 hn) rfl (by omega) (hAy.2.2.1 _ (by omega)) (w_ltF (by omega) (show rn_b A (c + 1) ≤ v by omega) (ih6 (c + 1) (by omega)))
    refine u_X13_skein_5 ?_; unfold qm_X13_skein_5
    exact w_ifF (rn_neg1 (by omega)) (c6 (rn_c A v) 0 (by omega))
  have scan : ∀ (d v : Nat) (y : ow_MS), v + d = A.flatten.length → fr (fun g => g = 41) z y → metR A v y → (∀ u, u < v → (∀ t, t < u → crs A t ≠ crs A u) → uns A u = 0) → Tt (fun K i => q_X13_skein K (qd_X13_skein K dd) i 2 (nI depth) (nI a - 40) (nI j) (-1) (nI v) 0 0 0 (Int64.ofInt σ) (1000 * (depth + 4)) 0 0 0 0 0 0 0 0 y) Q := by
    intro d
    induction d with
    | zero =>
      intro v y hv hf hm hgd
      refine u_X13_skein_2 ?_; unfold qm_X13_skein_2
      exact w_rdF (aV hf) (w_leT (by omega) (by omega) (c5 (fun u _ hu hfu => hgd u (by omega) hfu) _ y hf))
    | succ d ihs =>
      intro v y hv hf hm hgd
      have hvl : v < A.flatten.length := by omega
      have hcv := cx hvl
      have next : ∀ (y2 : ow_MS), fr (fun g => g = 41) z y2 → metR A (v + 1) y2 → (∀ u, u < v + 1 → (∀ t, t < u → crs A t ≠ crs A u) → uns A u = 0) → Tt (fun K i => q_X13_skein K (qd_X13_skein K dd) i 4 (nI depth) (nI a - 40) (nI j) (-1) (nI v) (nI (crs A v)) 0 0 (Int64.ofInt σ) (1000 * (depth + 4)) 0 0 0 0 0 0 0 0 y2) Q := by
        intro y2 hf2 hm2 hg2
        refine u_X13_skein_4 ?_; unfold qm_X13_skein_4
        rw [show nI v + 1 = nI (v + 1) from nI_1 _]
        exact ihs (v + 1) y2 (by omega) hf2 hm2 hg2
      refine u_X13_skein_2 ?_; unfold qm_X13_skein_2
      refine w_rdF (aV hf) (w_leF (by omega) hvl (w_ifT rfl (w_rdI (pl4 hn) rfl (by omega) (at_cu (aA hf) hvl).1 (w_rdI ml41 rfl hcv.1 rfl ?_))))
      rcases hm _ hcv.1 with ⟨e0, hno⟩ | ⟨e1, u, hu, hue⟩
      · rw [e0]
        have hf2 : fr (fun g => g = 41) z (usI y 41 (crs A v) (vp_nar .boolean 1)) := fr_I2 hf rfl
        refine w_ifT rfl (w_wrZ ml41 rfl hcv.1 (w_rdI (pl5 hn) rfl (by omega) (at_cu (aA hf2) hvl).2 (w_if (fun h9 => ?_) (fun h9 => ?_))))
        · have hb : uns A v ≠ 0 := fun e => by rw [e] at h9; exact absurd h9 (by decide)
          refine u_X13_skein_3 ?_; unfold qm_X13_skein_3
          refine u_X13_skein_4 ?_; unfold qm_X13_skein_4
          rw [show nI v + 1 = nI (v + 1) from nI_1 _]
          refine u_X13_skein_2 ?_; unfold qm_X13_skein_2
          exact w_rdF (aV hf2) (w_le (by omega) (by omega) (fun _ => bad v _ _ hf2 hvl hno hb hgd) (fun _ => w_ifF (rn_neg1 (by omega)) (bad v _ _ hf2 hvl hno hb hgd)))
        · have hb : uns A v = 0 := by
            rcases Nat.eq_zero_or_pos (uns A v) with h8 | h8
            · exact h8
            · exact absurd (show nI (uns A v) = 1 by rw [show uns A v = 1 by omega]; rfl) h9
          refine u_X13_skein_3 ?_; unfold qm_X13_skein_3
          refine next _ hf2 (fun x hx => ?_) (fun u hu hfu => ?_)
          · by_cases hxv : x = crs A v
            · rw [hxv]
              exact Or.inr ⟨po_usI_at.trans (by decide), v, by omega, rfl⟩
            · rcases hm x hx with ⟨a1, a2⟩ | ⟨a1, u, hu, a2⟩
              · refine Or.inl ⟨rd_ne hxv a1, fun u hu e => ?_⟩
                by_cases huv : u = v
                · rw [huv] at e
                  exact hxv e.symm
                · exact a2 u (by omega) e
              · exact Or.inr ⟨rd_ne hxv a1, u, by omega, a2⟩
          · by_cases huv : u = v
            · rw [huv]; exact hb
            · exact hgd u (by omega) hfu
      · rw [e1]
        refine w_ifF (by decide) (next y hf (fun x hx => ?_) (fun t ht hft => ?_))
        · rcases hm x hx with ⟨a1, a2⟩ | ⟨a1, t, ht, a2⟩
          · refine Or.inl ⟨a1, fun t ht e => ?_⟩
            by_cases htv : t = v
            · rw [htv] at e
              exact a2 u hu (hue.trans e)
            · exact a2 t (by omega) e
          · exact Or.inr ⟨a1, t, by omega, a2⟩
        · by_cases htv : t = v
          · rw [htv] at hft
            exact absurd hue (hft u hu)
          · exact hgd t (by omega) hft
  have clr : ∀ (d i : Nat) (y : ow_MS), i + d = 40 → fr (fun g => g = 41) z y → (∀ x, x < i → y.2.1 41 x = 0) → Tt (fun K t => q_X13_skein K (qd_X13_skein K dd) t 1 (nI depth) (nI a - 40) (nI j) (nI i) 0 0 0 0 (Int64.ofInt σ) (1000 * (depth + 4)) 0 0 0 0 0 0 0 0 y) Q := by
    intro d
    induction d with
    | zero =>
      intro i y hi hf hx
      refine u_X13_skein_1 ?_; unfold qm_X13_skein_1
      exact w_leT (a := 40) (by omega) (by omega) (scan A.flatten.length 0 y (by omega) hf (fun x h9 => Or.inl ⟨hx x (by omega), fun u hu => absurd hu (by omega)⟩) (fun u hu => absurd hu (by omega)))
    | succ d ihc =>
      intro i y hi hf hx
      refine u_X13_skein_1 ?_; unfold qm_X13_skein_1
      rw [show nI i + 1 = nI (i + 1) from nI_1 _]
      refine w_leF (a := 40) (by omega) (by omega) (w_wrZ ml41 rfl (by omega) (ihc (i + 1) _ (by omega) (fr_I2 hf rfl) (fun x h9 => ?_)))
      by_cases hxi : x = i
      · rw [hxi]
        exact po_usI_at.trans (by decide)
      · exact rd_ne hxi (hx x (by omega))
  refine w_qd ?_
  refine u_X13_skein_0 ?_; unfold qm_X13_skein_0
  exact w_rdN rfl (by omega) (clr 40 0 z (by omega) fr_rf (fun x hx => absurd hx (by omega)))
end
section
/-! 99zzzzzzzzzzzzzzzzv.xtwl -/
/-! two: the class's sum of circles, exactly -/
/-- the class's table -/
def twC (y : ow_MS) (n : pz9) : Prop := ∀ a b : Nat, a < 129 → b < 41 → y.2.1 24004 (a * 41 + b) = iI (n ((a : Int) - 64) ((b : Int) - 20))
theorem twC_fr {P : Nat → Prop} {z z1 : ow_MS} {n : pz9} (hf : fr P z z1) (hP : ¬ P 24004) (h : twC z n) : twC z1 n := fun a b ha hb => by
  rw [(hf 24004 hP).2.1]
  exact h a b ha hb
theorem twC_cg {z : ow_MS} {n n' : pz9} (h : twC z n) (e : ∀ p q, n p q = n' p q) : twC z n' := fun a b ha hb => by
  rw [← e]
  exact h a b ha hb
theorem i64_lt {a b : Int} (h1 : -5000000000 ≤ a) (h2 : a ≤ 5000000000) (h3 : -5000000000 ≤ b) (h4 : b ≤ 5000000000) : Int64.ofInt a < Int64.ofInt b ↔ a < b := by
  rw [Int64.lt_iff_toInt_lt, Int64.toInt_ofInt_of_le (by omega) (by omega), Int64.toInt_ofInt_of_le (by omega) (by omega)]
theorem lf_par9 : ∀ t : Fin 24, (nI t.val &&& 1) = 0 ↔ t.val % 2 = 0 := by decide +kernel
theorem ti_ix : ∀ (a : Fin 129) (b : Fin 41), (Int64.ofInt (a.val : Int) * 41 + Int64.ofInt (b.val : Int)).toInt32 = nI (a.val * 41 + b.val) := by decide +kernel
section XTWL
variable {vl : Nat → Nat} {y : ow_MS}
theorem xc_tIx {I J : Int} (h1 : -3000000000 ≤ I) (h2 : I ≤ 3000000000) (h3 : -3000000000 ≤ J) (h4 : J ≤ 3000000000) : Te (fun K => ce_X8_twoIndex vl K (Int64.ofInt I) (Int64.ofInt J) y) (fun r => r.2 = y ∧ ((∃ a b : Nat, a < 129 ∧ b < 41 ∧ I = (a : Int) - 64 ∧ J = (b : Int) - 20 ∧ r.1 = nI (a * 41 + b)) ∨ r.1 = -1 ∧ ¬ (-64 ≤ I ∧ I ≤ 64 ∧ -20 ≤ J ∧ J ≤ 20))) := by
  let Q : Int32 × ow_MS → Prop := fun r => r.2 = y ∧ ((∃ a b : Nat, a < 129 ∧ b < 41 ∧ I = (a : Int) - 64 ∧ J = (b : Int) - 20 ∧ r.1 = nI (a * 41 + b)) ∨ r.1 = -1 ∧ ¬ (-64 ≤ I ∧ I ≤ 64 ∧ -20 ≤ J ∧ J ≤ 20))
  have c1 : ¬ (-64 ≤ I ∧ I ≤ 64 ∧ -20 ≤ J ∧ J ≤ 20) → ∀ a b c d : Int64, Tt (fun K t => c_X8_twoIndex vl K t 1 a b c d y) Q := by
    intro hno a b c d
    refine u_X8_twoIndex_1 ?_; unfold cm_X8_twoIndex_1
    exact w_some ⟨rfl, Or.inr ⟨rfl, hno⟩⟩
  have e1 : Int64.ofInt I - (-64) = Int64.ofInt (I + 64) := by
    rw [show (-64 : Int64) = Int64.ofInt (-64) from rfl, ← Int64.ofInt_sub]
    congr 1
  have e2 : Int64.ofInt J - (-20) = Int64.ofInt (J + 20) := by
    rw [show (-20 : Int64) = Int64.ofInt (-20) from rfl, ← Int64.ofInt_sub]
    congr 1
  have l0 : ∀ x : Int, -4000000000 ≤ x → x ≤ 4000000000 → ∀ k : Int, -1000 ≤ k → k ≤ 1000 → (lg_cmp (Int64.ofInt x) (Int64.ofInt k) < 0 ↔ x < k) := fun x a1 a2 k b1 b2 => (lg_cmp_lt _ _).trans (i64_lt (by omega) (by omega) (by omega) (by omega))
  have g0 : ∀ x : Int, -4000000000 ≤ x → x ≤ 4000000000 → ∀ k : Int, -1000 ≤ k → k ≤ 1000 → (0 ≤ lg_cmp (Int64.ofInt x) (Int64.ofInt k) ↔ k ≤ x) := fun x a1 a2 k b1 b2 => by
    have h9 := l0 x a1 a2 k b1 b2
    constructor
    · intro h
      by_cases c : x < k
      · have := h9.mpr c
        exact absurd this (Int32.not_lt.mpr h)
      · omega
    · intro h
      refine Int32.not_lt.mp (fun h8 => ?_)
      have := h9.mp h8
      omega
  refine e_X8_twoIndex ?_
  refine u_X8_twoIndex_0 ?_; unfold cm_X8_twoIndex_0
  rw [e1, e2]
  have i1 := l0 (I + 64) (by omega) (by omega) 0 (by omega) (by omega)
  have i2 := g0 (I + 64) (by omega) (by omega) 129 (by omega) (by omega)
  have i3 := l0 (J + 20) (by omega) (by omega) 0 (by omega) (by omega)
  have i4 := l0 (J + 20) (by omega) (by omega) 41 (by omega) (by omega)
  refine w_if (fun a1 => c1 (by have := i1.mp a1; omega) _ _ _ _) (fun a1 => w_if (fun a2 => c1 (by have := i2.mp a2; omega) _ _ _ _) (fun a2 => w_if (fun a3 => c1 (by have := i3.mp a3; omega) _ _ _ _) (fun a3 => w_if (fun a4 => ?_) (fun a4 => c1 (by have h9 : ¬ (J + 20 < 41) := fun h9 => a4 (i4.mpr h9); omega) _ _ _ _))))
  have b1 : ¬ (I + 64 < 0) := fun h9 => a1 (i1.mpr h9)
  have b2 : ¬ (129 ≤ I + 64) := fun h9 => a2 (i2.mpr h9)
  have b3 : ¬ (J + 20 < 0) := fun h9 => a3 (i3.mpr h9)
  have b4 := i4.mp a4
  obtain ⟨a, ea⟩ : ∃ a : Nat, I + 64 = (a : Int) := ⟨(I + 64).toNat, by omega⟩
  obtain ⟨b, eb⟩ : ∃ b : Nat, J + 20 = (b : Int) := ⟨(J + 20).toNat, by omega⟩
  refine w_some ⟨rfl, Or.inl ⟨a, b, by omega, by omega, by omega, by omega, ?_⟩⟩
  show (Int64.ofInt (I + 64) * 41 + Int64.ofInt (J + 20)).toInt32 = nI (a * 41 + b)
  rw [ea, eb]
  exact ti_ix ⟨a, by omega⟩ ⟨b, by omega⟩
theorem xc_addT {q L : Nat} {φ pw : Int} {n : pz9} (hq1 : 1 ≤ q) (hq : q ≤ 20) (hz : L ≤ 12) (hp1 : -5000 ≤ pw) (hp2 : pw ≤ 5000) (hb : bnC y) (hn : twC y n) : Te (fun K => ce_X8_addCircles vl K 24000 (nI q) (iI φ) (iI pw) (nI L) y) (fun y1 => twC y1 (fun p r => n p r + φ * lfz (q - 1) (p - pw) (r - (L : Int)))) := by
  let Q : ow_MS → Prop := fun y1 => twC y1 (fun p r => n p r + φ * lfz (q - 1) (p - pw) (r - (L : Int)))
  have e5 : nI q - 1 = nI (q - 1) := pk_sub (b := 1) hq1
  have c2 : ∀ (d j : Nat) (y1 : ow_MS), j + d = q → bnC y1 → twC y1 (fun p r => n p r + φ * tmz (q - 1) j (p - pw) (r - (L : Int))) → Tt (fun K t => c_X8_addCircles vl K t 2 (nI q) (iI φ) (iI pw) (nI L) (nI (q - 1)) (nI j) 0 24000 0 0 0 0 y1) Q := by
    intro d
    induction d with
    | zero =>
      intro j y1 hj hb1 h1
      refine u_X8_addCircles_2 ?_; unfold cm_X8_addCircles_2
      refine w_ltT (by omega) (by omega) (w_some (twC_cg h1 (fun p r => ?_)))
      rw [show j = (q - 1) + 1 by omega, tmz_l]
    | succ d ih =>
      intro j y1 hj hb1 h1
      have c4 : ∀ (x7 : Int32) (y2 : ow_MS), bnC y2 → twC y2 (fun p r => n p r + φ * tmz (q - 1) (j + 1) (p - pw) (r - (L : Int))) → Tt (fun K t => c_X8_addCircles vl K t 4 (nI q) (iI φ) (iI pw) (nI L) (nI (q - 1)) (nI j) x7 24000 0 0 0 0 y2) Q := by
        intro x7 y2 hb2 h2
        refine u_X8_addCircles_4 ?_; unfold cm_X8_addCircles_4
        rw [nI_1]
        exact ih (j + 1) y2 (by omega) hb2 h2
      have eI : ((iI pw).toInt64 - (nI (q - 1)).toInt64) + ((2 * nI j).toInt64) = Int64.ofInt (pw - ((q - 1 : Nat) : Int) + 2 * (j : Int)) := by
        rw [rn_mul2, nI_iI (q - 1), nI_iI (2 * j)]
        unfold iI
        rw [Int32.toInt64_ofInt (by show (-2147483648 : Int) ≤ _; omega) (by show _ ≤ (2147483647 : Int); omega), Int32.toInt64_ofInt (by show (-2147483648 : Int) ≤ _; omega) (by show _ ≤ (2147483647 : Int); omega), Int32.toInt64_ofInt (by show (-2147483648 : Int) ≤ _; omega) (by show _ ≤ (2147483647 : Int); omega), ← Int64.ofInt_sub, ← Int64.ofInt_add]
        congr 1
      have eJ : (nI L).toInt64 - (nI (q - 1)).toInt64 = Int64.ofInt ((L : Int) - ((q - 1 : Nat) : Int)) := by
        rw [nI_iI L, nI_iI (q - 1)]
        unfold iI
        rw [Int32.toInt64_ofInt (by show (-2147483648 : Int) ≤ _; omega) (by show _ ≤ (2147483647 : Int); omega), Int32.toInt64_ofInt (by show (-2147483648 : Int) ≤ _; omega) (by show _ ≤ (2147483647 : Int); omega), ← Int64.ofInt_sub]
      refine u_X8_addCircles_2 ?_; unfold cm_X8_addCircles_2
      rw [eI, eJ]
      refine w_ltF (by omega) (by omega) (w_leF (a := 24) (by omega) (by omega) (w_cs1 (xc_tIx (by omega) (by omega) (by omega) (by omega)) ?_))
      rintro v y2 ⟨e2, h2⟩
      dsimp only at h2 e2
      rw [e2]
      rcases h2 with ⟨a, b, ha, hb9, eIa, eJb, rfl⟩ | ⟨rfl, hno⟩
      · have hk : a * 41 + b < 5289 := by omega
        have par := lf_par9 ⟨j, by omega⟩
        dsimp only at par
        have hlt : j ≤ q - 1 := by omega
        have bn := hb1 (q - 1) j (by omega) hlt
        have rd := h1 a b ha hb9
        have c3 : ∀ (s : Int) (t0 : Int32), t0 = iI s → s = sgt9 j → Tt (fun K t => c_X8_addCircles vl K t 3 (nI q) (iI φ) (iI pw) (nI L) (nI (q - 1)) (nI j) (nI (a * 41 + b)) 24000 t0 (iI φ * nI (binN (q - 1) j)) (iI (n ((a : Int) - 64) ((b : Int) - 20) + φ * tmz (q - 1) j ((a : Int) - 64 - pw) ((b : Int) - 20 - (L : Int)))) (nI (a * 41 + b)) y1) Q := by
          intro s t0 ht hs
          refine u_X8_addCircles_3 ?_; unfold cm_X8_addCircles_3
          rw [ht, hs, nI_iI (binN (q - 1) j), iI_mul, iI_mul, iI_add]
          refine w_ctI ch_24004 rfl hk (c4 _ _ (bnC_fr (P := fun g => g = 24004) (fr_I rfl) (fun m hm => by omega) hb1) (fun a2 b2 k1 k2 => ?_))
          show _ = iI (n ((a2 : Int) - 64) ((b2 : Int) - 20) + φ * (tmz (q - 1) j ((a2 : Int) - 64 - pw) ((b2 : Int) - 20 - (L : Int)) + (if (a2 : Int) - 64 - pw = 2 * (j : Int) - ((q - 1 : Nat) : Int) ∧ (b2 : Int) - 20 - (L : Int) = -((q - 1 : Nat) : Int) then sgt9 j * (binN (q - 1) j : Int) else 0)))
          by_cases cs : a2 = a ∧ b2 = b
          · rw [cs.1, cs.2, if_pos ⟨by omega, by omega⟩]
            refine po_usI_at.trans ?_
            congr 1
            rw [Int.mul_add, Int.mul_comm (sgt9 j), Int.mul_assoc, Int.add_assoc]
          · rw [if_neg (fun h => cs ⟨by omega, by omega⟩), Int.add_zero]
            exact rd_ne (show a2 * 41 + b2 ≠ a * 41 + b by omega) (h1 a2 b2 k1 k2)
        refine w_ifF (rn_neg1 (by omega)) (w_crI ch_24004 rfl hk rd (w_crX rfl (show q - 1 < 24 by omega) (w_crI (ch_choose (show q - 1 < 24 by omega)) rfl (show j < 24 by omega) bn (w_if (fun h9 => ?_) (fun h9 => ?_)))))
        · exact c3 1 1 rfl (if_pos (par.mp h9)).symm
        · exact c3 (-1) (-1) rfl (if_neg (fun h8 => h9 (par.mpr h8))).symm
      · refine w_ifT rfl (c4 _ _ hb1 (fun a2 b2 k1 k2 => ?_))
        show _ = iI (n ((a2 : Int) - 64) ((b2 : Int) - 20) + φ * (tmz (q - 1) j ((a2 : Int) - 64 - pw) ((b2 : Int) - 20 - (L : Int)) + (if (a2 : Int) - 64 - pw = 2 * (j : Int) - ((q - 1 : Nat) : Int) ∧ (b2 : Int) - 20 - (L : Int) = -((q - 1 : Nat) : Int) then sgt9 j * (binN (q - 1) j : Int) else 0)))
        rw [if_neg (fun h => hno ⟨by omega, by omega, by omega, by omega⟩), Int.add_zero]
        exact h1 a2 b2 k1 k2
  have c1 : ∀ (y1 : ow_MS), bnC y1 → twC y1 n → Tt (fun K t => c_X8_addCircles vl K t 1 (nI q) (iI φ) (iI pw) (nI L) (nI (q - 1)) 0 0 24000 0 0 0 0 y1) Q := by
    intro y1 hb1 h1
    refine u_X8_addCircles_1 ?_; unfold cm_X8_addCircles_1
    exact c2 q 0 y1 (by omega) hb1 (twC_cg h1 (fun p r => by show _ = n p r + φ * 0; rw [Int.mul_zero, Int.add_zero]))
  refine e_X8_addCircles ?_
  refine u_X8_addCircles_0 ?_; unfold cm_X8_addCircles_0
  rw [show uw_len (cX vl) y (24000 + 3) = 13 from rfl, e5]
  refine w_if (fun h0 => ?_) (fun h0 => c1 y hb hn)
  exact w_leF (a := 13) (by omega) (by omega) (w_crI ch_24003 rfl (show L < 13 by omega) rfl (w_ctI ch_24003 rfl (show L < 13 by omega) (c1 _ (bnC_fr (P := fun g => g = 24003) (fr_I rfl) (fun m hm => by omega) hb) (twC_fr (P := fun g => g = 24003) (fr_I rfl) (by decide) hn))))
end XTWL
end
section
/-! 99zzzzzzzzzzzzzzzzw.xtwm -/
/-! two: the class's unfold: rings -/
section XTWM
variable {n : Nat} {Wd : wd9} {ov sb : Nat → Bool} {B : rn_L} {f : Nat → Nat} {R Q : ow_NT} {x a b v r : Nat}
theorem bc_ch (x c : Nat) : rn_b (chA B x) c = rn_b B c := by
  unfold rn_b chA
  rw [← List.map_take, fl_map2, List.length_map]
theorem iS_sg (h : isoV B sb f R) (hp : pm1 R) (hv : v < B.flatten.length) : R.2.2.2 (f (crs B v)) = iI (if sb (crs B v) then -1 else 1) := by
  have hN := isoS_iff.mp h.1
  have h1 := hN.2.2.2.1 v hv
  have h2 := hN.2.2.2.2.2.2.1 v hv
  rcases hp _ h1 with e | e
  · rw [e] at h2 ⊢
    cases hs : sb (crs B v) with
    | false => rfl
    | true => exact absurd (h2.mpr hs) (by decide)
  · rw [e] at h2 ⊢
    rw [h2.mp (by decide)]
    rfl
theorem iS_sm (h : isoV B sb f R) (hp : pm1 R) (hs : sm2 B x a b) : ∃ f', isoV (smV B a b) sb f' (nt_rm (ntS (nt_copy Q R) (np_exchange (nt_copy Q R).2.2.1 (2 * f x) (2 * f x + 1))) (f x)) ∧ pm1 (nt_rm (ntS (nt_copy Q R) (np_exchange (nt_copy Q R).2.2.1 (2 * f x) (2 * f x + 1))) (f x)) := by
  obtain ⟨s1, s2, s3, s4⟩ := hs
  have hN := isoS_iff.mp h.1
  have hx : f x < R.1 := by
    rw [← s3]
    exact hN.2.2.2.1 a (by omega)
  rw [← s3] at s4
  obtain ⟨f', k1, k2⟩ := iso_smb (isoV_cpy (Q := Q) h) s1 s2 s4
  rw [s3] at k1 k2
  exact ⟨f', k1, pm1_rm (T := ntS (nt_copy Q R) (np_exchange (nt_copy Q R).2.2.1 (2 * f x) (2 * f x + 1))) (pm1_copy hp) hx⟩
theorem iS_ch (h : isoV B sb f R) (hp : pm1 R) (hv : v < B.flatten.length) (e : crs B v = x) : isoV (chA B x) (chS sb x) f (ntF R (f x)) ∧ pm1 (ntF R (f x)) := by
  have hN := isoS_iff.mp h.1
  have hx : f x < R.1 := by
    rw [← e]
    exact hN.2.2.2.1 v hv
  have inj : ∀ p, p ∈ B.flatten → (f p.1 = f x ↔ p.1 = x) := fun p hp => by
    obtain ⟨u, u1, u2⟩ := mem_vAt hp
    have ep : crs B u = p.1 := by unfold crs; rw [u2]
    refine ⟨fun e9 => ?_, fun e9 => by rw [e9]⟩
    rw [← ep, ← e]
    exact hN.2.2.2.2.1 u v u1 hv (by rw [ep, e, e9])
  have k := iso_flip h hp hx
  have eA : B.map (List.map (flp (fun y => decide (f y = f x)))) = chA B x := by
    unfold chA
    refine List.map_congr_left (fun L hL => List.map_congr_left (fun p hp => ?_))
    have := inj p (List.mem_flatten.mpr ⟨L, hL, hp⟩)
    unfold flp
    show (if decide (f p.1 = f x) = true then (p.1, 1 - p.2) else p) = if decide (p.1 = x) = true then (p.1, 1 - p.2) else p
    rw [show decide (f p.1 = f x) = decide (p.1 = x) from decide_eq_decide.mpr this]
  rw [eA] at k
  refine ⟨isoV_sg k (fun p hp => ?_), pm1_F hp⟩
  unfold chA at hp
  rw [fl_map2] at hp
  obtain ⟨q, hq, e9⟩ := List.mem_map.mp hp
  have ep : p.1 = q.1 := by rw [← e9, flp_1]
  have := inj q hq
  unfold chS
  rw [ep]
  by_cases e8 : q.1 = x
  · rw [if_pos e8, if_pos (this.mpr e8)]
  · rw [if_neg e8, if_neg (fun h9 => e8 (this.mp h9))]
theorem sm2_b2 (hN : isoN B sb f R) (hb : bdF B v) : sm2 B (crs B v) v (mtf B v) := by
  obtain ⟨b1, b2, b3⟩ := bd_lt hN.1 hb
  have h2 := (hN.1.2 _ (vAt_mem hb.1)).2.1
  have hu : uns B v = 1 := by
    have h3 := hb.2.2.1
    unfold uns at h3 ⊢
    omega
  obtain ⟨m1, m2, m3, m4⟩ := lbv_mt hN hb.1
  have e1 : uns B (mtf B v) = 0 := by
    unfold lbv mt at m3
    rw [m2, hu, if_neg (by omega)] at m3
    omega
  exact ⟨b1, b2, rfl, Or.inr ⟨Prod.ext rfl hu, Prod.ext b3 e1⟩⟩
/-- along a component -/
theorem iS_nx (hN : isoN B sb f R) (h1 : rn_b B r ≤ v) (h2 : v < rn_b B (r + 1)) : R.2.2.1.1 (lbv B f v) = if v + 1 < rn_b B (r + 1) then lbv B f (v + 1) else lbv B f (rn_b B r) := by
  have hle := rn_b_le B (r + 1)
  have hc : rn_c B v = r := rn_c_of B r v h1 h2
  rw [hN.2.2.2.2.2.1 v (by omega)]
  unfold rn_nx
  rw [hc]
  split
  · rfl
  · rfl
theorem cir_ap9 (P S : rn_L) : cirs (P ++ S) = cirs P + cirs S := List.countP_append
/-- the first r components have visits -/
def ufG9 (r : Nat) (B : rn_L) : Prop := r ≤ B.length ∧ ∀ i, i < r → rn_b B i < rn_b B (i + 1)
theorem rb_cons (c : List vT) (B : rn_L) (i : Nat) : rn_b (c :: B) (i + 1) = c.length + rn_b B i := by
  unfold rn_b
  rw [List.take_succ_cons, List.flatten_cons, List.length_append]
theorem ufG9_e : ∀ {B : rn_L} {r : Nat}, ufG9 r B → rn_b B r = B.flatten.length → cirs B + r = B.length
  | B, 0, h, e => by
    have e : 0 = B.flatten.length := e
    rw [cirs_n (List.eq_nil_of_length_eq_zero e.symm)]
    rfl
  | [], r + 1, h, _ => absurd h.1 (by rw [List.length_nil]; omega)
  | c :: B, r + 1, h, e => by
    have h0 := h.2 0 (by omega)
    rw [rb_cons] at h0
    have z0 : rn_b B 0 = 0 := rfl
    have z1 : rn_b (c :: B) 0 = 0 := rfl
    have hc : c ≠ [] := fun h9 => by
      rw [z1, h9, z0] at h0
      exact Nat.lt_irrefl _ h0
    rw [rb_cons, List.flatten_cons, List.length_append] at e
    have ih := ufG9_e (B := B) (r := r) ⟨by have := h.1; rw [List.length_cons] at this; omega, fun i hi => by
      have := h.2 (i + 1) (by omega)
      rw [rb_cons, rb_cons] at this
      omega⟩ (by omega)
    rw [cirs_cons, if_neg hc, List.length_cons]
    omega
theorem rb_app {P S : rn_L} {i : Nat} (h : i ≤ P.length) : rn_b (P ++ S) i = rn_b P i := by
  unfold rn_b
  rw [List.take_append_of_le_length h]
theorem rb_mid {P S : rn_L} {c : List vT} : rn_b (P ++ c :: S) (P.length + 1) = P.flatten.length + c.length := by
  unfold rn_b
  rw [List.take_append, List.take_of_length_le (by omega), show P.length + 1 - P.length = 1 by omega, List.take_succ_cons, List.take_zero, List.flatten_append, List.flatten_cons, List.length_append, List.length_append]
  rfl
theorem vA_l {P S : rn_L} {u : Nat} (h : u < P.flatten.length) : vAt (P ++ S) u = vAt P u := by
  unfold vAt
  rw [List.flatten_append, List.getElem?_append_left h]
theorem vA_m {P S : rn_L} {q : vT} {Y : List vT} : vAt (P ++ (q :: Y) :: S) P.flatten.length = q := by
  unfold vAt
  rw [List.flatten_append, List.getElem?_append_right (Nat.le_refl _), Nat.sub_self]
  rfl
/-- another component next, from one of its visits -/
theorem mv_ring (h : isoV B sb f R) (hz : bdz n Wd ov B sb) (hr : r ≤ B.length) (h1 : rn_b B r ≤ v) (h2 : v < B.flatten.length) : ∃ B', isoV B' sb f R ∧ bdz n Wd ov B' sb ∧ B'.length = B.length ∧ (∀ i, i ≤ r → rn_b B' i = rn_b B i) ∧ (∀ u, u < rn_b B r → vAt B' u = vAt B u) ∧ vAt B' (rn_b B r) = vAt B v ∧ rn_b B r < rn_b B' (r + 1) ∧ r + 1 ≤ B.length := by
  obtain ⟨P, S, eB, eP⟩ : ∃ P S, B = P ++ S ∧ P.length = r := ⟨B.take r, B.drop r, (List.take_append_drop r B).symm, by rw [List.length_take]; omega⟩
  have ePf : rn_b B r = P.flatten.length := by
    rw [eB, rb_app (by omega), ← eP]
    exact rn_b_len P
  have hm : vAt B v ∈ S.flatten := by
    have h3 := vAt_of h2
    rw [eB, List.flatten_append, List.getElem?_append_right (by omega)] at h3
    rw [← eB] at h3
    exact List.mem_of_getElem? h3
  generalize vAt B v = q at hm ⊢
  obtain ⟨c, hc, hq⟩ := List.mem_flatten.mp hm
  obtain ⟨M, Po, rfl⟩ := spl_m hc
  obtain ⟨X, Y, rfl⟩ := spl_m hq
  subst eB
  have nd := h.1.1.1
  have prm : (P ++ ((q :: Y) ++ X) :: (M ++ Po)).flatten.Perm (P ++ (M ++ (X ++ q :: Y) :: Po)).flatten := by
    rw [List.flatten_append, List.flatten_append]
    refine List.Perm.append_left _ ?_
    have p1 : (M ++ (X ++ q :: Y) :: Po).flatten.Perm ((X ++ q :: Y) :: (M ++ Po)).flatten := (List.perm_middle (l₁ := M) (a := X ++ q :: Y) (l₂ := Po)).flatten
    refine List.Perm.trans ?_ p1.symm
    rw [List.flatten_cons, List.flatten_cons]
    exact List.Perm.append_right _ List.perm_append_comm
  have ndX : (X ++ q :: Y).Nodup := by
    have := nd
    rw [List.nodup_iff_pairwise_ne, List.pairwise_flatten] at this
    exact this.1 _ (List.mem_append_right _ (List.mem_append_right _ List.mem_cons_self))
  have ci : cirs (P ++ ((q :: Y) ++ X) :: (M ++ Po)) = cirs (P ++ (M ++ (X ++ q :: Y) :: Po)) := by
    have e1 : (X ++ q :: Y) ≠ [] := fun h9 => by
      have := congrArg List.length h9
      rw [List.length_append, List.length_cons, List.length_nil] at this
      omega
    rw [cir_ap9, cirs_cons, if_neg (by simp), cir_ap9, cir_ap9, cir_ap9, cirs_cons, if_neg e1]
    omega
  have iso : isoV (P ++ ((q :: Y) ++ X) :: (M ++ Po)) sb f R := isoV_lists h prm ci (fun K hK p hp => by
    rcases List.mem_append.mp hK with k | k
    · exact ⟨K, List.mem_append_left _ k, hp, rfl⟩
    · rcases List.mem_cons.mp k with k | k
      · rw [k] at hp ⊢
        have hp2 : p ∈ X ++ q :: Y := by
          rcases List.mem_append.mp hp with k9 | k9
          · exact List.mem_append_right _ k9
          · exact List.mem_append_left _ k9
        exact ⟨X ++ q :: Y, List.mem_append_right _ (List.mem_append_right _ List.mem_cons_self), hp2, sc_rot ndX hp2⟩
      · rcases List.mem_append.mp k with k | k
        · exact ⟨K, List.mem_append_right _ (List.mem_append_left _ k), hp, rfl⟩
        · exact ⟨K, List.mem_append_right _ (List.mem_append_right _ (List.mem_cons_of_mem _ k)), hp, rfl⟩)
  refine ⟨_, iso, bd_iso (N := R.2.2.1.1) (lab := gl f) hz h.1.2.2.2.2.2.1 iso.1.2.2.2.2.2.1 iso.1.1.1 nd (fun p => prm.mem_iff) (fun p p' hp hp' e => ?_) ci, ?_, fun i hi => ?_, fun u hu => ?_, ?_, ?_, ?_⟩
  · have e : 2 * f p.1 + p.2 = 2 * f p'.1 + p'.2 := e
    have a1 := (iso.1.1.2 _ hp).2.1
    have a2 := (iso.1.1.2 _ hp').2.1
    exact Prod.ext (iso.1.2.2.2.2.1 p p' hp hp' (by omega)) (by omega)
  · simp only [List.length_append, List.length_cons]
    omega
  · rw [rb_app (by omega), rb_app (by omega)]
  · rw [ePf] at hu
    rw [vA_l hu, vA_l hu]
  · rw [ePf]
    exact vA_m (Y := Y ++ X)
  · rw [ePf, ← eP, rb_mid, List.cons_append, List.length_cons]
    omega
  · rw [List.length_append, List.length_append, List.length_cons]
    omega
end XTWM
end
section
/-! 99zzzzzzzzzzzzzzzzx.xtwn -/
/-! two: the class's unfold, exactly -/
def ufT (n : Nat) (Wd : wd9) (L c : Nat) (f : Nat → Nat) (φ : Int) (G : pz9) (n1 : Nat) (z : ow_MS) (R : ow_NT) (B : rn_L) (sb ov : Nat → Bool) (pw : Int) : Prop := lvS z ∧ bnC z ∧ cAt z (lv L) R ∧ nvL L R ∧ R.1 = c ∧ isoV B sb f R ∧ pm1 R ∧ B.length = n1 ∧ bdz n Wd ov B sb ∧ ∃ m, twC z m ∧ ∀ p q : Int, m p q + φ * Fz n Wd ov (p - pw) (q - (L : Int)) = G p q
/-- the same, where the crossing x is still to be changed -/
def ufU (n : Nat) (Wd : wd9) (L c : Nat) (f : Nat → Nat) (φ : Int) (G : pz9) (n1 x : Nat) (z : ow_MS) (R : ow_NT) (B : rn_L) (sb ov : Nat → Bool) (pw : Int) : Prop := lvS z ∧ bnC z ∧ cAt z (lv L) R ∧ nvL L R ∧ R.1 = c ∧ isoV B sb f R ∧ pm1 R ∧ B.length = n1 ∧ bdz n Wd ov B sb ∧ ∃ m, twC z m ∧ ∀ p q : Int, m p q + φ * Fz n Wd (flz ov x) (p - (pw + 2 * sgz (ov x))) (q - (L : Int)) = G p q
def ufS2 (vl : Nat → Nat) (n L dd : Nat) : Prop := ∀ (R : ow_NT) (B : rn_L) (sb ov : Nat → Bool) (Wd : wd9) (g : Nat → Nat) (ψ : Int) (m : pz9) (xp : Int) (z : ow_MS), lvS z → bnC z → cAt z (lv (L + 1)) R → nvL (L + 1) R → R.1 + (L + 1) ≤ 12 → isoV B sb g R → pm1 R → B.length ≤ 6 + (L + 1) → bdz n Wd ov B sb → twC z m → -(100 * ((L : Int) + 1)) ≤ xp → xp ≤ 100 * ((L : Int) + 1) → Te (fun K => cd0_X8_unfold vl K dd 24000 (nI (L + 1)) (iI ψ) (iI xp) (nI (L + 1)) z) (fun z1 => (lvS z1 ∧ fr (unP (L + 1)) z z1) ∧ twC z1 (fun p q => m p q + ψ * Fz n Wd ov (p - xp) (q - ((L : Int) + 1))))
/-- what is met and gone -/
def ufB (f : Nat → Nat) (k Mm Gm : Nat) (B : rn_L) : Prop := Mm < 2 ^ 24 ∧ Gm < 2 ^ 24 ∧ gPre B k ∧ (∀ x, x < 12 → (o_gn Mm x ↔ ∃ u, u < k ∧ f (crs B u) = x)) ∧ ∀ t, t < 24 → (o_gn Gm t ↔ ∃ u, u < k ∧ lbv B f u = t)
theorem fs_b (φ : Int) (b : Bool) : φ * sgz b = if b then φ else 0 - φ := by
  cases b
  · rw [if_neg (by decide), sgz_f, Int.mul_neg, Int.mul_one, Int.zero_sub]
  · rw [if_pos rfl, sgz_t, Int.mul_one]
theorem sg_sb {b s : Bool} (h : s = !b) : (if s then -1 else 1 : Int) = sgz b := by
  rw [h]
  cases b <;> rfl
section XTWN
variable {vl : Nat → Nat} {y : ow_MS}
/-- a bad visit: the crossing smoothed a level below -/
theorem uf_bad2 {O : Type} {Qo : O → Prop} {n L dd c v x a b n1 : Nat} {Wd : wd9} {f : Nat → Nat} {φ pw : Int} {G : pz9} {z : ow_MS} {R : ow_NT} {B : rn_L} {sb ov : Nat → Bool} {E : ow_MS → Nat → Nat → Option O} (hL : L < 12) (hself : ufS2 vl n L dd) (hJ : ufT n Wd L c f φ G n1 z R B sb ov pw) (hn1 : n1 ≤ 6 + L) (hc : c + L ≤ 12) (hv : v < B.flatten.length) (ex : crs B v = x) (hs : sm2 B x a b) (hp1 : -(100 * (L : Int)) - 90 ≤ pw) (hp2 : pw ≤ 100 * (L : Int) + 90) (H : ∀ z3, ufU n Wd L c f φ G n1 x z3 R B sb ov pw → Tt (E z3) Qo) : Tt (fun K k => crX 13 (nI (L + 1)) fun j6 => cs0 (ce_X7_copy vl K (24000 + 2000 + 1000 * j6) (lv L) z) fun z7 => crX 13 (nI (L + 1)) fun j8 => cs0 (ce_X7_smoothCrossing vl K (24000 + 2000 + 1000 * j8) (nI (f x)) z7) fun z9 => cs0 (cd0_X8_unfold vl K dd 24000 (nI (L + 1)) (iI φ * iI (if sb x then -1 else 1)) (iI pw + iI (if sb x then -1 else 1)) (nI (L + 1)) z9) fun z10 => E z10 K k) Qo := by
  obtain ⟨j1, jb, j2, j3, j4, j5, jp, j6, jz, m, j8, j9⟩ := hJ
  have hN := isoS_iff.mp j5.1
  have hx : f x < R.1 := by
    rw [← ex]
    exact hN.2.2.2.1 v hv
  have hxm : x ∈ nmz Wd := by
    rw [← ex]
    exact bd_nm jz (vAt_mem hv)
  have hsx := sg_sb (jz.2.2 x hxm)
  have hh := lv_nH (show L ≤ 12 by omega)
  have hh1 := lv_nH (show L + 1 ≤ 12 by omega)
  obtain ⟨T', t1, t2⟩ := j1 (L + 1) (by omega)
  refine w_crX rfl (show L + 1 < 13 by omega) (w_cs0 (tc_copy hh1 hh (by unfold nDj lv; omega) t1 j2 j3.2.1) ?_)
  rintro z1 ⟨g1, g2⟩
  refine w_crX rfl (show L + 1 < 13 by omega) (w_cs0 (tc_smoothCrossing hh1 g1 (nt_copy_b24 t2 j3.2.2.1) (show f x < R.1 by omega) j3.2.1) ?_)
  rintro z2 ⟨g3, g4⟩
  have n2 := nvL_sm (Q := T') (x := f x) j3 t2 hx
  have f2 : fr (cP (lv (L + 1))) z z2 := fr_tr g2 g4
  have l2 : lvS z2 := lvS_fr (L := L + 1) f2 (fun g hg => Or.inl (cP_in hg)) ⟨_, g3, n2.2.2.1⟩ j1
  obtain ⟨f', hu', hp'⟩ := iS_sm (Q := T') j5 jp hs
  have c2 : twC z2 m := twC_fr f2 (fun h9 => by unfold cP lv at h9; omega) j8
  have b2 : bnC z2 := bnC_fr f2 (fun m hm h9 => by unfold cP lv at h9; omega) jb
  rw [hsx, iI_mul, iI_add]
  have sb1 : sgz (ov x) ≤ 1 ∧ -1 ≤ sgz (ov x) := by
    cases ov x
    · exact ⟨by decide, by decide⟩
    · exact ⟨by decide, by decide⟩
  have hlen := smV_n hs.1 hs.2.1
  refine w_cs0 (hself _ (smV B a b) sb ov (dlz x Wd) f' (φ * sgz (ov x)) m (pw + sgz (ov x)) z2 l2 b2 g3 n2 (show R.1 - 1 + (L + 1) ≤ 12 by omega) hu' hp' (by omega) (bd_sm jz hs.1 hs.2.1 hs.2.2.2) c2 (by omega) (by omega)) ?_
  rintro z3 ⟨⟨l3, f3⟩, c3⟩
  have f23 : fr (unP (L + 1)) z z3 := fr_tr (fr_mono (fun g hg => by unfold cP lv at hg; unfold unP; omega) f2) f3
  have hR3 : cAt z3 (lv L) R := cAt_fr f23 (fun g hg h9 => by unfold cP lv at hg; unfold unP at h9; omega) j2
  have b3 : bnC z3 := bnC_fr f23 (fun m hm h9 => by unfold unP at h9; omega) jb
  refine H z3 ⟨l3, b3, hR3, j3, j4, j5, jp, j6, jz, _, c3, fun p q => ?_⟩
  rw [← j9 p q, fs_b]
  exact tw_st (bd_sk jz hxm) p q pw (L : Int) (m p q)
theorem uf_flip2 {O : Type} {Qo : O → Prop} {n L c v x n1 : Nat} {Wd : wd9} {f : Nat → Nat} {φ pw : Int} {G : pz9} {z : ow_MS} {R : ow_NT} {B : rn_L} {sb ov : Nat → Bool} {E : ow_MS → Nat → Nat → Option O} (hL : L ≤ 12) (hJ : ufU n Wd L c f φ G n1 x z R B sb ov pw) (hv : v < B.flatten.length) (ex : crs B v = x) (H : ∀ z3, ufT n Wd L c f φ G n1 z3 (ntF R (f x)) (chA B x) (chS sb x) (flz ov x) (pw + 2 * sgz (ov x)) → Tt (E z3) Qo) : Tt (fun K k => cs0 (ce_X7_flipCrossing vl K (lv L) (nI (f x)) z) fun z11 => E z11 K k) Qo := by
  obtain ⟨j1, jb, j2, j3, j4, j5, jp, j6, jz, m, j8, j9⟩ := hJ
  have hx : f x < R.1 := by
    rw [← ex]
    exact (isoS_iff.mp j5.1).2.2.2.1 v hv
  refine w_cs0 (tc_flipCrossing (lv_nH hL) j2 j3.2.2.1 (show f x < 12 by have := j3.2.1; omega)) ?_
  rintro z4 ⟨g5, g6⟩
  have n4 := nvL_flip (x := f x) (G := su R.2.2.2 (f x) (- R.2.2.2 (f x))) j3 hx
  obtain ⟨i1, i2⟩ := iS_ch j5 jp hv ex
  exact H z4 ⟨lvS_fr (L := L) g6 (fun g hg => Or.inl (cP_in hg)) ⟨_, g5, n4.2.2.1⟩ j1, bnC_fr g6 (fun m hm h9 => by unfold cP lv at h9; omega) jb, g5, n4, j4, i1, i2, by unfold chA; rw [List.length_map]; exact j6, bd_ch x jz, m, twC_fr g6 (fun h9 => by unfold cP lv at h9; omega) j8, j9⟩
theorem uf_w2 {n L dd c n1 : Nat} {Wd : wd9} {f : Nat → Nat} {φ xp : Int} {G : pz9} (hn : 1 ≤ n) (hL : L ≤ 12) (hself : L < 12 → ufS2 vl n L dd) (hc : c + L ≤ 12) (hn1 : n1 ≤ 6 + L) (hx1 : -(100 * (L : Int)) ≤ xp) (hx2 : xp ≤ 100 * (L : Int)) : ∀ (d s r : Nat) (pw : Int) (Mm Gm : Nat) (z : ow_MS) (R : ow_NT) (B : rn_L) (sb ov : Nat → Bool), s + d = 2 * c → ufT n Wd L c f φ G n1 z R B sb ov pw → ufB f (rn_b B r) Mm Gm B → ufG9 r B → (∀ v, v < s → o_gn Gm v) → xp - 2 * (rn_b B r : Int) ≤ pw → pw ≤ xp + 2 * (rn_b B r : Int) → Tt (fun K t => c_X8_unfold vl K (cd0_X8_unfold vl K dd) t 1 (nI L) (iI φ) (iI xp) (nI L) (nI (2 * c)) (iI pw) (nI Mm) (nI Gm) (nI r) (nI s) 0 0 0 0 24000 (lv L) z) (fun z1 => twC z1 G) := by
  have hh := lv_nH hL
  let Q : ow_MS → Prop := fun z1 => twC z1 G
  intro d
  induction d with
  | zero =>
    intro s r pw Mm Gm z R B sb ov hs hJ hB hR hgs hp1 hp2
    obtain ⟨j1, jb, j2, j3, j4, j5, jp, j6, jz, m, j8, j9⟩ := hJ
    obtain ⟨p1, p2, p3, p4, p5⟩ := hB
    have hN := isoS_iff.mp j5.1
    have hci : cirs B = R.2.1 := hN.2.2.2.2.2.2.2
    have hlen := hN.2.1
    have hle := rn_b_le B r
    have hall : rn_b B r = B.flatten.length := by
      rcases Nat.lt_or_ge (rn_b B r) B.flatten.length with h9 | h9
      · exfalso
        have hlt : lbv B f (rn_b B r) < 2 * c := by rw [← j4]; exact lbv_lt hN h9
        obtain ⟨u, u1, u2⟩ := (p5 (lbv B f (rn_b B r)) (by omega)).mp (hgs _ (by omega))
        have := lbv_inj hN (v := u) (w := rn_b B r) (by omega) h9 u2
        omega
      · omega
    have hend := ufG9_e hR hall
    have hl1 := bd_len hn jz
    refine u_X8_unfold_1 ?_; unfold cm_X8_unfold_1
    refine w_leT (by omega) (by omega) (w_rdF j2.2.1 ?_)
    rw [nI_add, show r + R.2.1 = n1 by omega]
    refine w_cs0 (xc_addT (q := n1) (by omega) (by omega) hL (by omega) (by omega) jb j8) ?_
    rintro z1 h1
    refine w_some (twC_cg h1 (fun p q => ?_))
    rw [← j9 p q, bd_lf jz (by rw [← hall]; exact p3), j6]
  | succ d ih =>
    intro s r pw Mm Gm z R B sb ov hs hJ hB hR hgs hp1 hp2
    have c5 : ∀ (r' : Nat) (pw : Int) (Mm Gm : Nat) (z : ow_MS) (R : ow_NT) (B : rn_L) (sb ov : Nat → Bool), ufT n Wd L c f φ G n1 z R B sb ov pw → ufB f (rn_b B r') Mm Gm B → ufG9 r' B → (∀ v, v < s + 1 → o_gn Gm v) → xp - 2 * (rn_b B r' : Int) ≤ pw → pw ≤ xp + 2 * (rn_b B r' : Int) → Tt (fun K t => c_X8_unfold vl K (cd0_X8_unfold vl K dd) t 5 (nI L) (iI φ) (iI xp) (nI L) (nI (2 * c)) (iI pw) (nI Mm) (nI Gm) (nI r') (nI s) 0 0 0 0 24000 (lv L) z) Q := by
      intro r' pw Mm Gm z R B sb ov h3 h4 h5 h6 h7 h8
      refine u_X8_unfold_5 ?_; unfold cm_X8_unfold_5
      rw [nI_1]
      exact ih (s + 1) r' pw Mm Gm z R B sb ov (by omega) h3 h4 h5 h6 h7 h8
    have c2 : ∀ (e i v : Nat) (pw : Int) (Mm Gm : Nat) (z : ow_MS) (R : ow_NT) (B : rn_L) (sb ov : Nat → Bool), rn_b B r + i + e = rn_b B (r + 1) → (rn_b B r + i < rn_b B (r + 1) → v = lbv B f (rn_b B r + i)) → (rn_b B r + i = rn_b B (r + 1) → v = s) → ufT n Wd L c f φ G n1 z R B sb ov pw → ufB f (rn_b B r + i) Mm Gm B → ufG9 (r + 1) B → lbv B f (rn_b B r) = s → (∀ v, v < s → o_gn Gm v) → xp - 2 * ((rn_b B r : Int) + i) ≤ pw → pw ≤ xp + 2 * ((rn_b B r : Int) + i) → Tt (fun K t => c_X8_unfold vl K (cd0_X8_unfold vl K dd) t 2 (nI L) (iI φ) (iI xp) (nI L) (nI (2 * c)) (iI pw) (nI Mm) (nI Gm) (nI (r + 1)) (nI s) (nI v) (nI i) 0 0 24000 (lv L) z) Q := by
      intro e
      induction e with
      | zero =>
        intro i v pw Mm Gm z R B sb ov hi hv1 hv2 hJ hB hR hb0 hgs hp1 hp2
        obtain ⟨j1, jb, j2, j3, j4, j5, jp, j6, jz, m, j8, j9⟩ := id hJ
        obtain ⟨k1, k2, k3, k4, k5⟩ := id hB
        have hN := isoS_iff.mp j5.1
        have hlen := hN.2.1
        have hle := rn_b_le B (r + 1)
        have hnz := hR.2 r (by omega)
        have e9 : rn_b B r + i = rn_b B (r + 1) := by omega
        rw [e9] at hB k5
        have gs : o_gn Gm s := (k5 s (by omega)).mpr ⟨rn_b B r, hnz, hb0⟩
        have fin5 := c5 (r + 1) pw Mm Gm z R B sb ov hJ hB hR (fun v hv => by
          by_cases ev : v = s
          · rw [ev]
            exact gs
          · exact hgs v (by omega)) (by omega) (by omega)
        refine u_X8_unfold_2 ?_; unfold cm_X8_unfold_2
        rw [hv2 e9]
        exact w_le (by omega) (by omega) (fun _ => fin5) (fun _ => w_ifF (fun h9 => (gbit0 k2 (by omega)).mp h9 gs) fin5)
      | succ e ihe =>
        intro i v pw Mm Gm z R B sb ov hi hv1 hv2 hJ hB hR hb0 hgs hp1 hp2
        obtain ⟨j1, jb, j2, j3, j4, j5, jp, j6, jz, m, j8, j9⟩ := id hJ
        obtain ⟨hM, hG, hg, hme, hgo⟩ := id hB
        have hN := isoS_iff.mp j5.1
        have hlen := hN.2.1
        have hle := rn_b_le B (r + 1)
        have hnz := hR.2 r (by omega)
        have hil : rn_b B r + i < B.flatten.length := by omega
        have ev : v = lbv B f (rn_b B r + i) := hv1 (by omega)
        have hvl : v < 2 * c := by rw [ev, ← j4]; exact lbv_lt hN hil
        obtain ⟨f1, f2⟩ := lbv_hf hN hil
        rw [← ev] at f1 f2
        obtain ⟨q1, q2⟩ := uf_bits ⟨v, by omega⟩
        have q3 := uf_par ⟨v, by omega⟩
        dsimp only at q1 q2 q3
        have c4 : ∀ (v' : Nat) (pw : Int) (z : ow_MS) (R : ow_NT) (B' : rn_L) (sb ov : Nat → Bool), v' = lbv B' f (rn_b B r + i) → ufT n Wd L c f φ G n1 z R B' sb ov pw → gPre B' (rn_b B r + i + 1) → (∀ u, u < rn_b B r + i → vAt B' u = vAt B u) → crs B' (rn_b B r + i) = crs B (rn_b B r + i) → (∀ t, rn_b B' t = rn_b B t) → (i = 0 → v' = s) → xp - 2 * ((rn_b B r : Int) + i + 1) ≤ pw → pw ≤ xp + 2 * ((rn_b B r : Int) + i + 1) → Tt (fun K t => c_X8_unfold vl K (cd0_X8_unfold vl K dd) t 4 (nI L) (iI φ) (iI xp) (nI L) (nI (2 * c)) (iI pw) (nI Mm) (nI Gm) (nI (r + 1)) (nI s) (nI v') (nI i) (nI (v / 2)) 0 24000 (lv L) z) Q := by
          intro v' pw z R B' sb ov ev' hJ' hg' hpre hci hrb hi0 hq1 hq2
          obtain ⟨m1, mb, m2, m3, m4, m5, mp, m6, mz, -⟩ := id hJ'
          have hN' := isoS_iff.mp m5.1
          have hlen' := hN'.2.1
          have hle' := rn_b_le B' (r + 1)
          rw [hrb] at hle'
          have hv' : v' < 2 * c := by rw [ev', ← m4]; exact lbv_lt hN' (by omega)
          obtain ⟨o1, o2⟩ := gor9 hM (show v / 2 < 24 by omega)
          obtain ⟨o3, o4⟩ := gor9 hG (show v' < 24 by omega)
          have hnx := iS_nx (r := r) hN' (v := rn_b B r + i) (by rw [hrb]; omega) (by rw [hrb]; omega)
          rw [← ev', hrb, hrb] at hnx
          have pc : ∀ u, u < rn_b B r + i → crs B' u = crs B u := fun u hu => by unfold crs; rw [hpre u hu]
          have pl : ∀ u, u < rn_b B r + i → lbv B' f u = lbv B f u := fun u hu => by unfold lbv crs uns; rw [hpre u hu]
          have hb0' : lbv B' f (rn_b B r) = s := by
            rcases Nat.eq_zero_or_pos i with h9 | h9
            · have h8 := hi0 h9
              rw [ev', h9] at h8
              exact h8
            · rw [pl _ (by omega)]
              exact hb0
          refine u_X8_unfold_4 ?_; unfold cm_X8_unfold_4
          rw [nI_1, o1, o3]
          refine w_crI (nH_1 hh) rfl (show v' < 24 by omega) (m2.2.2.1 v') (ihe (i + 1) _ pw _ _ z R B' sb ov (by rw [hrb, hrb]; omega) (fun h9 => ?_) (fun h9 => ?_) hJ' ⟨o2, o4, by rw [hrb]; exact hg', fun x hx => ?_, fun k hk => ?_⟩ ⟨by rw [m6, ← j6]; exact hR.1, fun t ht => by rw [hrb, hrb]; exact hR.2 t ht⟩ (by rw [hrb]; exact hb0') (fun t ht => (gn_or _ _ _).mpr (Or.inl (hgs t ht))) (by rw [hrb]; omega) (by rw [hrb]; omega))
          · rw [hrb, hrb] at h9
            rw [hnx, if_pos (by omega), hrb]
            rfl
          · rw [hrb, hrb] at h9
            rw [hnx, if_neg (by omega)]
            exact hb0'
          · rw [hrb, gn_or, hme x hx]
            constructor
            · rintro (⟨u, u1, u2⟩ | h9)
              · exact ⟨u, by omega, by rw [pc u u1]; exact u2⟩
              · exact ⟨rn_b B r + i, by omega, by rw [hci, h9, f1]⟩
            · rintro ⟨u, u1, u2⟩
              by_cases eu : u = rn_b B r + i
              · rw [eu, hci, ← f1] at u2
                exact Or.inr u2.symm
              · exact Or.inl ⟨u, by omega, by rw [← pc u (by omega)]; exact u2⟩
          · rw [hrb, gn_or, hgo k hk]
            constructor
            · rintro (⟨u, u1, u2⟩ | h9)
              · exact ⟨u, by omega, by rw [pl u u1]; exact u2⟩
              · exact ⟨rn_b B r + i, by omega, by rw [h9, ev']⟩
            · rintro ⟨u, u1, u2⟩
              by_cases eu : u = rn_b B r + i
              · rw [eu, ← ev'] at u2
                exact Or.inr u2.symm
              · exact Or.inl ⟨u, by omega, by rw [← pl u (by omega)]; exact u2⟩
        have hgone : ¬ o_gn Gm v := fun h9 => by
          obtain ⟨u, u1, u2⟩ := (hgo v (by omega)).mp h9
          have := lbv_inj hN (v := u) (w := rn_b B r + i) (by omega) hil (u2.trans ev)
          omega
        have vs : i = 0 → v = s := fun h9 => by
          rw [ev, h9]
          exact hb0
        have good : (¬ (∀ u, u < rn_b B r + i → crs B u ≠ crs B (rn_b B r + i)) ∨ uns B (rn_b B r + i) = 0) → gPre B (rn_b B r + i + 1) := fun h9 u hu hul hfu => by
          by_cases eu : u = rn_b B r + i
          · subst eu
            rcases h9 with h9 | h9
            · exact absurd hfu h9
            · exact h9
          · exact hg u (by omega) hul hfu
        have noflip : (¬ (∀ u, u < rn_b B r + i → crs B u ≠ crs B (rn_b B r + i)) ∨ uns B (rn_b B r + i) = 0) → Tt (fun K t => c_X8_unfold vl K (cd0_X8_unfold vl K dd) t 4 (nI L) (iI φ) (iI xp) (nI L) (nI (2 * c)) (iI pw) (nI Mm) (nI Gm) (nI (r + 1)) (nI s) (nI v) (nI i) (nI (v / 2)) 0 24000 (lv L) z) Q := fun h9 => c4 v pw z R B sb ov ev hJ (good h9) (fun u _ => rfl) rfl (fun _ => rfl) vs (by omega) (by omega)
        refine u_X8_unfold_2 ?_; unfold cm_X8_unfold_2
        rw [q1, show Int32.ofNat ((cX vl).2 (24000 + 2)).2.1 = nI 13 from rfl]
        refine w_leF (by omega) (by omega) (w_ifT ((gbit0 hG (by omega)).mpr hgone) (w_if (fun hm0 => w_if (fun hodd => ?_) (fun hev => noflip (Or.inr ?_))) (fun hm0 => noflip (Or.inl (fun h9 => hm0 ?_)))))
        rotate_left
        · have h7 : ¬ v % 2 = 1 := fun h9 => hev (q3.mpr h9)
          have h2 := (hN.1.2 _ (vAt_mem hil)).2.1
          have h3 : uns B (rn_b B r + i) < 2 := h2
          omega
        · refine (gbit0 hM (by omega)).mpr (fun h8 => ?_)
          obtain ⟨u, u1, u2⟩ := (hme (v / 2) (by omega)).mp h8
          exact h9 u u1 (hN.2.2.2.2.1 u (rn_b B r + i) (by omega) hil (u2.trans f1))
        have hmet := (gbit0 hM (show v / 2 < 24 by omega)).mp hm0
        have hun : uns B (rn_b B r + i) = 1 := by rw [← f2]; exact q3.mp hodd
        have hfst : ∀ u, u < rn_b B r + i → crs B u ≠ crs B (rn_b B r + i) := fun u hu e9 => hmet ((hme (v / 2) (by omega)).mpr ⟨u, hu, by rw [e9]; exact f1.symm⟩)
        have hbd : bdF B (rn_b B r + i) := ⟨hil, hfst, by omega, fun u hu hfu => hg u hu (by omega) hfu⟩
        have hs2 := sm2_b2 hN hbd
        have hxm : crs B (rn_b B r + i) ∈ nmz Wd := bd_nm jz (vAt_mem hil)
        have hsx := sg_sb (jz.2.2 _ hxm)
        have sb1 : sgz (ov (crs B (rn_b B r + i))) ≤ 1 ∧ -1 ≤ sgz (ov (crs B (rn_b B r + i))) := by
          cases ov (crs B (rn_b B r + i))
          · exact ⟨by decide, by decide⟩
          · exact ⟨by decide, by decide⟩
        refine w_crI (nH_3 hh) rfl (show v / 2 < 12 by omega) (x := iI (if sb (crs B (rn_b B r + i)) then -1 else 1)) (by rw [f1]; exact (j2.2.2.2.2 _).trans (iS_sg j5 jp hil)) ?_
        rw [nI_1 L, f1]
        refine w_leF (by omega) (by omega) (uf_bad2 (by omega) (hself (by omega)) hJ hn1 hc hil rfl hs2 (by omega) (by omega) (fun z3 hK => ?_))
        refine u_X8_unfold_3 ?_; unfold cm_X8_unfold_3
        rw [q2]
        refine uf_flip2 hL hK hil rfl (fun z4 hJ4 => ?_)
        have hg2 : gPre (chA B (crs B (rn_b B r + i))) (rn_b B r + i + 1) := fun u hu hul hfu => by
          rw [ch_len] at hul
          rw [ch_uns hul]
          by_cases eu : u = rn_b B r + i
          · rw [eu, if_pos rfl, hun]
          · rw [if_neg (hfst u (by omega))]
            refine hg u (by omega) hul (fun t ht e9 => hfu t ht ?_)
            rw [ch_crs (by omega), ch_crs hul]
            exact e9
        have hlb : mt v = lbv (chA B (crs B (rn_b B r + i))) f (rn_b B r + i) := by
          unfold lbv
          rw [ch_crs hil, ch_uns hil, if_pos rfl, hun, ev]
          unfold lbv mt
          rw [hun, if_neg (by omega)]
          omega
        have key := c4 (mt v) (pw + 2 * sgz (ov (crs B (rn_b B r + i)))) z4 _ _ _ _ hlb hJ4 hg2 (fun u hu => by
          unfold chA
          rw [flp_vAt (by omega)]
          unfold flp
          have : ¬ (crs B u = crs B (rn_b B r + i)) := hfst u hu
          exact if_neg (fun h9 => this (of_decide_eq_true h9))) (ch_crs hil) (bc_ch _) (fun h9 => by
          exfalso
          have h8 := vs h9
          rw [h9, Nat.add_zero] at hun
          have h7 : s % 2 = 1 := by rw [← h8]; exact q3.mp hodd
          have h6 := hgs (s - 1) (by omega)
          obtain ⟨u, u1, u2⟩ := (hgo (s - 1) (by omega)).mp h6
          have h5 := lbv_hf hN (v := u) (by omega)
          refine hfst u (by omega) (hN.2.2.2.2.1 u (rn_b B r + i) (by omega) hil ?_)
          rw [← h5.1, u2, ← f1, h8]
          omega) (by omega) (by omega)
        rw [f1] at key
        rw [hsx, show (2 : Int32) * iI (sgz (ov (crs B (rn_b B r + i)))) = iI (2 * sgz (ov (crs B (rn_b B r + i)))) from iI_mul 2 _, iI_add]
        exact key
    obtain ⟨p1, p2, p3, p4, p5⟩ := id hB
    obtain ⟨j1, jb, j2, j3, j4, j5, jp, j6, jz, m, j8, j9⟩ := id hJ
    have hN := isoS_iff.mp j5.1
    have hlen := hN.2.1
    refine u_X8_unfold_1 ?_; unfold cm_X8_unfold_1
    refine w_leF (by omega) (by omega) ?_
    by_cases hgn : o_gn Gm s
    · exact w_ifF (fun h9 => (gbit0 p2 (by omega)).mp h9 hgn) (c5 r pw Mm Gm z R B sb ov hJ hB hR (fun v hv => by
        by_cases e : v = s
        · rw [e]
          exact hgn
        · exact hgs v (by omega)) hp1 hp2)
    · obtain ⟨p, pl, pe⟩ := lbv_sur hN (k := s) (by omega)
      have hpr : rn_b B r ≤ p := by
        rcases Nat.lt_or_ge p (rn_b B r) with h9 | h9
        · exact absurd ((p5 s (by omega)).mpr ⟨p, h9, pe⟩) hgn
        · exact h9
      obtain ⟨B', b1, b2, b3, b4, b5, b6, b7, b8⟩ := mv_ring j5 jz hR.1 hpr pl
      have hN' := isoS_iff.mp b1.1
      have hle := rn_b_le B r
      have lb0 : lbv B' f (rn_b B' r) = s := by
        rw [b4 r (Nat.le_refl r), ← pe]
        unfold lbv crs uns
        rw [b6]
      have pc : ∀ u, u < rn_b B r → crs B' u = crs B u := fun u hu => by unfold crs; rw [b5 u hu]
      have pu : ∀ u, u < rn_b B r → uns B' u = uns B u := fun u hu => by unfold uns; rw [b5 u hu]
      have plb : ∀ u, u < rn_b B r → lbv B' f u = lbv B f u := fun u hu => by unfold lbv; rw [pc u hu, pu u hu]
      have e4 := b4 r (Nat.le_refl r)
      refine w_ifT ((gbit0 p2 (by omega)).mpr hgn) ?_
      rw [nI_1]
      refine c2 (rn_b B' (r + 1) - rn_b B' r) 0 s pw Mm Gm z R B' sb ov (by omega) (fun _ => lb0.symm) (fun h9 => by omega) ⟨j1, jb, j2, j3, j4, b1, jp, b3.trans j6, b2, m, j8, j9⟩ ⟨p1, p2, fun u hu hul hfu => ?_, fun x hx => ?_, fun k hk => ?_⟩ ⟨by omega, fun i hi => ?_⟩ lb0 hgs (by omega) (by omega)
      · rw [e4] at hu
        rw [pu u (by omega)]
        refine p3 u (by omega) (by omega) (fun t ht e9 => hfu t ht ?_)
        rw [pc t (by omega), pc u (by omega)]
        exact e9
      · rw [p4 x hx, e4]
        exact ⟨fun ⟨u, u1, u2⟩ => ⟨u, by omega, by rw [pc u u1]; exact u2⟩, fun ⟨u, u1, u2⟩ => ⟨u, by omega, by rw [← pc u (by omega)]; exact u2⟩⟩
      · rw [p5 k hk, e4]
        exact ⟨fun ⟨u, u1, u2⟩ => ⟨u, by omega, by rw [plb u u1]; exact u2⟩, fun ⟨u, u1, u2⟩ => ⟨u, by omega, by rw [← plb u (by omega)]; exact u2⟩⟩
      · by_cases e : i = r
        · rw [e, e4]
          exact b7
        · rw [b4 i (by omega), b4 (i + 1) (by omega)]
          exact hR.2 i (by omega)
/-- one level -/
theorem xc_unfS2 {n L dd : Nat} {T : ow_NT} {A : rn_L} {sg ov : Nat → Bool} {Wd : wd9} {f : Nat → Nat} {φ xp : Int} {m : pz9} (hn : 1 ≤ n) (hL : L ≤ 12) (hself : L < 12 → ufS2 vl n L dd) (h0 : lvS y) (hb : bnC y) (hT : cAt y (lv L) T) (hv : nvL L T) (hc : T.1 + L ≤ 12) (hu : isoV A sg f T) (hp : pm1 T) (h6 : A.length ≤ 6 + L) (hz : bdz n Wd ov A sg) (hm : twC y m) (hx1 : -(100 * (L : Int)) ≤ xp) (hx2 : xp ≤ 100 * (L : Int)) : Te (fun K => cd0_X8_unfold vl K (dd + 1) 24000 (nI L) (iI φ) (iI xp) (nI L) y) (fun z1 => twC z1 (fun p q => m p q + φ * Fz n Wd ov (p - xp) (q - (L : Int)))) := by
  obtain ⟨c, hcT⟩ : ∃ c, T.1 = c := ⟨_, rfl⟩
  refine w_cdU ?_
  refine u_X8_unfold_0 ?_; unfold cm_X8_unfold_0
  refine w_crX rfl (show L < 13 by omega) (w_rdF hT.1 ?_)
  rw [hcT, rn_mul2]
  have z0 : rn_b A 0 = 0 := rfl
  exact uf_w2 (n1 := A.length) hn hL hself (by omega) h6 hx1 hx2 (2 * c) 0 0 xp 0 0 y T A sg ov (by omega) ⟨h0, hb, hT, hv, hcT, hu, hp, rfl, hz, m, hm, fun p q => rfl⟩ ⟨by decide, by decide, fun v hv => absurd hv (by rw [z0]; omega), fun x _ => ⟨fun h9 => absurd h9 (gn_z9 x), fun ⟨u, u1, _⟩ => absurd u1 (by rw [z0]; omega)⟩, fun k _ => ⟨fun h9 => absurd h9 (gn_z9 k), fun ⟨u, u1, _⟩ => absurd u1 (by rw [z0]; omega)⟩⟩ ⟨by omega, fun i hi => absurd hi (Nat.not_lt_zero _)⟩ (fun v hv => absurd hv (Nat.not_lt_zero _)) (by rw [z0]; omega) (by rw [z0]; omega)
theorem xc_unfD2 {n : Nat} (hn : 1 ≤ n) : ∀ (d L : Nat), L + d = 12 → ∀ (R : ow_NT) (B : rn_L) (sb ov : Nat → Bool) (Wd : wd9) (g : Nat → Nat) (ψ : Int) (m : pz9) (xp : Int) (z : ow_MS), lvS z → bnC z → cAt z (lv L) R → nvL L R → R.1 + L ≤ 12 → isoV B sb g R → pm1 R → B.length ≤ 6 + L → bdz n Wd ov B sb → twC z m → -(100 * (L : Int)) ≤ xp → xp ≤ 100 * (L : Int) → Te (fun K => cd0_X8_unfold vl K (d + 3) 24000 (nI L) (iI ψ) (iI xp) (nI L) z) (fun z1 => (lvS z1 ∧ fr (unP L) z z1) ∧ twC z1 (fun p q => m p q + ψ * Fz n Wd ov (p - xp) (q - (L : Int)))) := by
  intro d
  induction d with
  | zero =>
    intro L hL R B sb ov Wd g ψ m xp z h0 hb hT hv hc hu hp h6 hz hm hx1 hx2
    exact te_and (tc_unfD 0 L hL R _ _ z h0 hT hv) (xc_unfS2 (dd := 2) hn (by omega) (fun h => absurd h (by omega)) h0 hb hT hv hc hu hp h6 hz hm hx1 hx2)
  | succ d ih =>
    intro L hL R B sb ov Wd g ψ m xp z h0 hb hT hv hc hu hp h6 hz hm hx1 hx2
    refine te_and (tc_unfD (d + 1) L hL R _ _ z h0 hT hv) (xc_unfS2 (dd := d + 3) hn (by omega) (fun _ => fun R B sb ov Wd g ψ m xp z a1 a2 a3 a4 a5 a6 a7 a8 a9 a10 a11 a12 => ?_) h0 hb hT hv hc hu hp h6 hz hm hx1 hx2)
    exact ih (L + 1) (by omega) R B sb ov Wd g ψ m xp z a1 a2 a3 a4 a5 a6 a7 a8 a9 a10 (by show -(100 * ((L : Int) + 1)) ≤ xp; exact a11) (by show xp ≤ 100 * ((L : Int) + 1); exact a12)
end XTWN
end
