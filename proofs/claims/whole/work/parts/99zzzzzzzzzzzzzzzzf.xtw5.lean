/-! two: the skein relation for words -/
section XTW5
variable {n : Nat} {W : wd9} {L : List (List tk9)}
theorem spl_m {α : Type} {u : α} {l : List α} (h : u ∈ l) : ∃ a b, l = a ++ u :: b := List.append_of_mem h
theorem orz_f {u : tk9} (h : orz n W L) (hu : u ∈ L.flatten) : ∃ a Q, orz n W ((u :: a) :: Q) ∧ Q.length + 1 = L.length := by
  obtain ⟨c, hc, hu2⟩ := List.mem_flatten.mp hu
  obtain ⟨P, Q, rfl⟩ := spl_m hc
  obtain ⟨a, b, rfl⟩ := spl_m hu2
  have h1 : orz n W ((a ++ u :: b) :: (P ++ Q)) := orz_p (List.perm_middle.symm) h
  have h2 := orz_t (P := []) h1
  exact ⟨b ++ a, P ++ Q, h2, by simp only [List.length_append, List.length_cons]; omega⟩
/-- two of its visits: in one component or in two -/
theorem orz_2 {u v : tk9} (h : orz n W L) (hu : u ∈ L.flatten) (hv : v ∈ L.flatten) (hne : v ≠ u) : (∃ a b Q, orz n W ((u :: (a ++ v :: b)) :: Q) ∧ Q.length + 1 = L.length) ∨ ∃ a b Q, orz n W ((u :: a) :: (v :: b) :: Q) ∧ Q.length + 2 = L.length := by
  obtain ⟨a, Q, h1, hl⟩ := orz_f h hu
  have hv1 : v ∈ ((u :: a) :: Q).flatten := (h1.2.2 v).mpr ((h.2.2 v).mp hv)
  rw [List.flatten_cons] at hv1
  rcases List.mem_append.mp hv1 with h2 | h2
  · rcases List.mem_cons.mp h2 with h3 | h3
    · exact absurd h3 hne
    · obtain ⟨c, d, rfl⟩ := spl_m h3
      exact Or.inl ⟨c, d, Q, h1, hl⟩
  · obtain ⟨c, hc, hv2⟩ := List.mem_flatten.mp h2
    obtain ⟨P, Q', rfl⟩ := spl_m hc
    obtain ⟨c, d, rfl⟩ := spl_m hv2
    have h3 : orz n W ((u :: a) :: (c ++ v :: d) :: (P ++ Q')) := orz_p (List.Perm.cons _ List.perm_middle.symm) h1
    have h4 := orz_t (P := [u :: a]) h3
    exact Or.inr ⟨a, d ++ c, P ++ Q', h4, by simp only [List.length_append, List.length_cons] at hl ⊢; omega⟩
theorem orz_dl {x : Nat} (ho : okw n W) (h : orz n W L) (hx : x ∈ nmz W) : ∃ L', orz n (dlz x W) L' := by
  obtain ⟨A, B, g, rfl⟩ := nm_ex hx
  obtain ⟨h1, h2, -⟩ := okw_d ho
  rw [dlz_e h1 h2]
  have m1 : (x, 1) ∈ L.flatten := (h.2.2 _).mpr (Or.inr ⟨by omega, hx⟩)
  have m0 : (x, 0) ∈ L.flatten := (h.2.2 _).mpr (Or.inr ⟨by omega, hx⟩)
  rcases orz_2 h m1 m0 (fun h9 => by have := (Prod.mk.inj h9).2; omega) with ⟨a, b, Q, h3, -⟩ | ⟨a, b, Q, h3, -⟩
  · exact ⟨_, orz_s1 (P := []) (X := []) (i := 1) ho (by omega) h3⟩
  · exact ⟨_, orz_s2 (P := []) (M := []) (a1 := []) (b1 := []) (i := 1) ho (by omega) h3⟩
theorem nm_0 (h : W.length = 0) : nmz W = [] := by
  rw [List.eq_nil_of_length_eq_zero h]
  rfl
/-- only the letters that are there matter -/
theorem fvl_cg : ∀ (k : Nat) (W : wd9) (ov ov' : Nat → Bool), okw n W → W.length = k → (∃ L, orz n W L) → (∀ y, y ∈ nmz W → ov y = ov' y) → fvl k n W ov = fvl k n W ov'
  | 0, W, ov, ov', _, hk, ⟨L, hL⟩, h => goz_cg (S := nmz W) (fun x hx => by rw [nm_0 hk] at hx; exact absurd hx List.not_mem_nil) _ ov ov' (fun p hp => fs_nm (orc_o hL) hp) h
  | k + 1, W, ov, ov', ho, hk, ⟨L, hL⟩, h => goz_cg (S := nmz W) (fun x hx o o' hoo => fvl_cg k (dlz x W) o o' (ok_dl ho) (by have := len_dl ho hx; omega) (orz_dl ho hL hx) (fun y hy => hoo y (nm_dl.mp hy).1)) _ ov ov' (fun p hp => fs_nm (orc_o hL) hp) h
theorem Fz_cg {ov ov' : Nat → Bool} (ho : okw n W) (hL : orz n W L) (h : ∀ y, y ∈ nmz W → ov y = ov' y) : Fz n W ov = Fz n W ov' := fvl_cg _ W ov ov' ho rfl ⟨L, hL⟩ h
theorem Fz_e {ov : Nat → Bool} (ho : okw n W) (hL : orz n W L) : Fz n W ov = vlz (Gz n W) (orc n W) ov := by
  cases hk : W.length with
  | zero =>
    unfold Fz
    rw [hk]
    exact goz_cg (S := nmz W) (fun x hx => by rw [nm_0 hk] at hx; exact absurd hx List.not_mem_nil) _ ov ov (fun p hp => fs_nm (orc_o hL) hp) (fun _ _ => rfl)
  | succ k =>
    unfold Fz
    rw [hk]
    refine goz_cg (S := nmz W) (fun x hx o o' hoo => ?_) _ ov ov (fun p hp => fs_nm (orc_o hL) hp) (fun _ _ => rfl)
    have hl : (dlz x W).length = k := by have := len_dl ho hx; omega
    unfold Gz Fz
    rw [hl]
    exact fvl_cg k (dlz x W) o o' (ok_dl ho) hl (orz_dl ho hL hx) (fun y hy => hoo y (nm_dl.mp hy).1)
/-- the skein relation, the value is one -/
def SkZ (n : Nat) (W : wd9) : Prop := skA (nmz W) (Gz n W) (Fz n W)
def PhZ (n : Nat) (W : wd9) : Prop := ∀ L ov, orz n W L → vlz (Gz n W) L ov = Fz n W ov
theorem okz_W (ho : okw n W) (hL : orz n W L) (h : ∀ x, x ∈ nmz W → SkZ n (dlz x W)) : okz (nmz W) (Gz n W) := by
  refine ⟨fun x ov hx => ?_, fun x y ov => Fz n (dlz y (dlz x W)) ov, fun x y ov => congrArg (fun V => Fz n V ov) (dlz_cm y x W), fun x y ov hx hy hne => ?_⟩
  · obtain ⟨L', hL'⟩ := orz_dl ho hL hx
    exact Fz_cg (ok_dl ho) hL' (fun y hy => flz_ot (nm_dl.mp hy).2)
  · exact h x hx ov y (nm_dl.mpr ⟨hy, Ne.symm hne⟩)
theorem vlz_sk (hG : okz (nmz W) (Gz n W)) (hL : orz n W L) : skA (nmz W) (Gz n W) (vlz (Gz n W) L) := fun ov y hy => goz_sk hG (fsz [] L.flatten) ov y fsz_nd (fun p hp => fs_nm hL hp) (nm_fs hL hy)
theorem SkZ_of (ho : okw n W) (hL : orz n W L) (hG : okz (nmz W) (Gz n W)) : SkZ n W := fun ov y hy => by
  rw [Fz_e ho hL, Fz_e ho hL]
  exact vlz_sk hG (orc_o hL) ov y hy
/-- the ones for which an order is good -/
def gdz (L : List (List tk9)) (ov : Nat → Bool) : Prop := ∀ x i, fvz L.flatten x i → ov x = decide (i = 1)
theorem vlz_g {G : Nat → (Nat → Bool) → pz9} {ov : Nat → Bool} (h : gdz L ov) : vlz G L ov = lfz (L.length - 1) := goz_all (fun p hp => by
  obtain ⟨x, b⟩ := p
  obtain ⟨-, i, h1, h2⟩ := fsz_m.mp hp
  exact h2.trans (h x i h1).symm)
theorem fv_uni {x i j : Nat} : ∀ {l : List tk9}, fvz l x i → fvz l x j → i = j
  | [], ⟨a, c, e, _⟩, _ => by
    have := congrArg List.length e
    simp at this
  | p :: r, ⟨a, c, e, h2, h3⟩, ⟨a', c', e', h2', h3'⟩ => by
    cases a with
    | nil =>
      obtain ⟨e1, -⟩ := List.cons.inj e
      cases a' with
      | nil =>
        obtain ⟨e1', -⟩ := List.cons.inj e'
        rw [e1] at e1'
        exact (Prod.mk.inj e1').2
      | cons p' a' =>
        obtain ⟨e1', -⟩ := List.cons.inj e'
        have := h3' p' List.mem_cons_self
        rw [← e1', e1] at this
        exact this.elim (fun h9 => absurd h9 h2) (fun h9 => absurd rfl h9)
    | cons p1 a =>
      obtain ⟨e1, e2⟩ := List.cons.inj e
      cases a' with
      | nil =>
        obtain ⟨e1', -⟩ := List.cons.inj e'
        have := h3 p1 List.mem_cons_self
        rw [← e1, e1'] at this
        exact this.elim (fun h9 => absurd h9 h2') (fun h9 => absurd rfl h9)
      | cons p' a' =>
        obtain ⟨-, e2'⟩ := List.cons.inj e'
        exact fv_uni ⟨a, c, e2, h2, fun q hq => h3 q (List.mem_cons_of_mem _ hq)⟩ ⟨a', c', e2', h2', fun q hq => h3' q (List.mem_cons_of_mem _ hq)⟩
/-- there is a good one that differs from a given one only at letters that are there -/
theorem gd_ex (hL : orz n W L) (ov : Nat → Bool) : ∃ ov0, gdz L ov0 ∧ ∀ x, x ∉ nmz W → ov x = ov0 x := by
  have := Classical.axiomOfChoice (r := fun (x : Nat) (b : Bool) => (∀ i, fvz L.flatten x i → b = decide (i = 1)) ∧ (x ∉ nmz W → ov x = b)) (fun x => by
    by_cases hx : x ∈ nmz W
    · obtain ⟨j, hj⟩ := fv_ex (i := 1) ((hL.2.2 (x, 1)).mpr (Or.inr ⟨by omega, hx⟩)) (by omega)
      exact ⟨decide (j = 1), fun i hi => by rw [fv_uni hi hj], fun h9 => absurd hx h9⟩
    · refine ⟨ov x, fun i hi => absurd ?_ hx, fun _ => rfl⟩
      exact fs_nm hL (p := (x, decide (i = 1))) (fsz_m.mpr ⟨List.not_mem_nil, i, hi, rfl⟩))
  obtain ⟨f, hf⟩ := this
  exact ⟨f, fun x i h => (hf x).1 i h, fun x hx => (hf x).2 hx⟩
/-- two orders whose values agree once -/
theorem vl_eq {L L' : List (List tk9)} (hG : okz (nmz W) (Gz n W)) (hL : orz n W L) (hL' : orz n W L') (h : ∀ ov, gdz L ov → vlz (Gz n W) L' ov = lfz (L.length - 1)) (ov : Nat → Bool) : vlz (Gz n W) L ov = vlz (Gz n W) L' ov := by
  obtain ⟨ov0, h1, h2⟩ := gd_ex hL ov
  exact skA_eq (nmz W) (vlz_sk hG hL) (vlz_sk hG hL') ov ov0 h2 (by rw [vlz_g h1, h ov0 h1])
end XTW5
