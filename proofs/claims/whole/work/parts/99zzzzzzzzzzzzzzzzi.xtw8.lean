/-! two: two letters that undo each other -/
def swz (x y z : Nat) : Nat := if z = x then y else if z = y then x else z
theorem swz_1 (x y : Nat) : swz x y x = y := if_pos rfl
theorem swz_2 (x y : Nat) : swz x y y = x := by
  unfold swz
  by_cases h : y = x
  · rw [if_pos h, h]
  · rw [if_neg h, if_pos rfl]
theorem swz_o {x y z : Nat} (h1 : z ≠ x) (h2 : z ≠ y) : swz x y z = z := by
  unfold swz
  rw [if_neg h1, if_neg h2]
theorem swz_i (x y z : Nat) : swz x y (swz x y z) = z := by
  by_cases h1 : z = x
  · rw [h1, swz_1, swz_2]
  · by_cases h2 : z = y
    · rw [h2, swz_2, swz_1]
    · rw [swz_o h1 h2, swz_o h1 h2]
section XTW8
variable {n g x y : Nat} {W A B : wd9} {L L' P Q M : List (List tk9)}
theorem rnW_n : ∀ {W : wd9}, x ∉ nmz W → y ∉ nmz W → rnW (swz x y) W = W
  | [], _, _ => rfl
  | l :: W, h1, h2 => by
    have a1 : l.2 ≠ x := fun h9 => h1 (by rw [← h9]; exact List.mem_cons_self)
    have a2 : l.2 ≠ y := fun h9 => h2 (by rw [← h9]; exact List.mem_cons_self)
    have ih := rnW_n (W := W) (fun h9 => h1 (List.mem_cons_of_mem _ h9)) (fun h9 => h2 (List.mem_cons_of_mem _ h9))
    show (l.1, swz x y l.2) :: rnW (swz x y) W = l :: W
    rw [ih, swz_o a1 a2]
/-- the skein relation holds for every word -/
theorem sk_all : ∀ (k : Nat) (W : wd9), W.length = k → okw n W → (∃ L, orz n W L) → okz (nmz W) (Gz n W)
  | 0, W, hk, ho, ⟨L, hL⟩ => okz_W ho hL (fun x hx => by rw [nm_0 hk] at hx; exact absurd hx List.not_mem_nil)
  | k + 1, W, hk, ho, ⟨L, hL⟩ => okz_W ho hL (fun x hx => by
    obtain ⟨L', hL'⟩ := orz_dl ho hL hx
    exact SkZ_of (ok_dl ho) hL' (sk_all k (dlz x W) (by have := len_dl ho hx; omega) (ok_dl ho) ⟨L', hL'⟩))
theorem sk_W (ho : okw n W) (hL : orz n W L) : okz (nmz W) (Gz n W) := sk_all _ W rfl ho ⟨L, hL⟩
theorem sk_F (ho : okw n W) (hL : orz n W L) : SkZ n W := SkZ_of ho hL (sk_W ho hL)
theorem sl_nil (h : orz n W L) (hx : x ∉ nmz W) : ∀ q, q ∈ L.flatten → q.2 = 2 ∨ q.1 ≠ x := fun q hq => by
  rcases (h.2.2 q).mp hq with ⟨h1, -⟩ | ⟨-, h1⟩
  · exact Or.inl h1
  · exact Or.inr (fun h9 => hx (by rw [← h9]; exact h1))
theorem not_dec {b : Bool} {i : Nat} (hi : i < 2) (h : b ≠ decide (i = 1)) : b = decide (1 - i = 1) := by
  rcases (show i = 0 ∨ i = 1 by omega) with rfl | rfl
  · cases b
    · exact absurd rfl h
    · rfl
  · cases b
    · rfl
    · exact absurd rfl h
theorem r2_core {i : Nat} (hi : i < 2) (hxy : x ≠ y) (ho : okw n W) (ho' : okw n (B ++ A)) (hx : x ∈ nmz W) (hy : y ∈ nmz W) (hx' : x ∉ nmz (B ++ A)) (hy' : y ∉ nmz (B ++ A)) (hS : ∀ z, z ∈ nmz (B ++ A) → z ∈ nmz W) (hL : orz n W L) (hL' : orz n (B ++ A) L') (hP : PhZ n (B ++ A)) (hl : L.length = L'.length) (hs : ∀ z, z ≠ x → z ≠ y → slz z L.flatten = slz z L'.flatten) (fx : (slz x L.flatten).head? = some (x, i)) (fy : (slz y L.flatten).head? = some (y, 1 - i)) (hz : ∀ z, z ∈ nmz (B ++ A) → ∀ ov : Nat → Bool, ov x ≠ ov y → Fz n (dlz z W) ov = Fz n (dlz z (B ++ A)) ov) (hr : ∀ ov : Nat → Bool, ov x ≠ ov y → Fz n (dlz x W) ov = Fz n (dlz y W) (flz ov x)) (ov : Nat → Bool) (hov : ov x ≠ ov y) : vlz (Gz n W) L ov = Fz n (B ++ A) ov := by
  have hG := sk_W ho hL
  have hsk := vlz_sk hG hL
  obtain ⟨ov0, g0, e0⟩ := gd_ex hL' ov
  have r0 : ov0 x ≠ ov0 y := by
    rw [← e0 x hx', ← e0 y hy']
    exact hov
  have gd : ∀ o : Nat → Bool, (∀ z, z ≠ x → z ≠ y → o z = ov0 z) → o x = decide (i = 1) → o y = decide (1 - i = 1) → gdz L o := fun o h1 h2 h3 => gd_of (fun z j hj => by
    by_cases zx : z = x
    · subst zx
      rw [fx] at hj
      rw [← (Prod.mk.inj (Option.some.inj hj)).2]
      exact h2
    · by_cases zy : z = y
      · subst zy
        rw [fy] at hj
        rw [← (Prod.mk.inj (Option.some.inj hj)).2]
        exact h3
      · rw [h1 z zx zy]
        exact gd_at g0 (by rw [← hs z zx zy]; exact hj))
  have opp : ∀ o : Nat → Bool, o x ≠ o y → o x = decide (i = 1) → o y = decide (1 - i = 1) := fun o h1 h2 => not_dec hi (by rw [← h2]; exact Ne.symm h1)
  refine skR_eq (R := fun ov => ov x ≠ ov y) (G := fun z ov => Fz n (dlz z (B ++ A)) ov) (nmz (B ++ A)) (fun o z hR hz9 => ?_) (fun o z hR hz9 => ?_) (fun o z hR hz9 => ?_) ov ov0 r0 e0 ?_
  · show flz o z x ≠ flz o z y
    rw [flz_ot (fun h9 => hx' (by rw [h9]; exact hz9)), flz_ot (fun h9 => hy' (by rw [h9]; exact hz9))]
    exact hR
  · have := hsk o z (hS z hz9)
    rw [show Gz n W z o = Fz n (dlz z W) o from rfl, hz z hz9 o hR] at this
    exact this
  · exact sk_F ho' hL' o z hz9
  · have e1 : Fz n (B ++ A) ov0 = lfz (L.length - 1) := by
      rw [← hP L' ov0 hL', vlz_g g0, hl]
    rw [e1]
    by_cases c : ov0 x = decide (i = 1)
    · exact vlz_g (gd ov0 (fun _ _ _ => rfl) c (opp ov0 r0 c))
    · have cx : ov0 x = !decide (i = 1) := by
        revert c
        cases ov0 x <;> cases decide (i = 1) <;> decide
      have cy : ov0 y = decide (i = 1) := by
        revert r0 cx
        cases ov0 x <;> cases ov0 y <;> cases decide (i = 1) <;> decide
      have s1 := hsk ov0 x hx
      have s2 := hsk (flz ov0 x) y hy
      have ex : flz (flz ov0 x) y x = decide (i = 1) := by
        rw [flz_ot hxy, flz_at, cx, Bool.not_not]
      have ey : flz (flz ov0 x) y y = decide (1 - i = 1) := by
        rw [flz_at, flz_ot (Ne.symm hxy), cy]
        rcases (show i = 0 ∨ i = 1 by omega) with rfl | rfl
        · rfl
        · rfl
      have g2 := vlz_g (G := Gz n W) (gd (flz (flz ov0 x) y) (fun z h1 h2 => by rw [flz_ot h2, flz_ot h1]) ex ey)
      rw [s1, s2, g2, show Gz n W x ov0 = Fz n (dlz x W) ov0 from rfl, show Gz n W y (flz ov0 x) = Fz n (dlz y W) (flz ov0 x) from rfl, hr ov0 r0, flz_ot (Ne.symm hxy), show ov0 y = !ov0 x from by rw [cx, cy, Bool.not_not]]
      exact skz_bk _ _ _
/-- the letters x, y side by side at one place -/
theorem s2_adj (h : okw n (B ++ (g, y) :: (g, x) :: A)) : x ≠ y ∧ x ∉ nmz A ∧ y ∉ nmz A ∧ x ∉ nmz B ∧ y ∉ nmz B := by
  obtain ⟨h1, h2, h3⟩ := okw_d h
  have e : B ++ (g, x) :: A = B ++ (g, x) :: A := rfl
  obtain ⟨k1, k2, -⟩ := okw_d h3
  exact ⟨fun h9 => h1 (by rw [← h9]; exact List.mem_cons_self), k1, fun h9 => h1 (List.mem_cons_of_mem _ h9), k2, h2⟩
theorem s2_st {i : Nat} (hi : i < 2) (hxy : x ≠ y) : ∀ {B : wd9}, x ∉ nmz B → sgm (B ++ (g, y) :: (g, x) :: A) (x, i) = (y, 1 - i)
  | [], _ => by
    show sgm ((g, y) :: (g, x) :: A) (x, i) = _
    rw [sgm_o (fun h9 => hxy (Prod.mk.inj h9).1) (fun h9 => hxy (Prod.mk.inj h9).1)]
    rcases (show i = 0 ∨ i = 1 by omega) with rfl | rfl
    · rw [show sgm ((g, x) :: A) (x, 0) = (g, 2) from sgm_0 (l := (g, x))]
      exact thz_1 g y
    · rw [show sgm ((g, x) :: A) (x, 1) = (g + 1, 2) from sgm_1 (l := (g, x))]
      exact thz_0 g y
  | l :: B, hx => by
    have hl : x ≠ l.2 := fun h9 => hx (by rw [h9]; exact List.mem_cons_self)
    show sgm (l :: (B ++ (g, y) :: (g, x) :: A)) (x, i) = _
    rw [sgm_o (fun h9 => hl (Prod.mk.inj h9).1) (fun h9 => hl (Prod.mk.inj h9).1), s2_st hi hxy (fun h9 => hx (List.mem_cons_of_mem _ h9))]
    exact thz_v (show 1 - i ≠ 2 by omega)
end XTW8
