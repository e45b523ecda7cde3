/-! every move of a plane net makes plane nets: all kinds -/
theorem mt_self (k : Nat) : mt k ≠ k := by
  unfold mt
  split <;> omega
theorem six_ne {H0 H1 H2 x0 x1 x2 s0 s1 s2 w0 w1 w2 : Nat} (D01 : H0 / 2 ≠ H1 / 2) (D02 : H0 / 2 ≠ H2 / 2) (D12 : H1 / 2 ≠ H2 / 2) (m0 : x0 / 2 = H0 / 2) (m1 : x1 / 2 = H1 / 2) (m2 : x2 / 2 = H2 / 2) (n0 : x0 ≠ H0) (n1 : x1 ≠ H1) (n2 : x2 ≠ H2) (v0 : x2 = s0 ∧ H0 = w0 ∨ x2 = w0 ∧ H0 = s0) (v1 : x0 = s1 ∧ H1 = w1 ∨ x0 = w1 ∧ H1 = s1) (v2 : x1 = s2 ∧ H2 = w2 ∨ x1 = w2 ∧ H2 = s2) : s0 ≠ w0 ∧ s0 ≠ s1 ∧ s0 ≠ w1 ∧ s0 ≠ s2 ∧ s0 ≠ w2 ∧ w0 ≠ s1 ∧ w0 ≠ w1 ∧ w0 ≠ s2 ∧ w0 ≠ w2 ∧ s1 ≠ w1 ∧ s1 ≠ s2 ∧ s1 ≠ w2 ∧ w1 ≠ s2 ∧ w1 ≠ w2 ∧ s2 ≠ w2 := by
  have a1 : H0 ≠ H1 := fun e => D01 (by rw [e])
  have a2 : H0 ≠ H2 := fun e => D02 (by rw [e])
  have a3 : H1 ≠ H2 := fun e => D12 (by rw [e])
  have a4 : x0 ≠ x1 := fun e => D01 (by rw [← m0, ← m1, e])
  have a5 : x0 ≠ x2 := fun e => D02 (by rw [← m0, ← m2, e])
  have a6 : x1 ≠ x2 := fun e => D12 (by rw [← m1, ← m2, e])
  have a7 : H0 ≠ x1 := fun e => D01 (by rw [← m1, e])
  have a8 : H0 ≠ x2 := fun e => D02 (by rw [← m2, e])
  have a9 : H1 ≠ x0 := fun e => D01 (by rw [← m0, e])
  have b1 : H1 ≠ x2 := fun e => D12 (by rw [← m2, e])
  have b2 : H2 ≠ x0 := fun e => D02 (by rw [← m0, e])
  have b3 : H2 ≠ x1 := fun e => D12 (by rw [← m1, e])
  rcases v0 with ⟨rfl, rfl⟩ | ⟨rfl, rfl⟩ <;> rcases v1 with ⟨rfl, rfl⟩ | ⟨rfl, rfl⟩ <;> rcases v2 with ⟨rfl, rfl⟩ | ⟨rfl, rfl⟩ <;> (refine ⟨?_, ?_, ?_, ?_, ?_, ?_, ?_, ?_, ?_, ?_, ?_, ?_, ?_, ?_, ?_⟩ <;> first | assumption | (exact Ne.symm (by assumption)))
section PM2
variable {R : ow_NT}
theorem al_end {s : Nat} (hv : vn R.1 R.2.2.1) (hs : s < 4 * R.1) : pn_al R.2.2.1 (sdD R.2.2.1 s) = if s % 2 = 0 then 2 * fc_end R.2.2.1.1 s + 1 else 2 * fc_end R.2.2.1.1 s := by
  unfold sdD fc_end
  by_cases e : s % 2 = 0
  · rw [if_pos e, if_pos e, if_pos e]
    unfold pn_al
    rw [if_pos e]
  · rw [if_neg e, if_neg e, if_neg e, pn_al1, (hv (s / 2) (by omega)).2.2.1]
/-- the two visits of a side, as darts -/
theorem side_vw {s : Nat} (hv : vn R.1 R.2.2.1) (hs : s < 4 * R.1) : (s % 2 = 0 ∧ sdD R.2.2.1 s = 2 * (s / 2) ∧ pn_al R.2.2.1 (sdD R.2.2.1 s) = 2 * R.2.2.1.1 (s / 2) + 1) ∨ (s % 2 = 1 ∧ sdD R.2.2.1 s = 2 * R.2.2.1.1 (s / 2) + 1 ∧ pn_al R.2.2.1 (sdD R.2.2.1 s) = 2 * (s / 2)) := by
  rw [al_end hv hs]
  unfold sdD fc_end
  by_cases e : s % 2 = 0
  · rw [if_pos e, if_pos e, if_pos e]
    exact Or.inl ⟨e, by omega, rfl⟩
  · rw [if_neg e, if_neg e, if_neg e]
    exact Or.inr ⟨by omega, rfl, rfl⟩
theorem swap_3 {c : Nat} {S : ow_NP} {v0 w0 v1 w1 v2 w2 : Nat} (hv : vn c S) (l : v0 < 2 * c ∧ w0 < 2 * c ∧ v1 < 2 * c ∧ w1 < 2 * c ∧ v2 < 2 * c ∧ w2 < 2 * c) {k : Nat} (hk : k < 2 * c) : (np_swap (np_swap (np_swap S v0 w0) v1 w1) v2 w2).1 k = sw3 v0 w0 v1 w1 v2 w2 (S.1 (np_sw (np_sw (np_sw k v2 w2) v1 w1) v0 w0)) ∧ (np_swap (np_swap (np_swap S v0 w0) v1 w1) v2 w2).2 k = sw3 v0 w0 v1 w1 v2 w2 (S.2 (np_sw (np_sw (np_sw k v2 w2) v1 w1) v0 w0)) := by
  obtain ⟨l1, l2, l3, l4, l5, l6⟩ := l
  have h0 : vD (fun k => k < 2 * c) S := vD_vn.mpr hv
  have h1 := vD_swap h0 l1 l2
  have h2 := vD_swap h1 l3 l4
  have k2 : np_sw k v2 w2 < 2 * c := np_sw_D (D := fun k => k < 2 * c) l5 l6 hk
  have k1 : np_sw (np_sw k v2 w2) v1 w1 < 2 * c := np_sw_D (D := fun k => k < 2 * c) l3 l4 k2
  unfold sw3
  rw [np_swap_1 h2 l5 l6 hk, np_swap_1 h1 l3 l4 k2, np_swap_1 h0 l1 l2 k1, np_swap_2 h2 l5 l6 hk, np_swap_2 h1 l3 l4 k2, np_swap_2 h0 l1 l2 k1]
  exact ⟨rfl, rfl⟩
theorem pl_pass (hv : vn R.1 R.2.2.1) (hc : R.1 ≤ 12) (hp : nt_plane R = true) {s0 s1 s2 : Nat} (l0 : s0 < 4 * R.1) (e1 : fc_on R.2.2.1 R.2.2.2 s0 = s1) (e2 : fc_on R.2.2.1 R.2.2.2 s1 = s2) (e3 : fc_on R.2.2.1 R.2.2.2 s2 = s0) (d1 : fc_end R.2.2.1.1 s0 / 2 ≠ fc_end R.2.2.1.1 s1 / 2) (d2 : fc_end R.2.2.1.1 s1 / 2 ≠ fc_end R.2.2.1.1 s2 / 2) (d3 : fc_end R.2.2.1.1 s0 / 2 ≠ fc_end R.2.2.1.1 s2 / 2) : vn R.1 (np_swap (np_swap (np_swap R.2.2.1 (s0 / 2) (R.2.2.1.1 (s0 / 2))) (s1 / 2) (R.2.2.1.1 (s1 / 2))) (s2 / 2) (R.2.2.1.1 (s2 / 2))) ∧ pn_pl R.1 (np_swap (np_swap (np_swap R.2.2.1 (s0 / 2) (R.2.2.1.1 (s0 / 2))) (s1 / 2) (R.2.2.1.1 (s1 / 2))) (s2 / 2) (R.2.2.1.1 (s2 / 2))) (stG R.2.2.2) := by
  have hpl := (plane_iff hv hc).mp hp
  have l1 : s1 < 4 * R.1 := by rw [← e1]; exact fc_on_vn hv _ l0
  have l2 : s2 < 4 * R.1 := by rw [← e2]; exact fc_on_vn hv _ l1
  have hvl : ∀ s, s < 4 * R.1 → R.2.2.1.1 (s / 2) < 2 * R.1 := fun s hs => (hv _ (by omega)).1
  have a0 := hvl s0 l0
  have a1 := hvl s1 l1
  have a2 := hvl s2 l2
  have hvS : vn R.1 (np_swap (np_swap (np_swap R.2.2.1 (s0 / 2) (R.2.2.1.1 (s0 / 2))) (s1 / 2) (R.2.2.1.1 (s1 / 2))) (s2 / 2) (R.2.2.1.1 (s2 / 2))) := vD_vn.mp (vD_swap (vD_swap (vD_swap (vD_vn.mpr hv) (show s0 / 2 < 2 * R.1 by omega) a0) (show s1 / 2 < 2 * R.1 by omega) a1) (show s2 / 2 < 2 * R.1 by omega) a2)
  refine ⟨hvS, ?_⟩
  -- the darts
  let sd : Nat → Nat := fun i => if i = 0 then s0 else if i = 1 then s1 else s2
  have sdl : ∀ i, sd i < 4 * R.1 := fun i => by
    show (if i = 0 then s0 else if i = 1 then s1 else s2) < 4 * R.1
    split
    · exact l0
    · split
      · exact l1
      · exact l2
  have son : ∀ i, i < 3 → fc_on R.2.2.1 R.2.2.2 (sd i) = sd ((i + 1) % 3) := fun i hi => by
    rcases (show i = 0 ∨ i = 1 ∨ i = 2 by omega) with rfl | rfl | rfl
    · exact e1
    · exact e2
    · exact e3
  have sdis : ∀ i j, i < 3 → j < 3 → i ≠ j → fc_end R.2.2.1.1 (sd i) / 2 ≠ fc_end R.2.2.1.1 (sd j) / 2 := fun i j hi hj hne => by
    rcases (show i = 0 ∨ i = 1 ∨ i = 2 by omega) with rfl | rfl | rfl <;> rcases (show j = 0 ∨ j = 1 ∨ j = 2 by omega) with rfl | rfl | rfl
    · exact absurd rfl hne
    · exact d1
    · exact d3
    · exact fun e => d1 e.symm
    · exact absurd rfl hne
    · exact d2
    · exact fun e => d3 e.symm
    · exact fun e => d2 e.symm
    · exact absurd rfl hne
  let g : Nat → Nat := fun i => sdD R.2.2.1 (sd i)
  let h : Nat → Nat := fun i => pn_al R.2.2.1 (g i)
  have hq : ∀ i, h i / 2 = fc_end R.2.2.1.1 (sd i) := fun i => by
    show pn_al R.2.2.1 (sdD R.2.2.1 (sd i)) / 2 = _
    rw [al_end hv (sdl i)]
    split <;> omega
  have hg : ∀ i, i < 3 → pn_rt (stG R.2.2.2) (h i) = g ((i + 1) % 3) := fun i hi => by
    have := sd_on (G := R.2.2.2) hv (sdl i)
    rw [son i hi] at this
    exact this.symm
  have dis : ∀ i j, i < 3 → j < 3 → i ≠ j → h i / 4 ≠ h j / 4 := fun i j hi hj hne e => sdis i j hi hj hne (by rw [← hq i, ← hq j]; omega)
  have gv : ∀ i, i < 3 → g ((i + 1) % 3) / 2 = mt (h i / 2) := fun i hi => by rw [← hg i hi, pn_rt_h]
  -- the six visits differ
  have V : ∀ i, g i / 2 = sd i / 2 ∧ h i / 2 = R.2.2.1.1 (sd i / 2) ∨ g i / 2 = R.2.2.1.1 (sd i / 2) ∧ h i / 2 = sd i / 2 := fun i => by
    rcases side_vw hv (sdl i) with ⟨-, q1, q2⟩ | ⟨-, q1, q2⟩
    · left
      show sdD R.2.2.1 (sd i) / 2 = _ ∧ pn_al R.2.2.1 (sdD R.2.2.1 (sd i)) / 2 = _
      rw [q2, q1]
      omega
    · right
      show sdD R.2.2.1 (sd i) / 2 = _ ∧ pn_al R.2.2.1 (sdD R.2.2.1 (sd i)) / 2 = _
      rw [q2, q1]
      omega
  have g1 := gv 0 (by omega)
  have g2 := gv 1 (by omega)
  have g0 := gv 2 (by omega)
  have g1 : g 1 / 2 = mt (h 0 / 2) := g1
  have g2 : g 2 / 2 = mt (h 1 / 2) := g2
  have g0 : g 0 / 2 = mt (h 2 / 2) := g0
  have D01 := dis 0 1 (by omega) (by omega) (by omega)
  have D02 := dis 0 2 (by omega) (by omega) (by omega)
  have D12 := dis 1 2 (by omega) (by omega) (by omega)
  have m0 := mtd (h 0 / 2)
  have m1 := mtd (h 1 / 2)
  have m2 := mtd (h 2 / 2)
  have v0 := V 0
  have v1 := V 1
  have v2 := V 2
  have hd : s0 / 2 ≠ R.2.2.1.1 (s0 / 2) ∧ s0 / 2 ≠ s1 / 2 ∧ s0 / 2 ≠ R.2.2.1.1 (s1 / 2) ∧ s0 / 2 ≠ s2 / 2 ∧ s0 / 2 ≠ R.2.2.1.1 (s2 / 2) ∧ R.2.2.1.1 (s0 / 2) ≠ s1 / 2 ∧ R.2.2.1.1 (s0 / 2) ≠ R.2.2.1.1 (s1 / 2) ∧ R.2.2.1.1 (s0 / 2) ≠ s2 / 2 ∧ R.2.2.1.1 (s0 / 2) ≠ R.2.2.1.1 (s2 / 2) ∧ s1 / 2 ≠ R.2.2.1.1 (s1 / 2) ∧ s1 / 2 ≠ s2 / 2 ∧ s1 / 2 ≠ R.2.2.1.1 (s2 / 2) ∧ R.2.2.1.1 (s1 / 2) ≠ s2 / 2 ∧ R.2.2.1.1 (s1 / 2) ≠ R.2.2.1.1 (s2 / 2) ∧ s2 / 2 ≠ R.2.2.1.1 (s2 / 2) := by
    have v0 : g 0 / 2 = s0 / 2 ∧ h 0 / 2 = R.2.2.1.1 (s0 / 2) ∨ g 0 / 2 = R.2.2.1.1 (s0 / 2) ∧ h 0 / 2 = s0 / 2 := v0
    have v1 : g 1 / 2 = s1 / 2 ∧ h 1 / 2 = R.2.2.1.1 (s1 / 2) ∨ g 1 / 2 = R.2.2.1.1 (s1 / 2) ∧ h 1 / 2 = s1 / 2 := v1
    have v2 : g 2 / 2 = s2 / 2 ∧ h 2 / 2 = R.2.2.1.1 (s2 / 2) ∨ g 2 / 2 = R.2.2.1.1 (s2 / 2) ∧ h 2 / 2 = s2 / 2 := v2
    rw [g0] at v0
    rw [g1] at v1
    rw [g2] at v2
    have E9 : ∀ {x y : Nat}, x / 4 ≠ y / 4 → x / 2 / 2 ≠ y / 2 / 2 := fun h9 e9 => h9 (by rw [Nat.div_div_eq_div_mul, Nat.div_div_eq_div_mul] at e9; exact e9)
    exact six_ne (E9 D01) (E9 D02) (E9 D12) m0.1 m1.1 m2.1 (mt_self _) (mt_self _) (mt_self _) v0 v1 v2
  clear v0 v1 v2 D01 D02 D12 m0 m1 m2 g0 g1 g2
  have W := sw3_at hd
  let tv : Nat → Nat := sw3 (s0 / 2) (R.2.2.1.1 (s0 / 2)) (s1 / 2) (R.2.2.1.1 (s1 / 2)) (s2 / 2) (R.2.2.1.1 (s2 / 2))
  have tvi : ∀ k, np_sw (np_sw (np_sw k (s2 / 2) (R.2.2.1.1 (s2 / 2))) (s1 / 2) (R.2.2.1.1 (s1 / 2))) (s0 / 2) (R.2.2.1.1 (s0 / 2)) = tv k := fun k => (W k).2.trans (W k).1.symm
  have tvtv : ∀ k, tv (tv k) = k := fun k => by
    rw [← tvi (tv k)]
    show np_sw (np_sw (np_sw (np_sw (np_sw (np_sw k _ _) _ _) _ _) _ _) _ _) _ _ = k
    rw [np_sw_i, np_sw_i, np_sw_i]
  have tsd : ∀ i, i < 3 → tv (sd i / 2) = R.2.2.1.1 (sd i / 2) ∧ tv (R.2.2.1.1 (sd i / 2)) = sd i / 2 := fun i hi => by
    have one : tv (sd i / 2) = R.2.2.1.1 (sd i / 2) := by
      obtain ⟨h1, h2, h3, h4, h5, h6, h7, h8, h9, h10, h11, h12, h13, h14, h15⟩ := hd
      rcases (show i = 0 ∨ i = 1 ∨ i = 2 by omega) with rfl | rfl | rfl
      · show sw3 _ _ _ _ _ _ (s0 / 2) = _
        rw [(W _).1, if_pos rfl]
        rfl
      · show sw3 _ _ _ _ _ _ (s1 / 2) = _
        rw [(W _).1, if_neg (fun e => h2 e.symm), if_neg (fun e => h6 e.symm), if_pos rfl]
        rfl
      · show sw3 _ _ _ _ _ _ (s2 / 2) = _
        rw [(W _).1, if_neg (fun e => h4 e.symm), if_neg (fun e => h8 e.symm), if_neg (fun e => h11 e.symm), if_neg (fun e => h13 e.symm), if_pos rfl]
        rfl
    refine ⟨one, ?_⟩
    rw [← one, tvtv]
  clear hd
  have tfar : ∀ k, (∀ i, i < 3 → k ≠ sd i / 2 ∧ k ≠ R.2.2.1.1 (sd i / 2)) → tv k = k := fun k hk => by
    have k0 : k ≠ s0 / 2 ∧ k ≠ R.2.2.1.1 (s0 / 2) := hk 0 (by omega)
    have k1 : k ≠ s1 / 2 ∧ k ≠ R.2.2.1.1 (s1 / 2) := hk 1 (by omega)
    have k2 : k ≠ s2 / 2 ∧ k ≠ R.2.2.1.1 (s2 / 2) := hk 2 (by omega)
    show sw3 _ _ _ _ _ _ k = k
    rw [(W k).1, if_neg k0.1, if_neg k0.2, if_neg k1.1, if_neg k1.2, if_neg k2.1, if_neg k2.2]
  have tlt : ∀ k, k < 2 * R.1 → tv k < 2 * R.1 := fun k hk => by
    show sw3 _ _ _ _ _ _ k < _
    unfold sw3
    exact np_sw_D (D := fun k => k < 2 * R.1) (by omega) a2 (np_sw_D (D := fun k => k < 2 * R.1) (by omega) a1 (np_sw_D (D := fun k => k < 2 * R.1) (by omega) a0 hk))
  refine pl_three (g := g) (h := h) (τ := dM tv) hv hvS stG_fl hpl (fun i _ => sdD_lt hv (sdl i)) (fun i _ => rfl) hg dis (fun d => ?_) (fun i hi => ?_) (fun i hi => ?_) (fun d hfar => ?_) (fun d hdl => ?_) (fun d hdl => ?_)
  · have := dM_h tv d
    unfold dM at this ⊢
    rw [this.1, this.2, tvtv]
    omega
  · obtain ⟨t1, t2⟩ := tsd i hi
    rcases side_vw hv (sdl i) with ⟨-, q1, q2⟩ | ⟨-, q1, q2⟩
    · show dM tv (sdD R.2.2.1 (sd i)) = mt (pn_al R.2.2.1 (sdD R.2.2.1 (sd i)))
      rw [q2, q1, mt_od]
      unfold dM
      rw [show 2 * (sd i / 2) / 2 = sd i / 2 by omega, t1]
      omega
    · show dM tv (sdD R.2.2.1 (sd i)) = mt (pn_al R.2.2.1 (sdD R.2.2.1 (sd i)))
      rw [q2, q1, mt_ev]
      unfold dM
      rw [show (2 * R.2.2.1.1 (sd i / 2) + 1) / 2 = R.2.2.1.1 (sd i / 2) by omega, t2]
      omega
  · obtain ⟨t1, t2⟩ := tsd i hi
    rcases side_vw hv (sdl i) with ⟨-, q1, q2⟩ | ⟨-, q1, q2⟩
    · show dM tv (pn_al R.2.2.1 (sdD R.2.2.1 (sd i))) = mt (sdD R.2.2.1 (sd i))
      rw [q2, q1, mt_ev]
      unfold dM
      rw [show (2 * R.2.2.1.1 (sd i / 2) + 1) / 2 = R.2.2.1.1 (sd i / 2) by omega, t2]
      omega
    · show dM tv (pn_al R.2.2.1 (sdD R.2.2.1 (sd i))) = mt (sdD R.2.2.1 (sd i))
      rw [q2, q1, mt_od]
      unfold dM
      rw [show 2 * (sd i / 2) / 2 = sd i / 2 by omega, t1]
      omega
  · unfold dM
    rw [tfar (d / 2) (fun i hi => ?_)]
    · omega
    · have hf := hfar i hi
      rcases V i with ⟨q1, q2⟩ | ⟨q1, q2⟩
      · rw [q1, q2] at hf
        exact hf
      · rw [q1, q2] at hf
        exact ⟨hf.2, hf.1⟩
  · have := tlt (d / 2) (by omega)
    have h2 := dM_h tv d
    omega
  · have hk : d / 2 < 2 * R.1 := by omega
    obtain ⟨s1, s2⟩ := swap_3 (v0 := s0 / 2) (w0 := R.2.2.1.1 (s0 / 2)) (v1 := s1 / 2) (w1 := R.2.2.1.1 (s1 / 2)) (v2 := s2 / 2) (w2 := R.2.2.1.1 (s2 / 2)) hv ⟨by omega, a0, by omega, a1, by omega, a2⟩ hk
    rw [tvi] at s1 s2
    have q := dM_h tv d
    by_cases e : d % 2 = 0
    · unfold pn_al
      rw [if_pos e, q.1, q.2, if_pos e, s1]
      unfold dM
      rw [show (2 * R.2.2.1.1 (tv (d / 2)) + 1) / 2 = R.2.2.1.1 (tv (d / 2)) by omega]
      show 2 * tv _ + 1 = 2 * tv _ + _
      omega
    · unfold pn_al
      rw [if_neg e, q.1, q.2, if_neg e, s2]
      unfold dM
      rw [show 2 * R.2.2.1.2 (tv (d / 2)) / 2 = R.2.2.1.2 (tv (d / 2)) by omega]
      show 2 * tv _ = 2 * tv _ + _
      omega
end PM2
