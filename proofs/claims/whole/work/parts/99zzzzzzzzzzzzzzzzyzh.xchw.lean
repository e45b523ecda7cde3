-- CHAIN: the class's kept rows, exactly
def rs9 (cl vv : Nat → Nat) (a n j : Nat) : Int := sN9 (fun i => if cl (a + i) = j then (vv (a + i) : Int) else 0) n
def kx9 (z : ow_MS) (p w u : Nat) (cl vv : Nat → Nat) (d : Nat → vc9) : Prop := (∀ i, i < u → z.2.1 43015 i = nI (cl i) ∧ cl i < w ∧ z.2.1 43016 i = nI (vv i) ∧ vv i < p) ∧ ∀ c, c < w → (z.2.1 43012 c = -1 ∧ ∀ j, j < w → (p : Int) ∣ d c j) ∨ ∃ a b, z.2.1 43012 c = nI a ∧ a < 2 ^ 31 ∧ z.2.1 43013 c = nI b ∧ a ≤ b ∧ b ≤ u ∧ (∀ j, j < w → (p : Int) ∣ rs9 cl vv a (b - a) j - d c j) ∧ (p : Int) ∣ d c c - 1
section XCJ4
variable {vl : Nat → Nat} {y : ow_MS} {W C : Nat}
theorem rs_cg {cl vv cl' vv' : Nat → Nat} {a j : Nat} : ∀ {n : Nat}, (∀ i, i < a + n → cl' i = cl i ∧ vv' i = vv i) → rs9 cl' vv' a n j = rs9 cl vv a n j
  | 0, _ => rfl
  | n + 1, h => by
    have ih := rs_cg (a := a) (j := j) (n := n) (fun i hi => h i (by omega))
    show rs9 cl' vv' a n j + (if cl' (a + n) = j then (vv' (a + n) : Int) else 0) = rs9 cl vv a n j + (if cl (a + n) = j then (vv (a + n) : Int) else 0)
    rw [ih, (h (a + n) (by omega)).1, (h (a + n) (by omega)).2]
theorem rs_s {cl vv : Nat → Nat} {a j n : Nat} : rs9 cl vv a (n + 1) j = rs9 cl vv a n j + (if cl (a + n) = j then (vv (a + n) : Int) else 0) := rfl
theorem kx_fr {P : Nat → Prop} {z z1 : ow_MS} {p w u : Nat} {cl vv : Nat → Nat} {d : Nat → vc9} (hf : fr P z z1) (hP : ¬ P 43012 ∧ ¬ P 43013 ∧ ¬ P 43015 ∧ ¬ P 43016) (h : kx9 z p w u cl vv d) : kx9 z1 p w u cl vv d := by
  unfold kx9
  rw [(hf _ hP.1).2.1, (hf _ hP.2.1).2.1, (hf _ hP.2.2.1).2.1, (hf _ hP.2.2.2).2.1]
  exact h
theorem te_keepRow {f w u p a : Nat} {cl vv : Nat → Nat} {d9 : Nat → vc9} {v : vc9} (hv : vI vl W C) (hw : w ≤ 1140) (hwW : w ≤ W) (hf : f < w) (hI : rI y w u C) (hnf : y.2.1 43012 f = -1) (h10 : y.1 43010 = nI p) (hp : prT p) (hp2 : p ≤ 997) (hx : kx9 y p w u cl vv d9) (hk : wk9 y p w v) (hz0 : ∀ j, j < f → y.2.1 43011 j = 0) (ha : y.2.1 43011 f = nI a) (ha1 : 1 ≤ a) (ha2 : a < p) : Te (fun K => de_X1_keepRow K 43000 (nI f) (nI w) vl y) (gQ vl (fun r => fr kpG y r.2.2 ∧ ∃ C' u' cl' vv' t, vI r.2.1 W C' ∧ rI r.2.2 w u' C' ∧ a * t % p = 1 ∧ kx9 r.2.2 p w u' cl' vv' (fun j => if j = f then (fun i => (t : Int) * v i) else d9 j) ∧ ∀ j, j < w → r.2.2.2.1 43011 j = 0)) := by
  have hp1 := hp.1
  let Q : Unit × (Nat → Nat) × ow_MS → Prop := fun r => fr kpG y r.2.2 ∧ ∃ C' u' cl' vv' t, vI r.2.1 W C' ∧ rI r.2.2 w u' C' ∧ a * t % p = 1 ∧ kx9 r.2.2 p w u' cl' vv' (fun j => if j = f then (fun i => (t : Int) * v i) else d9 j) ∧ ∀ j, j < w → r.2.2.2.1 43011 j = 0
  obtain ⟨i1, i2, i3, i4, i5⟩ := hI
  obtain ⟨x1, x2⟩ := hx
  have hnz : nI p ≠ 0 := fun h9 => by
    have := (nI_eq (a := p) (b := 0) (by omega) (by omega)).mp h9
    omega
  have hsu := suR_le (y.2.1 43012) w w (Nat.le_refl _)
  have hww : w * (w + 1) ≤ 1300740 := Nat.mul_le_mul hw (show w + 1 ≤ 1141 by omega)
  have hu : u ≤ 650370 := by omega
  have v0 : ∀ j, j < f → (p : Int) ∣ v j := fun j hj => by
    obtain ⟨b, b1, b2, b3⟩ := hk j (by omega)
    rw [hz0 j hj] at b1
    have : 0 = b := (nI_eq (a := 0) (b := b) (by omega) (by omega)).mp b1
    rw [← this] at b3
    have := Int.dvd_neg.mpr b3
    rw [show -(((0 : Nat) : Int) - v j) = v j by omega] at this
    exact this
  have vf : ∀ t, a * t % p = 1 → (p : Int) ∣ (t : Int) * v f - 1 := fun t ht => by
    obtain ⟨b, b1, b2, b3⟩ := hk f hf
    rw [ha] at b1
    have e : a = b := (nI_eq (a := a) (b := b) (by omega) (by omega)).mp b1
    rw [← e] at b3
    have h1 := dvr9 (t : Int) b3
    have h2 : (p : Int) ∣ ((a * t : Nat) : Int) - ((1 : Nat) : Int) := dv_md (by rw [ht, Nat.mod_eq_of_lt (by omega)])
    have := Int.dvd_sub h2 h1
    rw [Int.natCast_mul, Int.mul_sub, Int.mul_comm (t : Int) a, show (a : Int) * t - ((1 : Nat) : Int) - ((a : Int) * t - (t : Int) * v f) = (t : Int) * v f - 1 by omega] at this
    exact this
  -- from the second label on
  have tl0 : ∀ (lv : Nat → Nat) (z : ow_MS) (C' : Nat), dPhi vl ≤ dPhi lv → vI lv W C' → u + w - f ≤ C' → fr kpG y z → z.1 43017 = nI u → (z.2.1 43012 = y.2.1 43012) → (z.2.1 43013 = y.2.1 43013) → (∀ i, i < u → z.2.1 43015 i = y.2.1 43015 i) → (∀ i, i < u → z.2.1 43016 i = y.2.1 43016 i) → z.2.1 43011 = y.2.1 43011 → Tt (fun K k => d_X1_keepRow K k 1 (nI f) (nI w) 0 0 43000 lv z) (gQ lv Q) := by
    intro lv z C' hphi hv' hroom hz g17a e12 e13 e15 e16 e11
    obtain ⟨h1, h2, h3, h4, h5, h6, h7, h8, h9, h0⟩ := hv'
    have lp0 : ∀ (t : Nat), t < p → a * t % p = 1 → ∀ (d c u' : Nat) (cl' vv' : Nat → Nat) (z1 : ow_MS), c + d = w → f ≤ c → u' ≤ u + (c - f) → u ≤ u' → fr kpG y z1 → z1.1 43017 = nI u' → (z1.2.1 43012 f = nI u ∧ ∀ j, j ≠ f → z1.2.1 43012 j = y.2.1 43012 j) → (z1.2.1 43013 = y.2.1 43013) → (∀ i, i < u' → z1.2.1 43015 i = nI (cl' i) ∧ cl' i < w ∧ z1.2.1 43016 i = nI (vv' i) ∧ vv' i < p) → (∀ i, i < u → cl' i = cl i ∧ vv' i = vv i) → (∀ j, j < w → (p : Int) ∣ rs9 cl' vv' u (u' - u) j - (if f ≤ j ∧ j < c then (t : Int) * v j else 0)) → (∀ j, j < c → z1.2.1 43011 j = 0) → (∀ j, c ≤ j → j < w → z1.2.1 43011 j = y.2.1 43011 j) → Tt (fun K k => d_X1_keepRow K k 2 (nI f) (nI w) (nI t) (nI c) 43000 lv z1) (gQ lv Q) := by
      intro t ht hat d
      induction d with
      | zero =>
        intro c u' cl' vv' z1 hc hfc hu1 hu2 hz1 g17 g12 g13 g15 gold grs gz gw
        refine u_X1_keepRow_2 ?_; unfold dm_X1_keepRow_2
        refine w_leT (a := w) (b := c) (by omega) (by omega) (w_rdF g17 (w_ctI (ch_43013.trans h3) rfl (by omega) (w_some ⟨Nat.le_refl _, fr_I2 hz1 (Or.inr (Or.inr (Or.inl rfl))), C', u', cl', vv', t, ⟨h1, h2, h3, h4, h5, h6, h7, h8, h9, h0⟩, ⟨g17, ?_, by omega, ?_, ?_⟩, hat, ⟨?_, ?_⟩, ?_⟩)))
        · show u' ≤ suR ((usI z1 43013 f (nI u')).2.1 43012) w w
          rw [po_usI_ot (show 43012 ≠ 43013 by omega), suR_set (f := y.2.1 43012) (k := f) hnf (by rw [g12.1]; exact rn_neg1 (by omega)) g12.2, if_pos hf]
          omega
        · intro c1 hc1
          show (usI z1 43013 f (nI u')).2.1 43012 c1 = -1 ∨ ∃ a b, (usI z1 43013 f (nI u')).2.1 43012 c1 = nI a ∧ a < 2 ^ 31 ∧ (usI z1 43013 f (nI u')).2.1 43013 c1 = nI b ∧ b ≤ u'
          rw [po_usI_ot (show 43012 ≠ 43013 by omega)]
          by_cases e : c1 = f
          · subst e
            exact Or.inr ⟨u, u', g12.1, by omega, po_usI_at, Nat.le_refl _⟩
          · rw [g12.2 c1 e, po_usI_ne e, g13]
            rcases i4 c1 hc1 with h | ⟨a, b, q1, q2, q3, q4⟩
            · exact Or.inl h
            · exact Or.inr ⟨a, b, q1, q2, q3, by omega⟩
        · intro i hi
          exact ⟨cl' i, rd_ot (by omega) (g15 i hi).1, (g15 i hi).2.1⟩
        · intro i hi
          exact ⟨rd_ot (by omega) (g15 i hi).1, (g15 i hi).2.1, rd_ot (by omega) (g15 i hi).2.2.1, (g15 i hi).2.2.2⟩
        · intro c1 hc1
          show ((usI z1 43013 f (nI u')).2.1 43012 c1 = -1 ∧ ∀ j, j < w → (p : Int) ∣ (if c1 = f then (fun i => (t : Int) * v i) else d9 c1) j) ∨ ∃ a b, (usI z1 43013 f (nI u')).2.1 43012 c1 = nI a ∧ a < 2 ^ 31 ∧ (usI z1 43013 f (nI u')).2.1 43013 c1 = nI b ∧ a ≤ b ∧ b ≤ u' ∧ (∀ j, j < w → (p : Int) ∣ rs9 cl' vv' a (b - a) j - (if c1 = f then (fun i => (t : Int) * v i) else d9 c1) j) ∧ (p : Int) ∣ (if c1 = f then (fun i => (t : Int) * v i) else d9 c1) c1 - 1
          rw [po_usI_ot (show 43012 ≠ 43013 by omega)]
          by_cases e : c1 = f
          · subst e
            rw [if_pos rfl]
            refine Or.inr ⟨u, u', g12.1, by omega, po_usI_at, hu2, Nat.le_refl _, fun j hj => ?_, vf t hat⟩
            have := grs j hj
            by_cases q : c1 ≤ j ∧ j < c
            · rw [if_pos q] at this
              exact this
            · rw [if_neg q, Int.sub_zero] at this
              exact Int.dvd_sub this (dvr9 (t : Int) (v0 j (by omega)))
          · rw [if_neg e, g12.2 c1 e, po_usI_ne e, g13]
            rcases x2 c1 hc1 with h | ⟨a, b, q1, q2, q3, q4, q5, q6, q7⟩
            · exact Or.inl h
            · refine Or.inr ⟨a, b, q1, q2, q3, q4, by omega, fun j hj => ?_, q7⟩
              rw [rs_cg (fun i hi => gold i (by omega))]
              exact q6 j hj
        · intro j hj
          exact rd_ot (by omega) (gz j (by omega))
      | succ d ih =>
        intro c u' cl' vv' z1 hc hfc hu1 hu2 hz1 g17 g12 g13 g15 gold grs gz gw
        obtain ⟨ac, ac1, ac2, ac3⟩ := hk c (by omega)
        have ewc : z1.2.1 43011 c = nI ac := (gw c (Nat.le_refl c) (by omega)).trans ac1
        have nc := grs c (by omega)
        rw [if_neg (by omega), Int.sub_zero] at nc
        refine u_X1_keepRow_2 ?_; unfold dm_X1_keepRow_2
        refine w_leF (a := w) (b := c) (by omega) (by omega) (w_crI (ch_43011.trans h1) rfl (by omega) ewc (w_if (fun hz9 => ?_) (fun hz9 => ?_)))
        · -- nothing there
          have e0 : ac = 0 := (nI_eq (a := ac) (b := 0) (by omega) (by omega)).mp hz9
          refine u_X1_keepRow_3 ?_; unfold dm_X1_keepRow_3
          rw [nI_1]
          refine ih (c + 1) u' cl' vv' z1 (by omega) (by omega) (by omega) hu2 hz1 g17 g12 g13 g15 gold (fun j hj => ?_) (fun j hj => ?_) (fun j h5 h6 => gw j (by omega) h6)
          · by_cases q : j = c
            · rw [q, if_pos ⟨hfc, by omega⟩]
              rw [e0] at ac3
              have := dvr9 (t : Int) ac3
              have := Int.dvd_add nc this
              rw [show rs9 cl' vv' u (u' - u) c + (t : Int) * (((0 : Nat) : Int) - v c) = rs9 cl' vv' u (u' - u) c - (t : Int) * v c by rw [Int.mul_sub, show ((0 : Nat) : Int) = 0 from rfl, Int.mul_zero]; omega] at this
              exact this
            · have := grs j hj
              by_cases q2 : f ≤ j ∧ j < c
              · rw [if_pos q2] at this
                rw [if_pos ⟨q2.1, by omega⟩]
                exact this
              · rw [if_neg q2] at this
                rw [if_neg (fun h9 => q2 ⟨h9.1, by omega⟩)]
                exact this
          · by_cases q : j = c
            · rw [q, ewc, e0]
              rfl
            · exact gz j (by omega)
        · have e0 : ac ≠ 0 := fun h9 => hz9 (by rw [h9]; rfl)
          have hmu : ac * t < 2 ^ 31 := by
            have := Nat.mul_le_mul (show ac ≤ 997 by omega) (show t ≤ 997 by omega)
            omega
          have hmd : ac * t % p < p := Nat.mod_lt _ (by omega)
          refine w_rdF g17 (w_ctI (ch_43015.trans h5) rfl (show u' < C' by omega) (w_rdF g17 (w_crI (ch_43011.trans h1) rfl (show c < W by omega) (rd_ot (by omega) ewc) (w_rdF (show _ = nI p from ((hz1 43010 (by unfold kpG; omega)).1).trans h10) (w_nzI hnz ?_)))))
          rw [pk_mul, pk_rem hmu (by omega) (by omega)]
          refine w_ctI (ch_43016.trans h6) rfl (show u' < C' by omega) (w_rdF g17 (w_wrF (w_ctI (ch_43011.trans h1) rfl (show c < W by omega) ?_)))
          refine u_X1_keepRow_3 ?_; unfold dm_X1_keepRow_3
          rw [nI_1, nI_1]
          refine ih (c + 1) (u' + 1) (fun i => if i = u' then c else cl' i) (fun i => if i = u' then ac * t % p else vv' i) _ (by omega) (by omega) (by omega) (by omega) (fr_I2 (fr_F2 (fr_I2 (fr_I2 hz1 (by unfold kpG; omega)) (by unfold kpG; omega)) (by unfold kpG; omega)) (by unfold kpG; omega)) ?_ ⟨?_, fun j hj => ?_⟩ ?_ (fun i hi => ?_) (fun i hi => ?_) (fun j hj => ?_) (fun j hj => ?_) (fun j h5 h6 => ?_)
          · rw [po_usI1]
            exact po_usF_at
          · exact rd_ot (by omega) (rd_ot (z := usI z1 43015 u' (nI c)) (by omega) (rd_ot (by omega) g12.1))
          · exact rd_ot (by omega) (rd_ot (z := usI z1 43015 u' (nI c)) (by omega) (rd_ot (by omega) (g12.2 j hj)))
          · rw [← g13]
            funext j
            exact rd_ot (by omega) (rd_ot (z := usI z1 43015 u' (nI c)) (by omega) (rd_ot (by omega) rfl))
          · by_cases e : i = u'
            · rw [if_pos e, if_pos e, e]
              exact ⟨rd_ot (by omega) (rd_ot (z := usI z1 43015 u' (nI c)) (by omega) po_usI_at), by omega, rd_ot (by omega) po_usI_at, hmd⟩
            · rw [if_neg e, if_neg e]
              obtain ⟨j1, j2, j3, j4⟩ := g15 i (by omega)
              exact ⟨rd_ot (by omega) (rd_ot (z := usI z1 43015 u' (nI c)) (by omega) ((po_usI_ne e).trans j1)), j2, rd_ot (by omega) ((po_usI_ne e).trans (rd_ot (by omega) j3)), j4⟩
          · rw [if_neg (by omega), if_neg (by omega)]
            exact gold i hi
          · have e9 : u' + 1 - u = (u' - u) + 1 := by omega
            rw [e9, rs_s, rs_cg (cl := cl') (vv := vv') (fun i hi => ⟨if_neg (by omega), if_neg (by omega)⟩)]
            show (p : Int) ∣ rs9 cl' vv' u (u' - u) j + (if (if u + (u' - u) = u' then c else cl' (u + (u' - u))) = j then ((if u + (u' - u) = u' then ac * t % p else vv' (u + (u' - u)) : Nat) : Int) else 0) - _
            rw [if_pos (show u + (u' - u) = u' by omega), if_pos (show u + (u' - u) = u' by omega)]
            have hj9 := grs j hj
            by_cases q : c = j
            · subst q
              rw [if_pos rfl, if_pos ⟨hfc, by omega⟩]
              have m1 : (p : Int) ∣ ((ac * t % p : Nat) : Int) - ((ac * t : Nat) : Int) := dv_md (Nat.mod_mod _ _)
              have m2 := dvr9 (t : Int) ac3
              have := Int.dvd_add (Int.dvd_add nc m1) m2
              rw [Int.natCast_mul, Int.mul_sub, Int.mul_comm (t : Int) ac, show rs9 cl' vv' u (u' - u) c + (((ac * t % p : Nat) : Int) - (ac : Int) * t) + ((ac : Int) * t - (t : Int) * v c) = rs9 cl' vv' u (u' - u) c + ((ac * t % p : Nat) : Int) - (t : Int) * v c by omega] at this
              exact this
            · rw [if_neg q, Int.add_zero]
              by_cases q2 : f ≤ j ∧ j < c
              · rw [if_pos q2] at hj9
                rw [if_pos ⟨q2.1, by omega⟩]
                exact hj9
              · rw [if_neg q2] at hj9
                rw [if_neg (fun h9 => q2 ⟨h9.1, by omega⟩)]
                exact hj9
          · by_cases q : j = c
            · rw [q]
              exact po_usI_at
            · exact (po_usI_ne q).trans (rd_ot (z := usI z1 43015 u' (nI c)) (by omega) (rd_ot (by omega) (gz j (by omega))))
          · exact (po_usI_ne (by omega)).trans (rd_ot (z := usI z1 43015 u' (nI c)) (by omega) (rd_ot (by omega) (gw j (by omega) h6)))
    refine u_X1_keepRow_1 ?_; unfold dm_X1_keepRow_1
    refine w_crI (ch_43011.trans h1) rfl (show f < W by omega) ((congrFun e11 f).trans ha) (w_cs1 (te_reciprocal (p := p) (((hz 43010 (by unfold kpG; omega)).1).trans h10) hp hp2 ha1 ha2) ?_)
    rintro x9 z1 ⟨e1, t, e2, e3, e4⟩
    dsimp only at e1 e2
    rw [e1, e2]
    refine w_rdF g17a (w_ctI (ch_43012.trans h2) rfl (show f < W by omega) (lp0 t e3 e4 (w - f) f u cl vv _ (by omega) (Nat.le_refl _) (by omega) (Nat.le_refl _) (fr_I2 hz (by unfold kpG; omega)) g17a ⟨po_usI_at, fun j hj => ?_⟩ ?_ (fun i hi => ?_) (fun i hi => ⟨rfl, rfl⟩) (fun j hj => ?_) (fun j hj => ?_) (fun j h5 h6 => ?_)))
    · rw [po_usI_ne hj, e12]
    · rw [po_usI_ot (by omega), e13]
    · obtain ⟨j1, j2, j3, j4⟩ := x1 i hi
      exact ⟨rd_ot (by omega) ((e15 i hi).trans j1), j2, rd_ot (by omega) ((e16 i hi).trans j3), j4⟩
    · rw [if_neg (by omega), Nat.sub_self]
      exact Int.dvd_zero _
    · exact rd_ot (by omega) ((congrFun e11 j).trans (hz0 j hj))
    · exact rd_ot (by omega) (congrFun e11 j)
  obtain ⟨h1, h2, h3, h4, h5, h6, h7, h8, h9, h0⟩ := hv
  refine e_X1_keepRow ?_
  refine u_X1_keepRow_0 ?_; unfold dm_X1_keepRow_0
  refine w_rdF i1 ?_
  rw [nI_add, pk_sub (show f ≤ u + w by omega), show uw_len (cX vl) y (43000 + 15) = C from ch_43015.trans h5]
  refine w_le (a := u + w - f) (b := C) (by omega) (by omega) (fun hle => tl0 vl y C (Nat.le_refl _) ⟨h1, h2, h3, h4, h5, h6, h7, h8, h9, h0⟩ hle fr_rf i1 rfl rfl (fun _ _ => rfl) (fun _ _ => rfl) rfl) (fun hlt => ?_)
  have p1 : dPhi vl ≤ dPhi (usV vl 43015 (2 * (u + w))) := dPhi_u2 (by decide) (by omega)
  have p2 : dPhi (usV vl 43015 (2 * (u + w))) ≤ dPhi (usV (usV vl 43015 (2 * (u + w))) 43016 (2 * (u + w))) := dPhi_u2 (by decide) (by show vl 43016 ≤ _; omega)
  refine w_rdF i1 ?_
  rw [nI_add, rn_mul2]
  refine w_cpR (h := 43015) (by omega) (by omega) (by omega) (w_chV p1 (w_rdF i1 ?_))
  rw [nI_add, rn_mul2]
  refine w_cpR (h := 43016) (by omega) (by show 2 * vl 43016 ≤ _; omega) (by show vl 43016 + 640 ≤ _; omega) (w_chV p2 ?_)
  refine tl0 _ _ (2 * (u + w)) (Nat.le_trans p1 p2) ⟨h1, h2, h3, h4, rfl, rfl, h7, h8, by omega, by omega⟩ (by omega) (fr_R2 (fr_R2 fr_rf (by unfold kpG; omega)) (by unfold kpG; omega)) i1 rfl rfl (fun i hi => ?_) (fun i hi => ?_) rfl
  · show va_cpy (y.2.1 43015) (fun _ => 0) 0 0 (vl 43015) i = y.2.1 43015 i
    rw [pk_cpy_in (Nat.zero_le i) (by omega), Nat.zero_add, Nat.sub_zero]
  · show va_cpy (y.2.1 43016) (fun _ => 0) 0 0 (vl 43016) i = y.2.1 43016 i
    rw [pk_cpy_in (Nat.zero_le i) (by omega), Nat.zero_add, Nat.sub_zero]
theorem te_reduce {w u p n : Nat} {cl vv : Nat → Nat} {d9 M : Nat → vc9} (hv : vI vl W C) (hw : w ≤ 1140) (hwW : w ≤ W) (hI : rI y w u C) (h10 : y.1 43010 = nI p) (hp : prT p) (hp2 : p ≤ 997) (hx : kx9 y p w u cl vv d9) (hE : El9 p w M n d9) (hk : wk9 y p w (M n)) : Te (fun K => de_X1_reduce K 43000 (nI w) vl y) (gQ vl (fun r => fr kpG y r.2.2 ∧ ∃ C' u' cl' vv' d' ρ, vI r.2.1 W C' ∧ rI r.2.2 w u' C' ∧ kx9 r.2.2 p w u' cl' vv' d' ∧ El9 p w M (n + 1) d' ∧ r.1 = nI ρ ∧ rk9 p w (rwl9 M (n + 1)) = rk9 p w (rwl9 M n) + ρ ∧ ∀ j, j < w → r.2.2.2.1 43011 j = 0)) := by
  have hp1 := hp.1
  have hpr := prp_of hp
  let Q : Int32 × (Nat → Nat) × ow_MS → Prop := fun r => fr kpG y r.2.2 ∧ ∃ C' u' cl' vv' d' ρ, vI r.2.1 W C' ∧ rI r.2.2 w u' C' ∧ kx9 r.2.2 p w u' cl' vv' d' ∧ El9 p w M (n + 1) d' ∧ r.1 = nI ρ ∧ rk9 p w (rwl9 M (n + 1)) = rk9 p w (rwl9 M n) + ρ ∧ ∀ j, j < w → r.2.2.2.1 43011 j = 0
  have hnz : nI p ≠ 0 := fun h9 => by
    have := (nI_eq (a := p) (b := 0) (by omega) (by omega)).mp h9
    omega
  have hv0 := hv
  obtain ⟨h1, h2, h3, h4, h5, h6, h7, h8, h9, h0⟩ := hv
  have huC : u ≤ C := hI.2.2.1
  have k11 : ∀ g, g = 43011 → kpG g := fun g hg => Or.inl hg
  -- a number below p that p divides
  have zero : ∀ (z : ow_MS) (cur : vc9) (j : Nat), j < w → wk9 z p w cur → (p : Int) ∣ cur j → z.2.1 43011 j = 0 := fun z cur j hj hz h9 => by
    obtain ⟨a, a1, a2, a3⟩ := hz j hj
    have := Int.dvd_add a3 h9
    rw [show (a : Int) - cur j + cur j = a by omega] at this
    have h8 : p ∣ a := Int.natCast_dvd_natCast.mp this
    rcases Nat.eq_zero_or_pos a with e | e
    · rw [a1, e]
      rfl
    · have := Nat.le_of_dvd e h8
      omega
  have cz : ∀ (z : ow_MS) (cur : vc9) (j : Nat), j < w → wk9 z p w cur → z.2.1 43011 j = 0 → (p : Int) ∣ cur j := fun z cur j hj hz h9 => by
    obtain ⟨a, a1, a2, a3⟩ := hz j hj
    rw [h9] at a1
    have : 0 = a := (nI_eq (a := 0) (b := a) (by omega) (by omega)).mp a1
    rw [← this] at a3
    have := Int.dvd_neg.mpr a3
    rw [show -(((0 : Nat) : Int) - cur j) = cur j by omega] at this
    exact this
  have c1 : ∀ (d c : Nat) (z : ow_MS) (cur : vc9), c + d = w → fr (fun g => g = 43011) y z → wk9 z p w cur → (∀ j, j < c → z.2.1 43011 j = 0) → sp9 p w (rwl9 d9 w) (fun j => M n j - cur j) → Tt (fun K k => d_X1_reduce K k 1 (nI w) (nI c) 0 0 43000 vl z) (gQ vl Q) := by
    intro d
    induction d with
    | zero =>
      intro c z cur hc hz hwk hz0 hsp
      refine u_X1_reduce_1 ?_; unfold dm_X1_reduce_1
      refine w_leT (a := w) (b := c) (by omega) (by omega) (w_some ⟨Nat.le_refl _, fr_mono k11 hz, C, u, cl, vv, d9, 0, hv0, rI_fr hz (by omega) hI, kx_fr hz (by omega) hx, ?_⟩)
      have hin : sp9 p w (rwl9 d9 w) (M n) := sp_q (fun j hj => by
        rw [show M n j - (M n j - cur j) = cur j by omega]
        exact cz z cur j hj hwk (hz0 j (by omega))) hsp
      obtain ⟨e1, e2⟩ := El_n hE hin
      exact ⟨e1, rfl, e2, fun j hj => hz0 j (by omega)⟩
    | succ d ih =>
      intro c z cur hc hz hwk hz0 hsp
      have hcw : c < w := by omega
      have c3 : ∀ (x3 : Int32) (z1 : ow_MS) (cur1 : vc9), fr (fun g => g = 43011) y z1 → wk9 z1 p w cur1 → (∀ j, j < c + 1 → z1.2.1 43011 j = 0) → sp9 p w (rwl9 d9 w) (fun j => M n j - cur1 j) → Tt (fun K k => d_X1_reduce K k 3 (nI w) (nI c) x3 0 43000 vl z1) (gQ vl Q) := by
        intro x3 z1 cur1 a1 a2 a3 a4
        refine u_X1_reduce_3 ?_; unfold dm_X1_reduce_3
        rw [nI_1]
        exact ih (c + 1) z1 cur1 (by omega) a1 a2 a3 a4
      have hIz := rI_fr hz (by omega) hI
      have hxz := kx_fr hz (by omega) hx
      obtain ⟨a, a1, a2, a3⟩ := hwk c hcw
      refine u_X1_reduce_1 ?_; unfold dm_X1_reduce_1
      refine w_leF (a := w) (b := c) (by omega) (by omega) (w_crI (ch_43011.trans h1) rfl (by omega) a1 (w_if (fun hz9 => c3 _ z cur hz hwk (fun j hj => ?_) hsp) (fun hz9 => ?_)))
      · by_cases q : j = c
        · rw [q, a1]
          exact hz9
        · exact hz0 j (by omega)
      have ha0 : 1 ≤ a := by
        rcases Nat.eq_zero_or_pos a with e | e
        · exact absurd (by rw [e]; rfl) hz9
        · exact e
      have can : ¬ (p : Int) ∣ cur c := fun h9 => by
        have := zero z cur c hcw hwk h9
        rw [a1] at this
        exact hz9 this
      rcases hxz.2 c hcw with ⟨hn, hzr⟩ | ⟨ra, rb, q1, q2, q3, q4, q5, q6, q7⟩
      · refine w_crI (ch_43012.trans h2) rfl (by omega) hn (w_ifT rfl ?_)
        refine w_dc1 (te_keepRow (f := c) hv0 hw hwW hcw hIz hn (((hz 43010 (by omega)).1).trans h10) hp hp2 hxz hwk hz0 a1 ha0 a2) ?_
        rintro x lv z1 ⟨r1, r2, C', u', cl', vv', t, r3, r4, r5, r6, r7⟩
        refine w_chV r1 (w_some ⟨Nat.le_refl _, fr_tr (fr_mono k11 hz) r2, C', u', cl', vv', _, 1, r3, r4, r6, ?_⟩)
        have tt : (p : Int) ∣ (t : Int) * (a : Int) - 1 := by
          have := dv_md (p := p) (x := a * t) (y := 1) (by rw [r5, Nat.mod_eq_of_lt (by omega)])
          rw [Int.natCast_mul, Int.mul_comm] at this
          exact this
        obtain ⟨e1, e2⟩ := El_y (u := fun i => (t : Int) * cur i) hpr hE hcw hzr hsp (fun j hj => cz z cur j (by omega) hwk (hz0 j hj)) can tt zq_r
        exact ⟨e1, rfl, e2, r7⟩
      · have ech := hE.1 c hcw
        have c2 : ∀ (d2 i : Nat) (z1 : ow_MS), rb ≤ i + d2 → ra ≤ i → i ≤ rb → fr (fun g => g = 43011) y z1 → wk9 z1 p w (fun j => cur j - (a : Int) * rs9 cl vv ra (i - ra) j) → Tt (fun K k => d_X1_reduce K k 2 (nI w) (nI c) (nI a) (nI i) 43000 vl z1) (gQ vl Q) := by
          have fin : ∀ (z1 : ow_MS), fr (fun g => g = 43011) y z1 → wk9 z1 p w (fun j => cur j - (a : Int) * rs9 cl vv ra (rb - ra) j) → Tt (fun K k => d_X1_reduce K k 3 (nI w) (nI c) (nI a) 0 43000 vl z1) (gQ vl Q) := by
            intro z1 hz1 hk1
            refine c3 _ z1 (fun j => cur j - (a : Int) * d9 c j) hz1 (wk_cg hk1 (fun j hj => ?_)) (fun j hj => ?_) ?_
            · have := Int.dvd_neg.mpr (dvr9 (a : Int) (q6 j hj))
              rw [show -((a : Int) * (rs9 cl vv ra (rb - ra) j - d9 c j)) = cur j - (a : Int) * rs9 cl vv ra (rb - ra) j - (cur j - (a : Int) * d9 c j) by rw [Int.mul_sub]; omega] at this
              exact this
            · have hk2 : wk9 z1 p w (fun j => cur j - (a : Int) * d9 c j) := wk_cg hk1 (fun j hj => by
                have := Int.dvd_neg.mpr (dvr9 (a : Int) (q6 j hj))
                rw [show -((a : Int) * (rs9 cl vv ra (rb - ra) j - d9 c j)) = cur j - (a : Int) * rs9 cl vv ra (rb - ra) j - (cur j - (a : Int) * d9 c j) by rw [Int.mul_sub]; omega] at this
                exact this)
              refine zero z1 _ j (by omega) hk2 ?_
              by_cases q : j = c
              · rw [q]
                have := Int.dvd_neg.mpr (Int.dvd_add a3 (dvr9 (a : Int) q7))
                rw [show -((a : Int) - cur c + (a : Int) * (d9 c c - 1)) = cur c - (a : Int) * d9 c c by rw [Int.mul_sub, Int.mul_one]; omega] at this
                exact this
              · exact Int.dvd_sub (cz z cur j (by omega) hwk (hz0 j (by omega))) (dvr9 (a : Int) (ech.1 j (by omega)))
            · refine sp_q (fun j _ => ?_) (sp_a hsp (sp_m (a : Int) (sp_in (rwl_in hcw))))
              rw [show M n j - (cur j - (a : Int) * d9 c j) - (M n j - cur j + (a : Int) * d9 c j) = 0 by omega]
              exact Int.dvd_zero _
          intro d2
          induction d2 with
          | zero =>
            intro i z1 hi hi1 hi2 hz1 hk1
            have e13 : z1.2.1 43013 c = nI rb := by
              rw [(hz1 43013 (by omega)).2.1, ← (hz 43013 (by omega)).2.1]
              exact q3
            rw [show i = rb by omega] at hk1 ⊢
            refine u_X1_reduce_2 ?_; unfold dm_X1_reduce_2
            exact w_crI (ch_43013.trans h3) rfl (by omega) e13 (w_leT (a := rb) (b := rb) (by omega) (by omega) (fin z1 hz1 hk1))
          | succ d2 ih2 =>
            intro i z1 hi hi1 hi2 hz1 hk1
            have e13 : z1.2.1 43013 c = nI rb := by
              rw [(hz1 43013 (by omega)).2.1, ← (hz 43013 (by omega)).2.1]
              exact q3
            refine u_X1_reduce_2 ?_; unfold dm_X1_reduce_2
            refine w_crI (ch_43013.trans h3) rfl (by omega) e13 (w_le (a := rb) (b := i) (by omega) (by omega) (fun hle => ?_) (fun hlt => ?_))
            · rw [show i = rb by omega] at hk1
              exact fin z1 hz1 hk1
            obtain ⟨j1, j2, j3, j4⟩ := (kx_fr hz1 (by omega) hx).1 i (by omega)
            have ep : z1.1 43010 = nI p := ((hz1 43010 (by omega)).1).trans h10
            obtain ⟨b, b1, b2, b3⟩ := hk1 (cl i) j2
            have hmu : b + (p - a) * vv i < 2 ^ 31 := by
              have := Nat.mul_le_mul (show p - a ≤ 997 by omega) (show vv i ≤ 997 by omega)
              omega
            refine w_crI (ch_43015.trans h5) rfl (by omega) j1 (w_crI (ch_43015.trans h5) rfl (by omega) j1 (w_crI (ch_43011.trans h1) rfl (by omega) b1 (w_rdF ep (w_crI (ch_43016.trans h6) rfl (by omega) j3 (w_rdF ep (w_nzI hnz ?_))))))
            rw [pk_sub (show a ≤ p by omega), pk_mul, nI_add, pk_rem hmu (by omega) (by omega), nI_1]
            refine w_ctI (ch_43011.trans h1) rfl (by omega) (ih2 (i + 1) _ (by omega) (by omega) (by omega) (fr_I2 hz1 rfl) (fun j hj => ?_))
            dsimp only at b3 ⊢
            rw [show i + 1 - ra = (i - ra) + 1 by omega, rs_s, show ra + (i - ra) = i by omega]
            by_cases q : j = cl i
            · refine ⟨(b + (p - a) * vv i) % p, by rw [q]; exact po_usI_at, Nat.mod_lt _ (by omega), ?_⟩
              rw [if_pos q.symm, q]
              have m1 : (p : Int) ∣ (((b + (p - a) * vv i) % p : Nat) : Int) - ((b + (p - a) * vv i : Nat) : Int) := dv_md (Nat.mod_mod _ _)
              have m2 : (p : Int) ∣ (p : Int) * (vv i : Int) := Int.dvd_mul_right _ _
              have e9 : ((b + (p - a) * vv i : Nat) : Int) = (b : Int) + ((p : Int) * vv i - (a : Int) * vv i) := by
                rw [Int.natCast_add, Int.natCast_mul, Int.ofNat_sub (show a ≤ p by omega), Int.sub_mul]
              rw [e9] at m1
              have := Int.dvd_add (Int.dvd_add m1 m2) b3
              rw [show (((b + (p - a) * vv i) % p : Nat) : Int) - ((b : Int) + ((p : Int) * vv i - (a : Int) * vv i)) + (p : Int) * vv i + ((b : Int) - (cur (cl i) - (a : Int) * rs9 cl vv ra (i - ra) (cl i))) = (((b + (p - a) * vv i) % p : Nat) : Int) - (cur (cl i) - (a : Int) * (rs9 cl vv ra (i - ra) (cl i) + (vv i : Int))) by rw [Int.mul_add]; omega] at this
              exact this
            · obtain ⟨b', d1, d2, d3⟩ := hk1 j hj
              refine ⟨b', (po_usI_ne q).trans d1, d2, ?_⟩
              rw [if_neg (fun h9 => q h9.symm), Int.add_zero]
              exact d3
        refine w_crI (ch_43012.trans h2) rfl (by omega) q1 (w_ifF (rn_neg1 q2) (w_crI (ch_43012.trans h2) rfl (by omega) q1 (c2 rb ra z (by omega) (Nat.le_refl _) q4 hz (wk_cg hwk (fun j hj => ?_)))))
        rw [Nat.sub_self, show cur j - (cur j - (a : Int) * rs9 cl vv ra 0 j) = (a : Int) * 0 by show cur j - (cur j - (a : Int) * 0) = _; omega, Int.mul_zero]
        exact Int.dvd_zero _
  refine e_X1_reduce ?_
  refine u_X1_reduce_0 ?_; unfold dm_X1_reduce_0
  refine c1 w 0 y (M n) (by omega) fr_rf hk (fun j hj => absurd hj (Nat.not_lt_zero _)) (sp_q (fun j _ => ?_) sp_0)
  rw [show M n j - M n j - 0 = 0 by omega]
  exact Int.dvd_zero _
end XCJ4
