/-! the class: kept rows -/
def suR (f : Nat → Int32) (w : Nat) : Nat → Nat
  | 0 => 0
  | n + 1 => suR f w n + (if f n = -1 then 0 else w - n)
theorem suR_le (f : Nat → Int32) (w : Nat) : ∀ n, n ≤ w → 2 * suR f w n + (w - n) * (w - n + 1) ≤ w * (w + 1) := by
  intro n
  induction n with
  | zero =>
    intro _
    show 2 * 0 + _ ≤ _
    rw [Nat.sub_zero]
    omega
  | succ n ih =>
    intro h
    have h1 := ih (by omega)
    show 2 * (suR f w n + (if f n = -1 then 0 else w - n)) + _ ≤ _
    obtain ⟨m, hm⟩ : ∃ m, w - n = m + 1 := ⟨w - n - 1, by omega⟩
    rw [hm] at h1 ⊢
    rw [show w - (n + 1) = m by omega]
    have h2 : (m + 1) * (m + 1 + 1) = m * (m + 1) + 2 * (m + 1) := by
      rw [Nat.add_mul m 1 (m + 1 + 1), Nat.mul_add m (m + 1) 1]
      omega
    split <;> omega
theorem suR_set {f g : Nat → Int32} {w k : Nat} (hf : f k = -1) (hg : g k ≠ -1) (hne : ∀ j, j ≠ k → g j = f j) : ∀ n, suR g w n = suR f w n + (if k < n then w - k else 0) := by
  intro n
  induction n with
  | zero => rfl
  | succ n ih =>
    show suR g w n + _ = suR f w n + _ + _
    rw [ih]
    by_cases e : n = k
    · subst e
      rw [if_neg hg, if_pos hf, if_neg (Nat.lt_irrefl _), if_pos (Nat.lt_succ_self _)]
    · rw [hne n e]
      have e1 : (if k < n + 1 then w - k else 0) = if k < n then w - k else 0 := by
        by_cases h : k < n
        · rw [if_pos h, if_pos (show k < n + 1 by omega)]
        · rw [if_neg h, if_neg (show ¬ k < n + 1 by omega)]
      rw [e1]
      omega
/-- the kept rows -/
def rI (z : ow_MS) (w u C : Nat) : Prop := z.1 43017 = nI u ∧ u ≤ suR (z.2.1 43012) w w ∧ u ≤ C ∧ (∀ c, c < w → z.2.1 43012 c = -1 ∨ ∃ a b, z.2.1 43012 c = nI a ∧ a < 2 ^ 31 ∧ z.2.1 43013 c = nI b ∧ b ≤ u) ∧ ∀ i, i < u → ∃ j, z.2.1 43015 i = nI j ∧ j < w
def kpG (g : Nat) : Prop := g = 43011 ∨ g = 43012 ∨ g = 43013 ∨ g = 43015 ∨ g = 43016 ∨ g = 43017
section KP
variable {vl : Nat → Nat} {y : ow_MS} {W C : Nat}
theorem u_X1_keepRow_2 {x1 : Int32} {x2 : Int32} {x3 : Int32} {x4 : Int32} {r0 : Nat} {vl : Nat → Nat} {z : ow_MS} {Q : (Unit × (Nat → Nat) × ow_MS) → Prop} (H : Tt (fun K k => dm_X1_keepRow_2 K (d_X1_keepRow K k) x1 x2 x3 x4 r0 vl z) (gQ vl Q)) : Tt (fun K k => d_X1_keepRow K k 2 x1 x2 x3 x4 r0 vl z) (gQ vl Q) := w_un (fun _ _ => rfl) (w_chV (Nat.le_refl _) H)
theorem u_X1_keepRow_3 {x1 : Int32} {x2 : Int32} {x3 : Int32} {x4 : Int32} {r0 : Nat} {vl : Nat → Nat} {z : ow_MS} {Q : (Unit × (Nat → Nat) × ow_MS) → Prop} (H : Tt (fun K k => dm_X1_keepRow_3 K (d_X1_keepRow K k) x1 x2 x3 x4 r0 vl z) (gQ vl Q)) : Tt (fun K k => d_X1_keepRow K k 3 x1 x2 x3 x4 r0 vl z) (gQ vl Q) := w_un (fun _ _ => rfl) (w_chV (Nat.le_refl _) H)
theorem u_X1_keepRow_1 {x1 : Int32} {x2 : Int32} {x3 : Int32} {x4 : Int32} {r0 : Nat} {vl : Nat → Nat} {z : ow_MS} {Q : (Unit × (Nat → Nat) × ow_MS) → Prop} (H : Tt (fun K k => dm_X1_keepRow_1 K (d_X1_keepRow K k) x1 x2 x3 x4 r0 vl z) (gQ vl Q)) : Tt (fun K k => d_X1_keepRow K k 1 x1 x2 x3 x4 r0 vl z) (gQ vl Q) := w_un (fun _ _ => rfl) (w_chV (Nat.le_refl _) H)
theorem e_X1_keepRow {r0 : Nat} {x1 : Int32} {x2 : Int32} {vl : Nat → Nat} {z : ow_MS} {Q : (Unit × (Nat → Nat) × ow_MS) → Prop} (H : Tt (fun K k => d_X1_keepRow K k 0 x1 x2 0 0 r0 vl z) Q) : Te (fun K => de_X1_keepRow K r0 x1 x2 vl z) Q := w_te H
theorem u_X1_keepRow_0 {x1 : Int32} {x2 : Int32} {x3 : Int32} {x4 : Int32} {r0 : Nat} {vl : Nat → Nat} {z : ow_MS} {Q : (Unit × (Nat → Nat) × ow_MS) → Prop} (H : Tt (fun K k => dm_X1_keepRow_0 K (d_X1_keepRow K k) x1 x2 x3 x4 r0 vl z) (gQ vl Q)) : Tt (fun K k => d_X1_keepRow K k 0 x1 x2 x3 x4 r0 vl z) (gQ vl Q) := w_un (fun _ _ => rfl) (w_chV (Nat.le_refl _) H)
theorem tc_keepRow {f w u p : Nat} (hv : vI vl W C) (hw : w ≤ 1140) (hwW : w ≤ W) (hf : f < w) (hI : rI y w u C) (hnf : y.2.1 43012 f = -1) (h10 : y.1 43010 = nI p) (hp1 : 2 ≤ p) (hp2 : p ≤ 997) : Te (fun K => de_X1_keepRow K 43000 (nI f) (nI w) vl y) (gQ vl (fun r => fr kpG y r.2.2 ∧ ∃ C' u', vI r.2.1 W C' ∧ rI r.2.2 w u' C')) := by
  obtain ⟨i1, i2, i3, i4, i5⟩ := hI
  have hnz : nI p ≠ 0 := fun h9 => by
    have := (nI_eq (a := p) (b := 0) (by omega) (by omega)).mp h9
    omega
  have hsu := suR_le (y.2.1 43012) w w (Nat.le_refl _)
  have hww : w * (w + 1) ≤ 1300740 := Nat.mul_le_mul hw (show w + 1 ≤ 1141 by omega)
  have hu : u ≤ 650370 := by omega
  -- from the second label on
  have tl0 : ∀ (v : Nat → Nat) (z : ow_MS) (C' : Nat), dPhi vl ≤ dPhi v → vI v W C' → u + w - f ≤ C' → fr kpG y z → z.1 43017 = nI u → (z.2.1 43012 = y.2.1 43012) → (z.2.1 43013 = y.2.1 43013) → (∀ i, i < u → z.2.1 43015 i = y.2.1 43015 i) → Tt (fun K k => d_X1_keepRow K k 1 (nI f) (nI w) 0 0 43000 v z) (gQ v (fun r => fr kpG y r.2.2 ∧ ∃ C' u', vI r.2.1 W C' ∧ rI r.2.2 w u' C')) := by
    intro v z C' hphi hv' hroom hz g17a e12 e13 e15
    obtain ⟨h1, h2, h3, h4, h5, h6, h7, h8, h9, h0⟩ := hv'
    have lp0 : ∀ (d c u' : Nat) (x3 : Int32) (z1 : ow_MS), c + d = w → f ≤ c → u' ≤ u + (c - f) → u ≤ u' → fr kpG y z1 → z1.1 43017 = nI u' → (z1.2.1 43012 f = nI u ∧ ∀ j, j ≠ f → z1.2.1 43012 j = y.2.1 43012 j) → (z1.2.1 43013 = y.2.1 43013) → (∀ i, i < u' → ∃ j, z1.2.1 43015 i = nI j ∧ j < w) → Tt (fun K k => d_X1_keepRow K k 2 (nI f) (nI w) x3 (nI c) 43000 v z1) (gQ v (fun r => fr kpG y r.2.2 ∧ ∃ C' u', vI r.2.1 W C' ∧ rI r.2.2 w u' C')) := by
      intro d
      induction d with
      | zero =>
        intro c u' x3 z1 hc hfc hu1 hu2 hz1 g17 g12 g13 g15
        refine u_X1_keepRow_2 ?_; unfold dm_X1_keepRow_2
        refine w_leT (a := w) (b := c) (by omega) (by omega) (w_rdF g17 (w_ctI (ch_43013.trans h3) rfl (by omega) (w_some ⟨Nat.le_refl _, fr_I2 hz1 (Or.inr (Or.inr (Or.inl rfl))), C', u', ⟨h1, h2, h3, h4, h5, h6, h7, h8, h9, h0⟩, g17, ?_, by omega, ?_, ?_⟩)))
        · show u' ≤ suR ((usI z1 43013 f (nI u')).2.1 43012) w w
          rw [po_usI_ot (show 43012 ≠ 43013 by omega), suR_set (f := y.2.1 43012) (k := f) hnf (by rw [g12.1]; exact rn_neg1 (by omega)) g12.2, if_pos hf]
          omega
        · intro c1 hc1
          show (usI z1 43013 f (nI u')).2.1 43012 c1 = -1 ∨ ∃ a b, (usI z1 43013 f (nI u')).2.1 43012 c1 = nI a ∧ a < 2 ^ 31 ∧ (usI z1 43013 f (nI u')).2.1 43013 c1 = nI b ∧ b ≤ u'
          rw [po_usI_ot (show 43012 ≠ 43013 by omega)]
          by_cases e : c1 = f
          · subst e
            exact Or.inr ⟨u, u', g12.1, by omega, po_usI_at, Nat.le_refl _⟩
          · rw [g12.2 c1 e, po_usI_ne e, g13]
            rcases i4 c1 hc1 with h | ⟨a, b, q1, q2, q3, q4⟩
            · exact Or.inl h
            · exact Or.inr ⟨a, b, q1, q2, q3, by omega⟩
        · intro i hi
          obtain ⟨j, j1, j2⟩ := g15 i hi
          exact ⟨j, rd_ot (by omega) j1, j2⟩
      | succ d ih =>
        intro c u' x3 z1 hc hfc hu1 hu2 hz1 g17 g12 g13 g15
        have c3 : ∀ (u2 : Nat) (z2 : ow_MS), u2 ≤ u + (c + 1 - f) → u ≤ u2 → fr kpG y z2 → z2.1 43017 = nI u2 → (z2.2.1 43012 f = nI u ∧ ∀ j, j ≠ f → z2.2.1 43012 j = y.2.1 43012 j) → (z2.2.1 43013 = y.2.1 43013) → (∀ i, i < u2 → ∃ j, z2.2.1 43015 i = nI j ∧ j < w) → Tt (fun K k => d_X1_keepRow K k 3 (nI f) (nI w) x3 (nI c) 43000 v z2) (gQ v (fun r => fr kpG y r.2.2 ∧ ∃ C' u', vI r.2.1 W C' ∧ rI r.2.2 w u' C')) := by
          intro u2 z2 k1 k2 k3 k4 k5 k6 k7
          refine u_X1_keepRow_3 ?_; unfold dm_X1_keepRow_3
          rw [nI_1]
          exact ih (c + 1) u2 x3 z2 (by omega) (by omega) k1 k2 k3 k4 k5 k6 k7
        refine u_X1_keepRow_2 ?_; unfold dm_X1_keepRow_2
        refine w_leF (a := w) (b := c) (by omega) (by omega) (w_crI (ch_43011.trans h1) rfl (by omega) rfl (w_if (fun _ => c3 u' z1 (by omega) hu2 hz1 g17 g12 g13 g15) (fun _ => ?_)))
        refine w_rdF g17 (w_ctI (ch_43015.trans h5) rfl (show u' < C' by omega) (w_rdF g17 (w_crI (ch_43011.trans h1) rfl (show c < W by omega) rfl (w_rdF (show _ = nI p from ((hz1 43010 (by unfold kpG; omega)).1).trans h10) (w_nzI hnz (w_ctI (ch_43016.trans h6) rfl (show u' < C' by omega) (w_rdF g17 (w_wrF (w_ctI (ch_43011.trans h1) rfl (show c < W by omega) ?_)))))))))
        rw [nI_1]
        refine c3 (u' + 1) _ (by omega) (by omega) (fr_I2 (fr_F2 (fr_I2 (fr_I2 hz1 (by unfold kpG; omega)) (by unfold kpG; omega)) (by unfold kpG; omega)) (by unfold kpG; omega)) ?_ ⟨?_, fun j hj => ?_⟩ ?_ (fun i hi => ?_)
        · rw [po_usI1]
          exact po_usF_at
        · exact rd_ot (by omega) (rd_ot (z := usI z1 43015 u' (nI c)) (by omega) (rd_ot (by omega) g12.1))
        · exact rd_ot (by omega) (rd_ot (z := usI z1 43015 u' (nI c)) (by omega) (rd_ot (by omega) (g12.2 j hj)))
        · rw [← g13]
          funext j
          exact rd_ot (by omega) (rd_ot (z := usI z1 43015 u' (nI c)) (by omega) (rd_ot (by omega) rfl))
        · by_cases e : i = u'
          · subst e
            exact ⟨c, rd_ot (by omega) (rd_ot (z := usI z1 43015 i (nI c)) (by omega) po_usI_at), by omega⟩
          · obtain ⟨j, j1, j2⟩ := g15 i (by omega)
            exact ⟨j, rd_ot (by omega) (rd_ot (z := usI z1 43015 u' (nI c)) (by omega) ((po_usI_ne e).trans j1)), j2⟩
    refine u_X1_keepRow_1 ?_; unfold dm_X1_keepRow_1
    refine w_crI (ch_43011.trans h1) rfl (show f < W by omega) rfl (w_cs1 (tc_reciprocal (p := p) (((hz 43010 (by unfold kpG; omega)).1).trans h10) hp1 hp2) ?_)
    rintro a z1 e1
    cases e1
    refine w_rdF g17a (w_ctI (ch_43012.trans h2) rfl (show f < W by omega) (lp0 (w - f) f u _ _ (by omega) (Nat.le_refl _) (by omega) (Nat.le_refl _) (fr_I2 hz (by unfold kpG; omega)) g17a ⟨po_usI_at, fun j hj => ?_⟩ ?_ (fun i hi => ?_)))
    · rw [po_usI_ne hj, e12]
    · rw [po_usI_ot (by omega), e13]
    · obtain ⟨j, j1, j2⟩ := i5 i hi
      exact ⟨j, rd_ot (by omega) ((e15 i hi).trans j1), j2⟩
  obtain ⟨h1, h2, h3, h4, h5, h6, h7, h8, h9, h0⟩ := hv
  refine e_X1_keepRow ?_
  refine u_X1_keepRow_0 ?_; unfold dm_X1_keepRow_0
  refine w_rdF i1 ?_
  rw [nI_add, pk_sub (show f ≤ u + w by omega), show uw_len (cX vl) y (43000 + 15) = C from ch_43015.trans h5]
  refine w_le (a := u + w - f) (b := C) (by omega) (by omega) (fun hle => tl0 vl y C (Nat.le_refl _) ⟨h1, h2, h3, h4, h5, h6, h7, h8, h9, h0⟩ hle fr_rf i1 rfl rfl (fun _ _ => rfl)) (fun hlt => ?_)
  have p1 : dPhi vl ≤ dPhi (usV vl 43015 (2 * (u + w))) := dPhi_u2 (by decide) (by omega)
  have p2 : dPhi (usV vl 43015 (2 * (u + w))) ≤ dPhi (usV (usV vl 43015 (2 * (u + w))) 43016 (2 * (u + w))) := dPhi_u2 (by decide) (by show vl 43016 ≤ _; omega)
  refine w_rdF i1 ?_
  rw [nI_add, rn_mul2]
  refine w_cpR (h := 43015) (by omega) (by omega) (by omega) (w_chV p1 (w_rdF i1 ?_))
  rw [nI_add, rn_mul2]
  refine w_cpR (h := 43016) (by omega) (by show 2 * vl 43016 ≤ _; omega) (by show vl 43016 + 640 ≤ _; omega) (w_chV p2 ?_)
  refine tl0 _ _ (2 * (u + w)) (Nat.le_trans p1 p2) ⟨h1, h2, h3, h4, rfl, rfl, h7, h8, by omega, by omega⟩ (by omega) (fr_R2 (fr_R2 fr_rf (by unfold kpG; omega)) (by unfold kpG; omega)) i1 rfl rfl (fun i hi => ?_)
  show va_cpy (y.2.1 43015) (fun _ => 0) 0 0 (vl 43015) i = y.2.1 43015 i
  rw [pk_cpy_in (Nat.zero_le i) (by omega), Nat.zero_add, Nat.sub_zero]
end KP
