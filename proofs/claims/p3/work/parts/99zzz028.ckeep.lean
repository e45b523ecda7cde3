section
/-! 99zzzzzzzp.ckeep -/
/-! the class: kept rows -/
def suR (f : Nat → Int32) (w : Nat) : Nat → Nat
  | 0 => 0
  | n + 1 => suR f w n + (if f n = -1 then 0 else w - n)
theorem suR_le (f : Nat → Int32) (w : Nat) : ∀ n, n ≤ w → 2 * suR f w n + (w - n) * (w - n + 1) ≤ w * (w + 1) := by
  intro n
  induction n with
  | zero =>
    intro _
    show 2 * 0 + _ ≤ _
    rw [Nat.sub_zero]
    omega
  | succ n ih =>
    intro h
    have h1 := ih (by omega)
    show 2 * (suR f w n + (if f n = -1 then 0 else w - n)) + _ ≤ _
    obtain ⟨m, hm⟩ : ∃ m, w - n = m + 1 := ⟨w - n - 1, by omega⟩
    rw [hm] at h1 ⊢
    rw [show w - (n + 1) = m by omega]
    have h2 : (m + 1) * (m + 1 + 1) = m * (m + 1) + 2 * (m + 1) := by
      rw [Nat.add_mul m 1 (m + 1 + 1), Nat.mul_add m (m + 1) 1]
      omega
    split <;> omega
theorem suR_set {f g : Nat → Int32} {w k : Nat} (hf : f k = -1) (hg : g k ≠ -1) (hne : ∀ j, j ≠ k → g j = f j) : ∀ n, suR g w n = suR f w n + (if k < n then w - k else 0) := by
  intro n
  induction n with
  | zero => rfl
  | succ n ih =>
    show suR g w n + _ = suR f w n + _ + _
    rw [ih]
    by_cases e : n = k
    · subst e
      rw [if_neg hg, if_pos hf, if_neg (Nat.lt_irrefl _), if_pos (Nat.lt_succ_self _)]
    · rw [hne n e]
      have e1 : (if k < n + 1 then w - k else 0) = if k < n then w - k else 0 := by
        by_cases h : k < n
        · rw [if_pos h, if_pos (show k < n + 1 by omega)]
        · rw [if_neg h, if_neg (show ¬ k < n + 1 by omega)]
      rw [e1]
      omega
/-- the kept rows -/
def rI (z : ow_MS) (w u C : Nat) : Prop := z.1 43017 = nI u ∧ u ≤ suR (z.2.1 43012) w w ∧ u ≤ C ∧ (∀ c, c < w → z.2.1 43012 c = -1 ∨ ∃ a b, z.2.1 43012 c = nI a ∧ a < 2 ^ 31 ∧ z.2.1 43013 c = nI b ∧ b ≤ u) ∧ ∀ i, i < u → ∃ j, z.2.1 43015 i = nI j ∧ j < w
def kpG (g : Nat) : Prop := g = 43011 ∨ g = 43012 ∨ g = 43013 ∨ g = 43015 ∨ g = 43016 ∨ g = 43017
section KP
variable {vl : Nat → Nat} {y : ow_MS} {W C : Nat}
theorem u_X1_keepRow_2 {x1 : Int32} {x2 : Int32} {x3 : Int32} {x4 : Int32} {r0 : Nat} {vl : Nat → Nat} {z : ow_MS} {Q : (Unit × (Nat → Nat) × ow_MS) → Prop} (H : Tt (fun K k => dm_X1_keepRow_2 K (d_X1_keepRow K k) x1 x2 x3 x4 r0 vl z) (gQ vl Q)) : Tt (fun K k => d_X1_keepRow K k 2 x1 x2 x3 x4 r0 vl z) (gQ vl Q) := w_un (fun _ _ => rfl) (w_chV (Nat.le_refl _) H)
theorem u_X1_keepRow_3 {x1 : Int32} {x2 : Int32} {x3 : Int32} {x4 : Int32} {r0 : Nat} {vl : Nat → Nat} {z : ow_MS} {Q : (Unit × (Nat → Nat) × ow_MS) → Prop} (H : Tt (fun K k => dm_X1_keepRow_3 K (d_X1_keepRow K k) x1 x2 x3 x4 r0 vl z) (gQ vl Q)) : Tt (fun K k => d_X1_keepRow K k 3 x1 x2 x3 x4 r0 vl z) (gQ vl Q) := w_un (fun _ _ => rfl) (w_chV (Nat.le_refl _) H)
theorem u_X1_keepRow_1 {x1 : Int32} {x2 : Int32} {x3 : Int32} {x4 : Int32} {r0 : Nat} {vl : Nat → Nat} {z : ow_MS} {Q : (Unit × (Nat → Nat) × ow_MS) → Prop} (H : Tt (fun K k => dm_X1_keepRow_1 K (d_X1_keepRow K k) x1 x2 x3 x4 r0 vl z) (gQ vl Q)) : Tt (fun K k => d_X1_keepRow K k 1 x1 x2 x3 x4 r0 vl z) (gQ vl Q) := w_un (fun _ _ => rfl) (w_chV (Nat.le_refl _) H)
theorem e_X1_keepRow {r0 : Nat} {x1 : Int32} {x2 : Int32} {vl : Nat → Nat} {z : ow_MS} {Q : (Unit × (Nat → Nat) × ow_MS) → Prop} (H : Tt (fun K k => d_X1_keepRow K k 0 x1 x2 0 0 r0 vl z) Q) : Te (fun K => de_X1_keepRow K r0 x1 x2 vl z) Q := w_te H
theorem u_X1_keepRow_0 {x1 : Int32} {x2 : Int32} {x3 : Int32} {x4 : Int32} {r0 : Nat} {vl : Nat → Nat} {z : ow_MS} {Q : (Unit × (Nat → Nat) × ow_MS) → Prop} (H : Tt (fun K k => dm_X1_keepRow_0 K (d_X1_keepRow K k) x1 x2 x3 x4 r0 vl z) (gQ vl Q)) : Tt (fun K k => d_X1_keepRow K k 0 x1 x2 x3 x4 r0 vl z) (gQ vl Q) := w_un (fun _ _ => rfl) (w_chV (Nat.le_refl _) H)
theorem tc_keepRow {f w u p : Nat} (hv : vI vl W C) (hw : w ≤ 1140) (hwW : w ≤ W) (hf : f < w) (hI : rI y w u C) (hnf : y.2.1 43012 f = -1) (h10 : y.1 43010 = nI p) (hp1 : 2 ≤ p) (hp2 : p ≤ 997) : Te (fun K => de_X1_keepRow K 43000 (nI f) (nI w) vl y) (gQ vl (fun r => fr kpG y r.2.2 ∧ ∃ C' u', vI r.2.1 W C' ∧ rI r.2.2 w u' C')) := by
  obtain ⟨i1, i2, i3, i4, i5⟩ := hI
  have hnz : nI p ≠ 0 := fun h9 => by
    have := (nI_eq (a := p) (b := 0) (by omega) (by omega)).mp h9
    omega
  have hsu := suR_le (y.2.1 43012) w w (Nat.le_refl _)
  have hww : w * (w + 1) ≤ 1300740 := Nat.mul_le_mul hw (show w + 1 ≤ 1141 by omega)
  have hu : u ≤ 650370 := by omega
  -- from the second label on
  have tl0 : ∀ (v : Nat → Nat) (z : ow_MS) (C' : Nat), dPhi vl ≤ dPhi v → vI v W C' → u + w - f ≤ C' → fr kpG y z → z.1 43017 = nI u → (z.2.1 43012 = y.2.1 43012) → (z.2.1 43013 = y.2.1 43013) → (∀ i, i < u → z.2.1 43015 i = y.2.1 43015 i) → Tt (fun K k => d_X1_keepRow K k 1 (nI f) (nI w) 0 0 43000 v z) (gQ v (fun r => fr kpG y r.2.2 ∧ ∃ C' u', vI r.2.1 W C' ∧ rI r.2.2 w u' C')) := by
    intro v z C' hphi hv' hroom hz g17a e12 e13 e15
    obtain ⟨h1, h2, h3, h4, h5, h6, h7, h8, h9, h0⟩ := hv'
    have lp0 : ∀ (d c u' : Nat) (x3 : Int32) (z1 : ow_MS), c + d = w → f ≤ c → u' ≤ u + (c - f) → u ≤ u' → fr kpG y z1 → z1.1 43017 = nI u' → (z1.2.1 43012 f = nI u ∧ ∀ j, j ≠ f → z1.2.1 43012 j = y.2.1 43012 j) → (z1.2.1 43013 = y.2.1 43013) → (∀ i, i < u' → ∃ j, z1.2.1 43015 i = nI j ∧ j < w) → Tt (fun K k => d_X1_keepRow K k 2 (nI f) (nI w) x3 (nI c) 43000 v z1) (gQ v (fun r => fr kpG y r.2.2 ∧ ∃ C' u', vI r.2.1 W C' ∧ rI r.2.2 w u' C')) := by
      intro d
      induction d with
      | zero =>
        intro c u' x3 z1 hc hfc hu1 hu2 hz1 g17 g12 g13 g15
        refine u_X1_keepRow_2 ?_; unfold dm_X1_keepRow_2
        refine w_leT (a := w) (b := c) (by omega) (by omega) (w_rdF g17 (w_ctI (ch_43013.trans h3) rfl (by omega) (w_some ⟨Nat.le_refl _, fr_I2 hz1 (Or.inr (Or.inr (Or.inl rfl))), C', u', ⟨h1, h2, h3, h4, h5, h6, h7, h8, h9, h0⟩, g17, ?_, by omega, ?_, ?_⟩)))
        · show u' ≤ suR ((usI z1 43013 f (nI u')).2.1 43012) w w
          rw [po_usI_ot (show 43012 ≠ 43013 by omega), suR_set (f := y.2.1 43012) (k := f) hnf (by rw [g12.1]; exact rn_neg1 (by omega)) g12.2, if_pos hf]
          omega
        · intro c1 hc1
          show (usI z1 43013 f (nI u')).2.1 43012 c1 = -1 ∨ ∃ a b, (usI z1 43013 f (nI u')).2.1 43012 c1 = nI a ∧ a < 2 ^ 31 ∧ (usI z1 43013 f (nI u')).2.1 43013 c1 = nI b ∧ b ≤ u'
          rw [po_usI_ot (show 43012 ≠ 43013 by omega)]
          by_cases e : c1 = f
          · subst e
            exact Or.inr ⟨u, u', g12.1, by omega, po_usI_at, Nat.le_refl _⟩
          · rw [g12.2 c1 e, po_usI_ne e, g13]
            rcases i4 c1 hc1 with h | ⟨a, b, q1, q2, q3, q4⟩
            · exact Or.inl h
            · exact Or.inr ⟨a, b, q1, q2, q3, by omega⟩
        · intro i hi
          obtain ⟨j, j1, j2⟩ := g15 i hi
          exact ⟨j, rd_ot (by omega) j1, j2⟩
      | succ d ih =>
        intro c u' x3 z1 hc hfc hu1 hu2 hz1 g17 g12 g13 g15
        have c3 : ∀ (u2 : Nat) (z2 : ow_MS), u2 ≤ u + (c + 1 - f) → u ≤ u2 → fr kpG y z2 → z2.1 43017 = nI u2 → (z2.2.1 43012 f = nI u ∧ ∀ j, j ≠ f → z2.2.1 43012 j = y.2.1 43012 j) → (z2.2.1 43013 = y.2.1 43013) → (∀ i, i < u2 → ∃ j, z2.2.1 43015 i = nI j ∧ j < w) → Tt (fun K k => d_X1_keepRow K k 3 (nI f) (nI w) x3 (nI c) 43000 v z2) (gQ v (fun r => fr kpG y r.2.2 ∧ ∃ C' u', vI r.2.1 W C' ∧ rI r.2.2 w u' C')) := by
          intro u2 z2 k1 k2 k3 k4 k5 k6 k7
          refine u_X1_keepRow_3 ?_; unfold dm_X1_keepRow_3
          rw [nI_1]
          exact ih (c + 1) u2 x3 z2 (by omega) (by omega) k1 k2 k3 k4 k5 k6 k7
        refine u_X1_keepRow_2 ?_; unfold dm_X1_keepRow_2
        refine w_leF (a := w) (b := c) (by omega) (by omega) (w_crI (ch_43011.trans h1) rfl (by omega) rfl (w_if (fun _ => c3 u' z1 (by omega) hu2 hz1 g17 g12 g13 g15) (fun _ => ?_)))
        refine w_rdF g17 (w_ctI (ch_43015.trans h5) rfl (show u' < C' by omega) (w_rdF g17 (w_crI (ch_43011.trans h1) rfl (show c < W by omega) rfl (w_rdF (show _ = nI p from ((hz1 43010 (by unfold kpG; omega)).1).trans h10) (w_nzI hnz (w_ctI (ch_43016.trans h6) rfl (show u' < C' by omega) (w_rdF g17 (w_wrF (w_ctI (ch_43011.trans h1) rfl (show c < W by omega) ?_)))))))))
        rw [nI_1]
        refine c3 (u' + 1) _ (by omega) (by omega) (fr_I2 (fr_F2 (fr_I2 (fr_I2 hz1 (by unfold kpG; omega)) (by unfold kpG; omega)) (by unfold kpG; omega)) (by unfold kpG; omega)) ?_ ⟨?_, fun j hj => ?_⟩ ?_ (fun i hi => ?_)
        · rw [po_usI1]
          exact po_usF_at
        · exact rd_ot (by omega) (rd_ot (z := usI z1 43015 u' (nI c)) (by omega) (rd_ot (by omega) g12.1))
        · exact rd_ot (by omega) (rd_ot (z := usI z1 43015 u' (nI c)) (by omega) (rd_ot (by omega) (g12.2 j hj)))
        · rw [← g13]
          funext j
          exact rd_ot (by omega) (rd_ot (z := usI z1 43015 u' (nI c)) (by omega) (rd_ot (by omega) rfl))
        · by_cases e : i = u'
          · subst e
            exact ⟨c, rd_ot (by omega) (rd_ot (z := usI z1 43015 i (nI c)) (by omega) po_usI_at), by omega⟩
          · obtain ⟨j, j1, j2⟩ := g15 i (by omega)
            exact ⟨j, rd_ot (by omega) (rd_ot (z := usI z1 43015 u' (nI c)) (by omega) ((po_usI_ne e).trans j1)), j2⟩
    refine u_X1_keepRow_1 ?_; unfold dm_X1_keepRow_1
    refine w_crI (ch_43011.trans h1) rfl (show f < W by omega) rfl (w_cs1 (tc_reciprocal (p := p) (((hz 43010 (by unfold kpG; omega)).1).trans h10) hp1 hp2) ?_)
    rintro a z1 e1
    cases e1
    refine w_rdF g17a (w_ctI (ch_43012.trans h2) rfl (show f < W by omega) (lp0 (w - f) f u _ _ (by omega) (Nat.le_refl _) (by omega) (Nat.le_refl _) (fr_I2 hz (by unfold kpG; omega)) g17a ⟨po_usI_at, fun j hj => ?_⟩ ?_ (fun i hi => ?_)))
    · rw [po_usI_ne hj, e12]
    · rw [po_usI_ot (by omega), e13]
    · obtain ⟨j, j1, j2⟩ := i5 i hi
      exact ⟨j, rd_ot (by omega) ((e15 i hi).trans j1), j2⟩
  obtain ⟨h1, h2, h3, h4, h5, h6, h7, h8, h9, h0⟩ := hv
  refine e_X1_keepRow ?_
  refine u_X1_keepRow_0 ?_; unfold dm_X1_keepRow_0
  refine w_rdF i1 ?_
  rw [nI_add, pk_sub (show f ≤ u + w by omega), show uw_len (cX vl) y (43000 + 15) = C from ch_43015.trans h5]
  refine w_le (a := u + w - f) (b := C) (by omega) (by omega) (fun hle => tl0 vl y C (Nat.le_refl _) ⟨h1, h2, h3, h4, h5, h6, h7, h8, h9, h0⟩ hle fr_rf i1 rfl rfl (fun _ _ => rfl)) (fun hlt => ?_)
  have p1 : dPhi vl ≤ dPhi (usV vl 43015 (2 * (u + w))) := dPhi_u2 (by decide) (by omega)
  have p2 : dPhi (usV vl 43015 (2 * (u + w))) ≤ dPhi (usV (usV vl 43015 (2 * (u + w))) 43016 (2 * (u + w))) := dPhi_u2 (by decide) (by show vl 43016 ≤ _; omega)
  refine w_rdF i1 ?_
  rw [nI_add, rn_mul2]
  refine w_cpR (h := 43015) (by omega) (by omega) (by omega) (w_chV p1 (w_rdF i1 ?_))
  rw [nI_add, rn_mul2]
  refine w_cpR (h := 43016) (by omega) (by show 2 * vl 43016 ≤ _; omega) (by show vl 43016 + 640 ≤ _; omega) (w_chV p2 ?_)
  refine tl0 _ _ (2 * (u + w)) (Nat.le_trans p1 p2) ⟨h1, h2, h3, h4, rfl, rfl, h7, h8, by omega, by omega⟩ (by omega) (fr_R2 (fr_R2 fr_rf (by unfold kpG; omega)) (by unfold kpG; omega)) i1 rfl rfl (fun i hi => ?_)
  show va_cpy (y.2.1 43015) (fun _ => 0) 0 0 (vl 43015) i = y.2.1 43015 i
  rw [pk_cpy_in (Nat.zero_le i) (by omega), Nat.zero_add, Nat.sub_zero]
end KP
end
section
/-! 99zzzzzzzq.cred -/
/-! the class: the work row is reduced -/
theorem rI_fr {P : Nat → Prop} {z z1 : ow_MS} {w u C : Nat} (hf : fr P z z1) (hP : ¬ P 43012 ∧ ¬ P 43013 ∧ ¬ P 43015 ∧ ¬ P 43017) (h : rI z w u C) : rI z1 w u C := by
  unfold rI
  rw [(hf _ hP.2.2.2).1, (hf _ hP.1).2.1, (hf _ hP.2.1).2.1, (hf _ hP.2.2.1).2.1]
  exact h
section RD
variable {vl : Nat → Nat} {y : ow_MS} {W C : Nat}
theorem u_X1_reduce_1 {x1 : Int32} {x2 : Int32} {x3 : Int32} {x4 : Int32} {r0 : Nat} {vl : Nat → Nat} {z : ow_MS} {Q : (Int32 × (Nat → Nat) × ow_MS) → Prop} (H : Tt (fun K k => dm_X1_reduce_1 K (d_X1_reduce K k) x1 x2 x3 x4 r0 vl z) (gQ vl Q)) : Tt (fun K k => d_X1_reduce K k 1 x1 x2 x3 x4 r0 vl z) (gQ vl Q) := w_un (fun _ _ => rfl) (w_chV (Nat.le_refl _) H)
theorem u_X1_reduce_3 {x1 : Int32} {x2 : Int32} {x3 : Int32} {x4 : Int32} {r0 : Nat} {vl : Nat → Nat} {z : ow_MS} {Q : (Int32 × (Nat → Nat) × ow_MS) → Prop} (H : Tt (fun K k => dm_X1_reduce_3 K (d_X1_reduce K k) x1 x2 x3 x4 r0 vl z) (gQ vl Q)) : Tt (fun K k => d_X1_reduce K k 3 x1 x2 x3 x4 r0 vl z) (gQ vl Q) := w_un (fun _ _ => rfl) (w_chV (Nat.le_refl _) H)
theorem u_X1_reduce_2 {x1 : Int32} {x2 : Int32} {x3 : Int32} {x4 : Int32} {r0 : Nat} {vl : Nat → Nat} {z : ow_MS} {Q : (Int32 × (Nat → Nat) × ow_MS) → Prop} (H : Tt (fun K k => dm_X1_reduce_2 K (d_X1_reduce K k) x1 x2 x3 x4 r0 vl z) (gQ vl Q)) : Tt (fun K k => d_X1_reduce K k 2 x1 x2 x3 x4 r0 vl z) (gQ vl Q) := w_un (fun _ _ => rfl) (w_chV (Nat.le_refl _) H)
theorem e_X1_reduce {r0 : Nat} {x1 : Int32} {vl : Nat → Nat} {z : ow_MS} {Q : (Int32 × (Nat → Nat) × ow_MS) → Prop} (H : Tt (fun K k => d_X1_reduce K k 0 x1 0 0 0 r0 vl z) Q) : Te (fun K => de_X1_reduce K r0 x1 vl z) Q := w_te H
theorem u_X1_reduce_0 {x1 : Int32} {x2 : Int32} {x3 : Int32} {x4 : Int32} {r0 : Nat} {vl : Nat → Nat} {z : ow_MS} {Q : (Int32 × (Nat → Nat) × ow_MS) → Prop} (H : Tt (fun K k => dm_X1_reduce_0 K (d_X1_reduce K k) x1 x2 x3 x4 r0 vl z) (gQ vl Q)) : Tt (fun K k => d_X1_reduce K k 0 x1 x2 x3 x4 r0 vl z) (gQ vl Q) := w_un (fun _ _ => rfl) (w_chV (Nat.le_refl _) H)
theorem tc_reduce {w u p : Nat} (hv : vI vl W C) (hw : w ≤ 1140) (hwW : w ≤ W) (hI : rI y w u C) (h10 : y.1 43010 = nI p) (hp1 : 2 ≤ p) (hp2 : p ≤ 997) : Te (fun K => de_X1_reduce K 43000 (nI w) vl y) (gQ vl (fun r => fr kpG y r.2.2 ∧ ∃ C' u', vI r.2.1 W C' ∧ rI r.2.2 w u' C')) := by
  let Q : Int32 × (Nat → Nat) × ow_MS → Prop := fun r => fr kpG y r.2.2 ∧ ∃ C' u', vI r.2.1 W C' ∧ rI r.2.2 w u' C'
  have hnz : nI p ≠ 0 := fun h9 => by
    have := (nI_eq (a := p) (b := 0) (by omega) (by omega)).mp h9
    omega
  have hv0 := hv
  obtain ⟨h1, h2, h3, h4, h5, h6, h7, h8, h9, h0⟩ := hv
  have huC : u ≤ C := hI.2.2.1
  have k11 : ∀ g, g = 43011 → kpG g := fun g hg => Or.inl hg
  have c1 : ∀ (d c : Nat) (z : ow_MS), c + d = w → fr (fun g => g = 43011) y z → Tt (fun K k => d_X1_reduce K k 1 (nI w) (nI c) 0 0 43000 vl z) (gQ vl Q) := by
    intro d
    induction d with
    | zero =>
      intro c z hc hz
      refine u_X1_reduce_1 ?_; unfold dm_X1_reduce_1
      exact w_leT (a := w) (b := c) (by omega) (by omega) (w_some ⟨Nat.le_refl _, fr_mono k11 hz, C, u, hv0, rI_fr hz (by omega) hI⟩)
    | succ d ih =>
      intro c z hc hz
      have c3 : ∀ (x3 : Int32) (z1 : ow_MS), fr (fun g => g = 43011) y z1 → Tt (fun K k => d_X1_reduce K k 3 (nI w) (nI c) x3 0 43000 vl z1) (gQ vl Q) := by
        intro x3 z1 hz1
        refine u_X1_reduce_3 ?_; unfold dm_X1_reduce_3
        rw [nI_1]
        exact ih (c + 1) z1 (by omega) hz1
      have hIz := rI_fr hz (by omega) hI
      refine u_X1_reduce_1 ?_; unfold dm_X1_reduce_1
      refine w_leF (a := w) (b := c) (by omega) (by omega) (w_crI (ch_43011.trans h1) rfl (by omega) rfl (w_if (fun _ => c3 _ z hz) (fun _ => ?_)))
      rcases hIz.2.2.2.1 c (by omega) with hn | ⟨a, b, q1, q2, q3, q4⟩
      · refine w_crI (ch_43012.trans h2) rfl (by omega) hn (w_ifT rfl ?_)
        refine w_dc1 (tc_keepRow (f := c) hv0 hw hwW (by omega) hIz hn (((hz 43010 (by omega)).1).trans h10) hp1 hp2) ?_
        rintro x v z1 ⟨r1, r2, r3⟩
        exact w_chV r1 (w_some ⟨Nat.le_refl _, fr_tr (fr_mono k11 hz) r2, r3⟩)
      · have c2 : ∀ (d2 i : Nat) (x3 : Int32) (z1 : ow_MS), b ≤ i + d2 → i < 2 ^ 31 → fr (fun g => g = 43011) y z1 → Tt (fun K k => d_X1_reduce K k 2 (nI w) (nI c) x3 (nI i) 43000 vl z1) (gQ vl Q) := by
          intro d2
          induction d2 with
          | zero =>
            intro i x3 z1 hi hi2 hz1
            have e13 : z1.2.1 43013 c = nI b := by
              rw [(hz1 43013 (by omega)).2.1, ← (hz 43013 (by omega)).2.1]
              exact q3
            refine u_X1_reduce_2 ?_; unfold dm_X1_reduce_2
            exact w_crI (ch_43013.trans h3) rfl (by omega) e13 (w_leT (a := b) (b := i) (by omega) (by omega) (c3 _ z1 hz1))
          | succ d2 ih2 =>
            intro i x3 z1 hi hi2 hz1
            have e13 : z1.2.1 43013 c = nI b := by
              rw [(hz1 43013 (by omega)).2.1, ← (hz 43013 (by omega)).2.1]
              exact q3
            refine u_X1_reduce_2 ?_; unfold dm_X1_reduce_2
            refine w_crI (ch_43013.trans h3) rfl (by omega) e13 (w_le (a := b) (b := i) (by omega) (by omega) (fun _ => c3 _ z1 hz1) (fun hlt => ?_))
            obtain ⟨j, j1, j2⟩ := (rI_fr hz1 (by omega) hI).2.2.2.2 i (by omega)
            have ep : z1.1 43010 = nI p := ((hz1 43010 (by omega)).1).trans h10
            refine w_crI (ch_43015.trans h5) rfl (by omega) j1 (w_crI (ch_43015.trans h5) rfl (by omega) j1 (w_crI (ch_43011.trans h1) rfl (by omega) rfl (w_rdF ep (w_crI (ch_43016.trans h6) rfl (by omega) rfl (w_rdF ep (w_nzI hnz (w_ctI (ch_43011.trans h1) rfl (by omega) ?_)))))))
            rw [nI_1]
            exact ih2 (i + 1) _ _ (by omega) (by omega) (fr_I2 hz1 rfl)
        exact w_crI (ch_43012.trans h2) rfl (by omega) q1 (w_ifF (rn_neg1 q2) (w_crI (ch_43012.trans h2) rfl (by omega) q1 (c2 b a _ z (by omega) q2 hz)))
  refine e_X1_reduce ?_
  refine u_X1_reduce_0 ?_; unfold dm_X1_reduce_0
  exact c1 w 0 y (by omega) fr_rf
theorem u_X1_eliminate_1 {x1 : Int32} {x2 : Int32} {x3 : Int32} {x4 : Int32} {x5 : Int32} {r0 : Nat} {vl : Nat → Nat} {z : ow_MS} {Q : (Int32 × (Nat → Nat) × ow_MS) → Prop} (H : Tt (fun K k => dm_X1_eliminate_1 K (d_X1_eliminate K k) x1 x2 x3 x4 x5 r0 vl z) (gQ vl Q)) : Tt (fun K k => d_X1_eliminate K k 1 x1 x2 x3 x4 x5 r0 vl z) (gQ vl Q) := w_un (fun _ _ => rfl) (w_chV (Nat.le_refl _) H)
theorem u_X1_eliminate_4 {x1 : Int32} {x2 : Int32} {x3 : Int32} {x4 : Int32} {x5 : Int32} {r0 : Nat} {vl : Nat → Nat} {z : ow_MS} {Q : (Int32 × (Nat → Nat) × ow_MS) → Prop} (H : Tt (fun K k => dm_X1_eliminate_4 K (d_X1_eliminate K k) x1 x2 x3 x4 x5 r0 vl z) (gQ vl Q)) : Tt (fun K k => d_X1_eliminate K k 4 x1 x2 x3 x4 x5 r0 vl z) (gQ vl Q) := w_un (fun _ _ => rfl) (w_chV (Nat.le_refl _) H)
theorem u_X1_eliminate_2 {x1 : Int32} {x2 : Int32} {x3 : Int32} {x4 : Int32} {x5 : Int32} {r0 : Nat} {vl : Nat → Nat} {z : ow_MS} {Q : (Int32 × (Nat → Nat) × ow_MS) → Prop} (H : Tt (fun K k => dm_X1_eliminate_2 K (d_X1_eliminate K k) x1 x2 x3 x4 x5 r0 vl z) (gQ vl Q)) : Tt (fun K k => d_X1_eliminate K k 2 x1 x2 x3 x4 x5 r0 vl z) (gQ vl Q) := w_un (fun _ _ => rfl) (w_chV (Nat.le_refl _) H)
theorem u_X1_eliminate_3 {x1 : Int32} {x2 : Int32} {x3 : Int32} {x4 : Int32} {x5 : Int32} {r0 : Nat} {vl : Nat → Nat} {z : ow_MS} {Q : (Int32 × (Nat → Nat) × ow_MS) → Prop} (H : Tt (fun K k => dm_X1_eliminate_3 K (d_X1_eliminate K k) x1 x2 x3 x4 x5 r0 vl z) (gQ vl Q)) : Tt (fun K k => d_X1_eliminate K k 3 x1 x2 x3 x4 x5 r0 vl z) (gQ vl Q) := w_un (fun _ _ => rfl) (w_chV (Nat.le_refl _) H)
theorem e_X1_eliminate {r0 : Nat} {x1 : Int32} {vl : Nat → Nat} {z : ow_MS} {Q : (Int32 × (Nat → Nat) × ow_MS) → Prop} (H : Tt (fun K k => d_X1_eliminate K k 0 x1 0 0 0 0 r0 vl z) Q) : Te (fun K => de_X1_eliminate K r0 x1 vl z) Q := w_te H
theorem u_X1_eliminate_0 {x1 : Int32} {x2 : Int32} {x3 : Int32} {x4 : Int32} {x5 : Int32} {r0 : Nat} {vl : Nat → Nat} {z : ow_MS} {Q : (Int32 × (Nat → Nat) × ow_MS) → Prop} (H : Tt (fun K k => dm_X1_eliminate_0 K (d_X1_eliminate K k) x1 x2 x3 x4 x5 r0 vl z) (gQ vl Q)) : Tt (fun K k => d_X1_eliminate K k 0 x1 x2 x3 x4 x5 r0 vl z) (gQ vl Q) := w_un (fun _ _ => rfl) (w_chV (Nat.le_refl _) H)
theorem tc_eliminate {o p c ci : Nat} {S : ow_NP} {G : Nat → Int32} {Ls : Nat → Nat → Nat} {ns : Nat → Nat} {dg : Int} {wf : Nat → Bool} (hv : vI vl W C) (hy : cAt y 44000 (c, ci, S, G)) (hvn : vn c S) (hc : c ≤ 8) (hwf : gaO c S wf) (hL : LpY y S G c Ls ns) (hly : LyY y c ns dg) (htb : tbP y) (ho : o < c + 1) (h10 : y.1 43010 = nI p) (hp1 : 2 ≤ p) (hp2 : p ≤ 997) (hsz : ∀ h, smH (bkF ns dg) h 0 (2 ^ c) ≤ 1140 ∧ (h < 10 → smH (bkF ns dg) h 0 (2 ^ c) ≤ W)) : Te (fun K => de_X1_eliminate K 43000 (nI o) vl y) (gQ vl (fun r => fr kpG y r.2.2 ∧ ∃ C', vI r.2.1 W C')) := by
  let Q : Int32 × (Nat → Nat) × ow_MS → Prop := fun r => fr kpG y r.2.2 ∧ ∃ C', vI r.2.1 W C'
  generalize hw : smH (bkF ns dg) (o + 1) 0 (2 ^ c) = w
  have hw1 : w ≤ 1140 := by rw [← hw]; exact (hsz _).1
  have hwW : w ≤ W := by rw [← hw]; exact (hsz _).2 (by omega)
  have h256 : 2 ^ c ≤ 256 := two_mono (b := 8) hc
  have c1 : ∀ (d s : Nat) (x3 : Int32) (v : Nat → Nat) (z : ow_MS) (C' u : Nat), s + d = 2 ^ c → vI v W C' → fr kpG y z → rI z w u C' → Tt (fun K k => d_X1_eliminate K k 1 (nI o) (nI w) x3 (nI s) 0 43000 v z) (gQ v Q) := by
    intro d
    induction d with
    | zero =>
      intro s x3 v z C' u hs hv' hz hI
      have hz4 : cAt z 44000 (c, ci, S, G) := cAt_fr hz (fun g hg h9 => by unfold cP at hg; unfold kpG at h9; omega) hy
      refine u_X1_eliminate_1 ?_; unfold dm_X1_eliminate_1
      refine w_rdF hz4.1 ?_
      rw [shl1 (by omega)]
      exact w_leT (a := 2 ^ c) (b := s) (by omega) (by omega) (w_some ⟨Nat.le_refl _, hz, C', hv'⟩)
    | succ d ih =>
      intro s x3 v z C' u hs hv' hz hI
      have hz4 : cAt z 44000 (c, ci, S, G) := cAt_fr hz (fun g hg h9 => by unfold cP at hg; unfold kpG at h9; omega) hy
      have hsc : s < 2 ^ c := by omega
      have hns := (hL s hsc).2
      have two9 : 2 ^ ns s ≤ 512 := two_mono (b := 9) hns
      have c4 : ∀ (x3 : Int32) (v : Nat → Nat) (z : ow_MS) (C' u : Nat), vI v W C' → fr kpG y z → rI z w u C' → Tt (fun K k => d_X1_eliminate K k 4 (nI o) (nI w) x3 (nI s) 0 43000 v z) (gQ v Q) := by
        intro x3 v z C' u hv' hz hI
        refine u_X1_eliminate_4 ?_; unfold dm_X1_eliminate_4
        rw [nI_1]
        exact ih (s + 1) x3 v z C' u (by omega) hv' hz hI
      have fits : ∀ kp, kpF (ns s) (pc s) dg = some kp → pc s = o → ∀ (d2 m : Nat) (x3 : Int32) (v : Nat → Nat) (z : ow_MS) (C' u : Nat), m + d2 = 2 ^ ns s → vI v W C' → fr kpG y z → rI z w u C' → Tt (fun K k => d_X1_eliminate K k 2 (nI o) (nI w) x3 (nI s) (nI m) 43000 v z) (gQ v Q) := by
        intro kp hkp hpo d2
        induction d2 with
        | zero =>
          intro m x3 v z C' u hm hv' hz hI
          have e3 : z.2.1 43003 s = nI (ns s) := by
            rw [(hz 43003 (by unfold kpG; omega)).2.1]
            exact (hL s hsc).1.2.1
          refine u_X1_eliminate_2 ?_; unfold dm_X1_eliminate_2
          refine w_crI ch_43003 rfl (by omega) e3 ?_
          rw [shl1 (by omega)]
          exact w_leT (a := 2 ^ ns s) (b := m) (by omega) (by omega) (c4 _ v z C' u hv' hz hI)
        | succ d2 ih2 =>
          intro m x3 v z C' u hm hv' hz hI
          have e3 : z.2.1 43003 s = nI (ns s) := by
            rw [(hz 43003 (by unfold kpG; omega)).2.1]
            exact (hL s hsc).1.2.1
          have e7 : z.2.1 43007 s = nI kp := by
            rw [(hz 43007 (by unfold kpG; omega)).2.1, (hly.1 s hsc).1, hkp]
            rfl
          have e8 : z.2.1 43008 s = nI (smH (bkF ns dg) (pc s) 0 s) := by
            rw [(hz 43008 (by unfold kpG; omega)).2.1]
            exact (hly.1 s hsc).2
          have e5 : z.2.1 43005 m = nI (cpN (pc m) m) := by
            rw [(hz 43005 (by unfold kpG; omega)).2.1]
            exact htb m (by omega)
          have c3 : ∀ (x3 : Int32) (v : Nat → Nat) (z : ow_MS) (C' u : Nat), vI v W C' → fr kpG y z → rI z w u C' → Tt (fun K k => d_X1_eliminate K k 3 (nI o) (nI w) x3 (nI s) (nI m) 43000 v z) (gQ v Q) := by
            intro x3 v z C' u hv' hz hI
            refine u_X1_eliminate_3 ?_; unfold dm_X1_eliminate_3
            rw [nI_1]
            exact ih2 (m + 1) x3 v z C' u (by omega) hv' hz hI
          have hkp9 : kp ≤ ns s := kpF_le hkp
          have hpm : pc m ≤ ns s := pc_le (by omega)
          refine u_X1_eliminate_2 ?_; unfold dm_X1_eliminate_2
          refine w_crI ch_43003 rfl (by omega) e3 ?_
          rw [shl1 (by omega), bc_pc (show m < 4096 by omega)]
          refine w_leF (a := 2 ^ ns s) (b := m) (by omega) (by omega) (w_crI ch_43007 rfl (by omega) e7 (w_eqN (by omega) (by omega) (fun hpc => ?_) (fun _ => c3 _ v z C' u hv' hz hI)))
          have hk2 : kpF (ns s) (pc s) dg = some (pc m) := by rw [hkp, hpc]
          have hix := ix_lt hsc hns (show m < 2 ^ ns s by omega) hk2
          rw [hpo] at hix
          have hoW := (hsz o).2 (by omega)
          have ho1 := (hsz o).1
          have hv2 := hv'
          obtain ⟨h1, h2, h3, h4, h5, h6, h7, h8, h9, h0⟩ := hv'
          refine w_crI ch_43008 rfl (by omega) e8 (w_crI ch_43005 rfl (by omega) e5 ?_)
          rw [nI_add]
          refine w_crI (ch_43014.trans h4) rfl (show smH (bkF ns dg) (pc s) 0 s + cpN (pc m) m < W by rw [hpo]; omega) rfl (w_if (fun _ => ?_) (fun _ => c3 _ v z C' u hv2 hz hI))
          have ep : z.1 43010 = nI p := ((hz 43010 (by unfold kpG; omega)).1).trans h10
          have hz4 : cAt z 44000 (c, ci, S, G) := cAt_fr hz (fun g hg h9 => by unfold cP at hg; unfold kpG at h9; omega) hy
          refine w_cs0 (tc_writeImage (vl := v) (W := W) (p := p) (dg := dg) hz4 hvn hc hwf (LpY_fr hz (by unfold kpG; omega) hL) (LyY_fr hz (by unfold kpG; omega) hly) (tbP_fr hz (by unfold kpG; omega) htb) hsc (show m < 2 ^ ns s by omega) hk2 h1 (by omega) (by rw [hpo, hw]; exact hwW) ep hp1 hp2) (fun z1 hz1 => ?_)
          have hf1 : fr kpG y z1 := fr_tr hz (fr_mono (fun g hg => Or.inl hg) hz1)
          refine w_dc1 (tc_reduce hv2 hw1 hwW (rI_fr hz1 (by omega) hI) (((hf1 43010 (by unfold kpG; omega)).1).trans h10) hp1 hp2) ?_
          rintro x v2 z2 ⟨r1, r2, C2, u2, r3, r4⟩
          exact w_chV r1 (c3 _ v2 z2 C2 u2 r3 (fr_tr hf1 r2) r4)
      have e7 : z.2.1 43007 s = oM (kpF (ns s) (pc s) dg) := by
        rw [(hz 43007 (by unfold kpG; omega)).2.1]
        exact (hly.1 s hsc).1
      have hps := pc_le (c := c) hsc
      refine u_X1_eliminate_1 ?_; unfold dm_X1_eliminate_1
      refine w_rdF hz4.1 ?_
      rw [shl1 (by omega), bc_pc (show s < 4096 by omega)]
      refine w_leF (a := 2 ^ c) (b := s) (by omega) (by omega) (w_eqN (by omega) (by omega) (fun hpo => w_crI ch_43007 rfl (by omega) e7 ?_) (fun _ => c4 _ v z C' u hv' hz hI))
      cases hkp : kpF (ns s) (pc s) dg with
      | none => exact w_ifT rfl (c4 _ v z C' u hv' hz hI)
      | some kp =>
        have hkp9 : kp ≤ ns s := kpF_le hkp
        exact w_ifF (rn_neg1 (by omega)) (fits kp hkp hpo (2 ^ ns s) 0 x3 v z C' u (by omega) hv' hz hI)
  have hv0 := hv
  obtain ⟨h1, h2, h3, h4, h5, h6, h7, h8, h9, h0⟩ := hv
  refine e_X1_eliminate ?_
  refine u_X1_eliminate_0 ?_; unfold dm_X1_eliminate_0
  rw [nI_1]
  refine w_crI ch_43009 rfl (by omega) ((hly.2 (o + 1) (by omega)).trans (by rw [hw])) (w_wrF ?_)
  refine w_cs0 (tc_fill (a := 0) (b := w) (ch_43012.trans h2) (by omega) hwW (by omega)) ?_
  rintro z1 ⟨f1, f2⟩
  refine w_cs0 (tc_fill (a := 0) (b := w) (ch_43011.trans h1) (by omega) hwW (by omega)) ?_
  rintro z2 ⟨f3, f4⟩
  have g12 : ∀ k, k < w → z2.2.1 43012 k = -1 := fun k hk => by
    rw [(f4 43012 (by omega)).2.1, f1 k, if_pos (by omega)]
  refine c1 (2 ^ c) 0 0 vl z2 C 0 (by omega) hv0 (fr_tr (fr_tr (fr_F (by unfold kpG; omega)) (fr_mono (fun g hg => by unfold kpG; omega) f2)) (fr_mono (fun g hg => by unfold kpG; omega) f4)) ⟨?_, Nat.zero_le _, Nat.zero_le _, fun k hk => Or.inl (g12 k hk), fun i hi => absurd hi (Nat.not_lt_zero _)⟩
  rw [(f4 43017 (by omega)).1, (f2 43017 (by omega)).1]
  exact po_usF_at
end RD
end
section
/-! 99zzzzzzzr.clay -/
/-! the class: generators laid out -/
def dgI (d : Nat) : Int := (d : Int) - 10
theorem lk_A : ∀ n : Fin 10, ∀ h : Fin 9, ∀ d : Fin 29, (kpF n.val h.val (dgI d.val) = none → ¬ (nI n.val + (nI d.val - 10) - nI h.val) &&& 1 = 0 ∨ nI n.val + (nI d.val - 10) - nI h.val < 0 ∨ 2 * nI n.val < nI n.val + (nI d.val - 10) - nI h.val) := by decide +kernel
theorem lk_B : ∀ n : Fin 10, ∀ h : Fin 9, ∀ d : Fin 29, ∀ k : Fin 10, (kpF n.val h.val (dgI d.val) = some k.val → (nI n.val + (nI d.val - 10) - nI h.val) &&& 1 = 0 ∧ ¬ nI n.val + (nI d.val - 10) - nI h.val < 0 ∧ ¬ 2 * nI n.val < nI n.val + (nI d.val - 10) - nI h.val ∧ (nI n.val + (nI d.val - 10) - nI h.val) / 2 = nI k.val) := by decide +kernel
theorem ch_450 {vl : Nat → Nat} {j : Nat} (hj : j < 11) : ((cX vl).2 (43000 + 2001 + j)).2.1 = 11 := by
  have key : ∀ j, j < 11 → dynL.contains (43000 + 2001 + j) = false ∧ (cX_f (43000 + 2001 + j)).2.1 = 11 := by decide +kernel
  obtain ⟨k1, k2⟩ := key j hj
  show (if dynL.contains (43000 + 2001 + j) = true then (0, vl (43000 + 2001 + j), []) else cX_f (43000 + 2001 + j)).2.1 = 11
  rw [if_neg (by rw [k1]; decide)]
  exact k2
/-- the table of numbers of choices -/
def chP (y : ow_MS) : Prop := ∀ i k, i < 10 → k ≤ i → y.2.1 (45001 + i) k = nI (biN i k)
def lyG (g : Nat) : Prop := g = 43007 ∨ g = 43008 ∨ g = 43009 ∨ g = 43011 ∨ g = 43012 ∨ g = 43013 ∨ g = 43014
theorem lyG9 : lyG 43009 := Or.inr (Or.inr (Or.inl rfl))
theorem lyG7 : lyG 43007 := Or.inl rfl
theorem lyG8 : lyG 43008 := Or.inr (Or.inl rfl)
def lyA (z : ow_MS) (ns : Nat → Nat) (dg : Int) (s : Nat) : Prop := (∀ t, t < s → z.2.1 43007 t = oM (kpF (ns t) (pc t) dg) ∧ z.2.1 43008 t = nI (smH (bkF ns dg) (pc t) 0 t)) ∧ ∀ h, h < 10 → z.2.1 43009 h = nI (smH (bkF ns dg) h 0 s)
theorem lyA_st {z1 : ow_MS} {ns : Nat → Nat} {dg : Int} {s b : Nat} (hb : b = bkF ns dg s) (g1 : ∀ t, t < s + 1 → z1.2.1 43007 t = oM (kpF (ns t) (pc t) dg) ∧ z1.2.1 43008 t = nI (smH (bkF ns dg) (pc t) 0 t)) (g2 : ∀ h, h < 10 → z1.2.1 43009 h = nI (smH (bkF ns dg) h 0 s)) : lyA (usI z1 43009 (pc s) (nI (smH (bkF ns dg) (pc s) 0 s + b))) ns dg (s + 1) := by
  refine ⟨fun t ht => ⟨?_, ?_⟩, fun h hh => ?_⟩
  · exact rd_ot (by omega) (g1 t ht).1
  · exact rd_ot (by omega) (g1 t ht).2
  · show _ = nI (smH (bkF ns dg) h 0 s + if pc s = h then bkF ns dg (0 + s) else 0)
    by_cases e9 : h = pc s
    · rw [if_pos e9.symm, Nat.zero_add, ← hb, e9]
      exact po_usI_at
    · rw [if_neg (fun h9 => e9 h9.symm), Nat.add_zero]
      exact (po_usI_ne e9).trans (g2 h hh)
theorem lyA_pr {z : ow_MS} {ns : Nat → Nat} {dg : Int} {s : Nat} {t0 : Int32} (h0 : t0 = oM (kpF (ns s) (pc s) dg)) (hA : lyA z ns dg s) : (∀ t, t < s + 1 → (usI (usI z 43007 s t0) 43008 s (nI (smH (bkF ns dg) (pc s) 0 s))).2.1 43007 t = oM (kpF (ns t) (pc t) dg) ∧ (usI (usI z 43007 s t0) 43008 s (nI (smH (bkF ns dg) (pc s) 0 s))).2.1 43008 t = nI (smH (bkF ns dg) (pc t) 0 t)) ∧ ∀ h, h < 10 → (usI (usI z 43007 s t0) 43008 s (nI (smH (bkF ns dg) (pc s) 0 s))).2.1 43009 h = nI (smH (bkF ns dg) h 0 s) := by
  refine ⟨fun t1 ht1 => ?_, fun h hh => rd_ot (by omega) (rd_ot (by omega) (hA.2 h hh))⟩
  by_cases e9 : t1 = s
  · subst e9
    exact ⟨rd_ot (by omega) (po_usI_at.trans h0), po_usI_at⟩
  · obtain ⟨a1, a2⟩ := hA.1 t1 (by omega)
    exact ⟨rd_ot (by omega) ((po_usI_ne e9).trans a1), (po_usI_ne e9).trans (rd_ot (by omega) a2)⟩
section LY
variable {vl : Nat → Nat} {y : ow_MS} {W C : Nat}
theorem u_X1_layOut_6 {x1 : Int32} {x2 : Int32} {x3 : Int32} {x4 : Int32} {x5 : Int32} {r0 : Nat} {t0 : Int32} {t1 : Int32} {t2 : Int32} {vl : Nat → Nat} {z : ow_MS} {Q : (Unit × (Nat → Nat) × ow_MS) → Prop} (H : Tt (fun K k => dm_X1_layOut_6 K (d_X1_layOut K k) x1 x2 x3 x4 x5 r0 t0 t1 t2 vl z) (gQ vl Q)) : Tt (fun K k => d_X1_layOut K k 6 x1 x2 x3 x4 x5 r0 t0 t1 t2 vl z) (gQ vl Q) := w_un (fun _ _ => rfl) (w_chV (Nat.le_refl _) H)
theorem tc_lay6 {d c : Nat} {ns : Nat → Nat} (hsz : ∀ h, smH (bkF ns (dgI d)) h 0 (2 ^ c) ≤ 1140) : ∀ (e i : Nat) (v : Nat → Nat) (z : ow_MS) (W' : Nat), i + e = 10 → vI v W' C → (∀ h, h < i → smH (bkF ns (dgI d)) h 0 (2 ^ c) ≤ W') → fr lyG y z → LyY z c ns (dgI d) → Tt (fun K k => d_X1_layOut K k 6 (nI d - 10) (nI i) 0 0 0 43000 0 0 0 v z) (gQ v (fun r => fr lyG y r.2.2 ∧ LyY r.2.2 c ns (dgI d) ∧ ∃ W', vI r.2.1 W' C ∧ ∀ h, h < 10 → smH (bkF ns (dgI d)) h 0 (2 ^ c) ≤ W')) := by
  intro e
  induction e with
  | zero =>
    intro i v z W' hi hv' hle hz hly
    have hv2 := hv'
    obtain ⟨h1, h2, h3, h4, h5, h6, h7, h8, h9, h0⟩ := hv'
    refine u_X1_layOut_6 ?_; unfold dm_X1_layOut_6
    rw [show uw_len (cX v) z (43000 + 9) = 10 from rfl]
    refine w_leT (a := 10) (b := i) (by omega) (by omega) (w_cs0 (tc_fillA (ch_43014.trans h4) (by omega)) ?_)
    rintro z1 ⟨-, f2⟩
    exact w_some ⟨Nat.le_refl _, fr_tr hz (fr_mono (fun g hg => by unfold lyG; omega) f2), LyY_fr f2 (by omega) hly, W', hv2, fun h hh => hle h (by omega)⟩
  | succ e ih =>
    intro i v z W' hi hv' hle hz hly
    refine u_X1_layOut_6 ?_; unfold dm_X1_layOut_6
    rw [show uw_len (cX v) z (43000 + 9) = 10 from rfl]
    refine w_leF (a := 10) (b := i) (by omega) (by omega) (w_crI ch_43009 rfl (by omega) (hly.2 i (by omega)) (w_dc1 (tc_makeRoom hv' (hsz i)) ?_))
    rintro x v1 z1 ⟨r1, r2, W2, r3, r4, r5⟩
    refine w_chV r1 ?_
    rw [nI_1]
    refine ih (i + 1) v1 z1 W2 (by omega) r3 (fun h hh => ?_) (fr_tr hz (fr_mono (fun g hg => by unfold lyG; omega) r2)) (LyY_fr r2 (by omega) hly)
    rcases Nat.lt_or_ge h i with h9 | h9
    · exact Nat.le_trans (hle h h9) r4
    · rw [show h = i by omega]
      exact r5
theorem u_X1_layOut_1 {x1 : Int32} {x2 : Int32} {x3 : Int32} {x4 : Int32} {x5 : Int32} {r0 : Nat} {t0 : Int32} {t1 : Int32} {t2 : Int32} {vl : Nat → Nat} {z : ow_MS} {Q : (Unit × (Nat → Nat) × ow_MS) → Prop} (H : Tt (fun K k => dm_X1_layOut_1 K (d_X1_layOut K k) x1 x2 x3 x4 x5 r0 t0 t1 t2 vl z) (gQ vl Q)) : Tt (fun K k => d_X1_layOut K k 1 x1 x2 x3 x4 x5 r0 t0 t1 t2 vl z) (gQ vl Q) := w_un (fun _ _ => rfl) (w_chV (Nat.le_refl _) H)
theorem u_X1_layOut_5 {x1 : Int32} {x2 : Int32} {x3 : Int32} {x4 : Int32} {x5 : Int32} {r0 : Nat} {t0 : Int32} {t1 : Int32} {t2 : Int32} {vl : Nat → Nat} {z : ow_MS} {Q : (Unit × (Nat → Nat) × ow_MS) → Prop} (H : Tt (fun K k => dm_X1_layOut_5 K (d_X1_layOut K k) x1 x2 x3 x4 x5 r0 t0 t1 t2 vl z) (gQ vl Q)) : Tt (fun K k => d_X1_layOut K k 5 x1 x2 x3 x4 x5 r0 t0 t1 t2 vl z) (gQ vl Q) := w_un (fun _ _ => rfl) (w_chV (Nat.le_refl _) H)
theorem u_X1_layOut_4 {x1 : Int32} {x2 : Int32} {x3 : Int32} {x4 : Int32} {x5 : Int32} {r0 : Nat} {t0 : Int32} {t1 : Int32} {t2 : Int32} {vl : Nat → Nat} {z : ow_MS} {Q : (Unit × (Nat → Nat) × ow_MS) → Prop} (H : Tt (fun K k => dm_X1_layOut_4 K (d_X1_layOut K k) x1 x2 x3 x4 x5 r0 t0 t1 t2 vl z) (gQ vl Q)) : Tt (fun K k => d_X1_layOut K k 4 x1 x2 x3 x4 x5 r0 t0 t1 t2 vl z) (gQ vl Q) := w_un (fun _ _ => rfl) (w_chV (Nat.le_refl _) H)
theorem u_X1_layOut_3 {x1 : Int32} {x2 : Int32} {x3 : Int32} {x4 : Int32} {x5 : Int32} {r0 : Nat} {t0 : Int32} {t1 : Int32} {t2 : Int32} {vl : Nat → Nat} {z : ow_MS} {Q : (Unit × (Nat → Nat) × ow_MS) → Prop} (H : Tt (fun K k => dm_X1_layOut_3 K (d_X1_layOut K k) x1 x2 x3 x4 x5 r0 t0 t1 t2 vl z) (gQ vl Q)) : Tt (fun K k => d_X1_layOut K k 3 x1 x2 x3 x4 x5 r0 t0 t1 t2 vl z) (gQ vl Q) := w_un (fun _ _ => rfl) (w_chV (Nat.le_refl _) H)
theorem u_X1_layOut_2 {x1 : Int32} {x2 : Int32} {x3 : Int32} {x4 : Int32} {x5 : Int32} {r0 : Nat} {t0 : Int32} {t1 : Int32} {t2 : Int32} {vl : Nat → Nat} {z : ow_MS} {Q : (Unit × (Nat → Nat) × ow_MS) → Prop} (H : Tt (fun K k => dm_X1_layOut_2 K (d_X1_layOut K k) x1 x2 x3 x4 x5 r0 t0 t1 t2 vl z) (gQ vl Q)) : Tt (fun K k => d_X1_layOut K k 2 x1 x2 x3 x4 x5 r0 t0 t1 t2 vl z) (gQ vl Q) := w_un (fun _ _ => rfl) (w_chV (Nat.le_refl _) H)
theorem e_X1_layOut {r0 : Nat} {x1 : Int32} {vl : Nat → Nat} {z : ow_MS} {Q : (Unit × (Nat → Nat) × ow_MS) → Prop} (H : Tt (fun K k => d_X1_layOut K k 0 x1 0 0 0 0 r0 0 0 0 vl z) Q) : Te (fun K => de_X1_layOut K r0 x1 vl z) Q := w_te H
theorem u_X1_layOut_0 {x1 : Int32} {x2 : Int32} {x3 : Int32} {x4 : Int32} {x5 : Int32} {r0 : Nat} {t0 : Int32} {t1 : Int32} {t2 : Int32} {vl : Nat → Nat} {z : ow_MS} {Q : (Unit × (Nat → Nat) × ow_MS) → Prop} (H : Tt (fun K k => dm_X1_layOut_0 K (d_X1_layOut K k) x1 x2 x3 x4 x5 r0 t0 t1 t2 vl z) (gQ vl Q)) : Tt (fun K k => d_X1_layOut K k 0 x1 x2 x3 x4 x5 r0 t0 t1 t2 vl z) (gQ vl Q) := w_un (fun _ _ => rfl) (w_chV (Nat.le_refl _) H)
theorem tc_layOut {d c ci : Nat} {S : ow_NP} {G : Nat → Int32} {Ls : Nat → Nat → Nat} {ns : Nat → Nat} (hv : vI vl W C) (hy : cAt y 44000 (c, ci, S, G)) (hc : c ≤ 8) (hd : d < 29) (hL : LpY y S G c Ls ns) (hch : chP y) (hsz : ∀ h, smH (bkF ns (dgI d)) h 0 (2 ^ c) ≤ 1140) : Te (fun K => de_X1_layOut K 43000 (nI d - 10) vl y) (gQ vl (fun r => fr lyG y r.2.2 ∧ LyY r.2.2 c ns (dgI d) ∧ ∃ W', vI r.2.1 W' C ∧ ∀ h, h < 10 → smH (bkF ns (dgI d)) h 0 (2 ^ c) ≤ W')) := by
  let Q : Unit × (Nat → Nat) × ow_MS → Prop := fun r => fr lyG y r.2.2 ∧ LyY r.2.2 c ns (dgI d) ∧ ∃ W', vI r.2.1 W' C ∧ ∀ h, h < 10 → smH (bkF ns (dgI d)) h 0 (2 ^ c) ≤ W'
  have h256 : 2 ^ c ≤ 256 := two_mono (b := 8) hc
  have c6 := tc_lay6 (y := y) (C := C) hsz
  have c1 : ∀ (e s : Nat) (z : ow_MS), s + e = 2 ^ c → fr lyG y z → lyA z ns (dgI d) s → Tt (fun K k => d_X1_layOut K k 1 (nI d - 10) (nI s) 0 0 0 43000 0 0 0 vl z) (gQ vl Q) := by
    intro e
    induction e with
    | zero =>
      intro s z hs hz hA
      have hz4 : cAt z 44000 (c, ci, S, G) := cAt_fr hz (fun g hg h9 => by unfold cP at hg; unfold lyG at h9; omega) hy
      refine u_X1_layOut_1 ?_; unfold dm_X1_layOut_1
      refine w_rdF hz4.1 ?_
      rw [shl1 (by omega)]
      refine w_leT (a := 2 ^ c) (b := s) (by omega) (by omega) (c6 10 0 vl z W rfl hv (fun h hh => absurd hh (Nat.not_lt_zero _)) hz ?_)
      rw [show s = 2 ^ c by omega] at hA
      exact hA
    | succ e ih =>
      intro s z hs hz hA
      have hz4 : cAt z 44000 (c, ci, S, G) := cAt_fr hz (fun g hg h9 => by unfold cP at hg; unfold lyG at h9; omega) hy
      have hsc : s < 2 ^ c := by omega
      have hns := (hL s hsc).2
      have hps := pc_le (c := c) hsc
      have e3 : ∀ z1, fr lyG y z1 → z1.2.1 43003 s = nI (ns s) := fun z1 h1 => by
        rw [(h1 43003 (by unfold lyG; omega)).2.1]
        exact (hL s hsc).1.2.1
      generalize ht : nI (ns s) + (nI d - 10) - nI (pc s) = t
      -- the end of a state
      have c5 : ∀ (x5 : Int32) (b : Nat) (z1 : ow_MS), fr lyG y z1 → b = bkF ns (dgI d) s → (∀ t, t < s + 1 → z1.2.1 43007 t = oM (kpF (ns t) (pc t) (dgI d)) ∧ z1.2.1 43008 t = nI (smH (bkF ns (dgI d)) (pc t) 0 t)) → (∀ h, h < 10 → z1.2.1 43009 h = nI (smH (bkF ns (dgI d)) h 0 s)) → Tt (fun K k => d_X1_layOut K k 5 (nI d - 10) (nI s) (nI (pc s)) t x5 43000 (nI b) (nI (smH (bkF ns (dgI d)) (pc s) 0 s)) (nI (pc s)) vl z1) (gQ vl Q) := by
        intro x5 b z1 hz1 hb g1 g2
        refine u_X1_layOut_5 ?_; unfold dm_X1_layOut_5
        rw [nI_add, nI_1]
        exact w_ctI ch_43009 rfl (by omega) (ih (s + 1) _ (by omega) (fr_I2 hz1 lyG9) (lyA_st hb g1 g2))
      have c4 : ∀ (x5 t0 : Int32), t0 = oM (kpF (ns s) (pc s) (dgI d)) → (kpF (ns s) (pc s) (dgI d) = none ∧ x5 = 0 ∨ ∃ k, kpF (ns s) (pc s) (dgI d) = some k ∧ x5 = 1 ∧ t / 2 = nI k) → Tt (fun K k => d_X1_layOut K k 4 (nI d - 10) (nI s) (nI (pc s)) t x5 43000 t0 (nI s) 0 vl z) (gQ vl Q) := by
        intro x5 t0 h0 hk
        refine u_X1_layOut_4 ?_; unfold dm_X1_layOut_4
        have g9 : z.2.1 43009 (pc s) = nI (smH (bkF ns (dgI d)) (pc s) 0 s) := hA.2 _ (by omega)
        refine w_ctI ch_43007 rfl (by omega) (w_crI ch_43009 rfl (show pc s < 10 by omega) (rd_ot (by omega) g9) (w_ctI ch_43008 rfl (by omega) (w_crI ch_43009 rfl (show pc s < 10 by omega) (rd_ot (by omega) (rd_ot (by omega) g9)) ?_)))
        have hf : fr lyG y (usI (usI z (43000 + 7) s t0) (43000 + 8) s (nI (smH (bkF ns (dgI d)) (pc s) 0 s))) := fr_I2 (fr_I2 hz lyG7) lyG8
        obtain ⟨k1, k2⟩ := lyA_pr h0 hA
        rcases hk with ⟨hn, rfl⟩ | ⟨k, hk, rfl, hk2⟩
        · refine w_ifT rfl (c5 0 0 _ hf ?_ k1 k2)
          unfold bkF
          rw [hn]
        · have hkn := kpF_le hk
          refine w_ifF (by decide) (w_crI ch_43003 rfl (by omega) (e3 _ hf) (w_crX rfl (show ns s < 11 by omega) (w_nzI (by decide) ?_)))
          rw [hk2]
          refine w_crI (ch_450 (show ns s < 11 by omega)) rfl (show k < 11 by omega) ?_ (c5 1 (biN (ns s) k) _ hf ?_ k1 k2)
          · show (usI (usI z (43000 + 7) s t0) (43000 + 8) s (nI (smH (bkF ns (dgI d)) (pc s) 0 s))).2.1 (45001 + ns s) k = _
            rw [(hf (45001 + ns s) (by unfold lyG; omega)).2.1]
            exact hch (ns s) k (by omega) hkn
          · unfold bkF
            rw [hk]
      have c3a : kpF (ns s) (pc s) (dgI d) = none → Tt (fun K k => d_X1_layOut K k 3 (nI d - 10) (nI s) (nI (pc s)) t 0 43000 0 0 0 vl z) (gQ vl Q) := by
        intro hn
        refine u_X1_layOut_3 ?_; unfold dm_X1_layOut_3
        exact w_ifT rfl (c4 0 (-1) (by rw [hn]; rfl) (Or.inl ⟨hn, rfl⟩))
      have c2 : kpF (ns s) (pc s) (dgI d) = none → Tt (fun K k => d_X1_layOut K k 2 (nI d - 10) (nI s) (nI (pc s)) t 0 43000 0 0 0 vl z) (gQ vl Q) := by
        intro hn
        refine u_X1_layOut_2 ?_; unfold dm_X1_layOut_2
        exact c3a hn
      refine u_X1_layOut_1 ?_; unfold dm_X1_layOut_1
      refine w_rdF hz4.1 ?_
      rw [shl1 (by omega), bc_pc (show s < 4096 by omega)]
      refine w_leF (a := 2 ^ c) (b := s) (by omega) (by omega) (w_crI ch_43003 rfl (by omega) (e3 z hz) ?_)
      rw [ht]
      cases hk : kpF (ns s) (pc s) (dgI d) with
      | none =>
        have h9 := lk_A ⟨ns s, by omega⟩ ⟨pc s, by omega⟩ ⟨d, hd⟩ hk
        dsimp only at h9
        rw [ht] at h9
        refine w_if (fun a1 => w_if (fun _ => c2 hk) (fun a2 => w_crI ch_43003 rfl (by omega) (e3 z hz) (w_ifT ?_ (c2 hk)))) (fun _ => c2 hk)
        rcases h9 with h9 | h9 | h9
        · exact absurd a1 h9
        · exact absurd h9 a2
        · exact h9
      | some k =>
        have hkn := kpF_le hk
        obtain ⟨b1, b2, b3, b4⟩ := lk_B ⟨ns s, by omega⟩ ⟨pc s, by omega⟩ ⟨d, hd⟩ ⟨k, by omega⟩ hk
        dsimp only at b1 b2 b3 b4
        rw [ht] at b1 b2 b3 b4
        refine w_ifT b1 (w_ifF b2 (w_crI ch_43003 rfl (by omega) (e3 z hz) (w_ifF b3 ?_)))
        refine u_X1_layOut_3 ?_; unfold dm_X1_layOut_3
        refine w_ifF (by decide) (w_nzI (by decide) (c4 1 (t / 2) ?_ (Or.inr ⟨k, hk, rfl, b4⟩)))
        rw [hk, b4]
        rfl
  refine e_X1_layOut ?_
  refine u_X1_layOut_0 ?_; unfold dm_X1_layOut_0
  refine w_cs0 (tc_fillA (l := 10) rfl (by omega)) ?_
  rintro z1 ⟨f1, f2⟩
  exact c1 (2 ^ c) 0 z1 (by omega) (fr_mono (fun g hg => by unfold lyG; omega) f2) ⟨fun t ht => absurd ht (Nat.not_lt_zero _), fun h hh => f1 h hh⟩
def rkG (g : Nat) : Prop := lyG g ∨ kpG g ∨ g = 43018
theorem ix_56 : ∀ o : Fin 9, ∀ d : Fin 29, nI o.val * 56 + (nI d.val - 10) - (-20) = nI (56 * o.val + d.val + 10) := by decide +kernel
theorem u_X1_rankDegree_1 {x1 : Int32} {x2 : Int32} {x3 : Int32} {x4 : Int32} {x5 : Int32} {r0 : Nat} {t0 : Int32} {t1 : Int32} {vl : Nat → Nat} {z : ow_MS} {Q : (Unit × (Nat → Nat) × ow_MS) → Prop} (H : Tt (fun K k => dm_X1_rankDegree_1 K (d_X1_rankDegree K k) x1 x2 x3 x4 x5 r0 t0 t1 vl z) (gQ vl Q)) : Tt (fun K k => d_X1_rankDegree K k 1 x1 x2 x3 x4 x5 r0 t0 t1 vl z) (gQ vl Q) := w_un (fun _ _ => rfl) (w_chV (Nat.le_refl _) H)
theorem u_X1_rankDegree_3 {x1 : Int32} {x2 : Int32} {x3 : Int32} {x4 : Int32} {x5 : Int32} {r0 : Nat} {t0 : Int32} {t1 : Int32} {vl : Nat → Nat} {z : ow_MS} {Q : (Unit × (Nat → Nat) × ow_MS) → Prop} (H : Tt (fun K k => dm_X1_rankDegree_3 K (d_X1_rankDegree K k) x1 x2 x3 x4 x5 r0 t0 t1 vl z) (gQ vl Q)) : Tt (fun K k => d_X1_rankDegree K k 3 x1 x2 x3 x4 x5 r0 t0 t1 vl z) (gQ vl Q) := w_un (fun _ _ => rfl) (w_chV (Nat.le_refl _) H)
theorem u_X1_rankDegree_5 {x1 : Int32} {x2 : Int32} {x3 : Int32} {x4 : Int32} {x5 : Int32} {r0 : Nat} {t0 : Int32} {t1 : Int32} {vl : Nat → Nat} {z : ow_MS} {Q : (Unit × (Nat → Nat) × ow_MS) → Prop} (H : Tt (fun K k => dm_X1_rankDegree_5 K (d_X1_rankDegree K k) x1 x2 x3 x4 x5 r0 t0 t1 vl z) (gQ vl Q)) : Tt (fun K k => d_X1_rankDegree K k 5 x1 x2 x3 x4 x5 r0 t0 t1 vl z) (gQ vl Q) := w_un (fun _ _ => rfl) (w_chV (Nat.le_refl _) H)
theorem u_X1_rankDegree_4 {x1 : Int32} {x2 : Int32} {x3 : Int32} {x4 : Int32} {x5 : Int32} {r0 : Nat} {t0 : Int32} {t1 : Int32} {vl : Nat → Nat} {z : ow_MS} {Q : (Unit × (Nat → Nat) × ow_MS) → Prop} (H : Tt (fun K k => dm_X1_rankDegree_4 K (d_X1_rankDegree K k) x1 x2 x3 x4 x5 r0 t0 t1 vl z) (gQ vl Q)) : Tt (fun K k => d_X1_rankDegree K k 4 x1 x2 x3 x4 x5 r0 t0 t1 vl z) (gQ vl Q) := w_un (fun _ _ => rfl) (w_chV (Nat.le_refl _) H)
theorem u_X1_rankDegree_2 {x1 : Int32} {x2 : Int32} {x3 : Int32} {x4 : Int32} {x5 : Int32} {r0 : Nat} {t0 : Int32} {t1 : Int32} {vl : Nat → Nat} {z : ow_MS} {Q : (Unit × (Nat → Nat) × ow_MS) → Prop} (H : Tt (fun K k => dm_X1_rankDegree_2 K (d_X1_rankDegree K k) x1 x2 x3 x4 x5 r0 t0 t1 vl z) (gQ vl Q)) : Tt (fun K k => d_X1_rankDegree K k 2 x1 x2 x3 x4 x5 r0 t0 t1 vl z) (gQ vl Q) := w_un (fun _ _ => rfl) (w_chV (Nat.le_refl _) H)
theorem e_X1_rankDegree {r0 : Nat} {x1 : Int32} {vl : Nat → Nat} {z : ow_MS} {Q : (Unit × (Nat → Nat) × ow_MS) → Prop} (H : Tt (fun K k => d_X1_rankDegree K k 0 x1 0 0 0 0 r0 0 0 vl z) Q) : Te (fun K => de_X1_rankDegree K r0 x1 vl z) Q := w_te H
theorem u_X1_rankDegree_0 {x1 : Int32} {x2 : Int32} {x3 : Int32} {x4 : Int32} {x5 : Int32} {r0 : Nat} {t0 : Int32} {t1 : Int32} {vl : Nat → Nat} {z : ow_MS} {Q : (Unit × (Nat → Nat) × ow_MS) → Prop} (H : Tt (fun K k => dm_X1_rankDegree_0 K (d_X1_rankDegree K k) x1 x2 x3 x4 x5 r0 t0 t1 vl z) (gQ vl Q)) : Tt (fun K k => d_X1_rankDegree K k 0 x1 x2 x3 x4 x5 r0 t0 t1 vl z) (gQ vl Q) := w_un (fun _ _ => rfl) (w_chV (Nat.le_refl _) H)
theorem tc_rankDegree {d p c ci : Nat} {S : ow_NP} {G : Nat → Int32} {Ls : Nat → Nat → Nat} {ns : Nat → Nat} {wf : Nat → Bool} (hv : vI vl W C) (hy : cAt y 44000 (c, ci, S, G)) (hvn : vn c S) (hc : c ≤ 8) (hd : d < 29) (hwf : gaO c S wf) (hL : LpY y S G c Ls ns) (htb : tbP y) (hch : chP y) (h10 : y.1 43010 = nI p) (hp1 : 2 ≤ p) (hp2 : p ≤ 997) (hsz : ∀ h, smH (bkF ns (dgI d)) h 0 (2 ^ c) ≤ 1140) : Te (fun K => de_X1_rankDegree K 43000 (nI d - 10) vl y) (gQ vl (fun r => fr rkG y r.2.2 ∧ ∃ W' C', vI r.2.1 W' C')) := by
  let Q : Unit × (Nat → Nat) × ow_MS → Prop := fun r => fr rkG y r.2.2 ∧ ∃ W' C', vI r.2.1 W' C'
  have c1 : ∀ (W' : Nat), (∀ h, h < 10 → smH (bkF ns (dgI d)) h 0 (2 ^ c) ≤ W') → ∀ (e o : Nat) (x2 : Int32) (v : Nat → Nat) (z : ow_MS) (C' : Nat), o + e = c + 1 → vI v W' C' → fr rkG y z → LyY z c ns (dgI d) → Tt (fun K k => d_X1_rankDegree K k 1 (nI d - 10) x2 (nI o) 0 0 43000 0 0 v z) (gQ v Q) := by
    intro W' hle e
    induction e with
    | zero =>
      intro o x2 v z C' ho hv' hz hly
      have hz4 : cAt z 44000 (c, ci, S, G) := cAt_fr hz (fun g hg h9 => by unfold cP at hg; unfold rkG lyG kpG at h9; omega) hy
      refine u_X1_rankDegree_1 ?_; unfold dm_X1_rankDegree_1
      exact w_rdF hz4.1 (w_ltT (a := c) (b := o) (by omega) (by omega) (w_some ⟨Nat.le_refl _, hz, W', C', hv'⟩))
    | succ e ih =>
      intro o x2 v z C' ho hv' hz hly
      have hz4 : cAt z 44000 (c, ci, S, G) := cAt_fr hz (fun g hg h9 => by unfold cP at hg; unfold rkG lyG kpG at h9; omega) hy
      generalize hw : smH (bkF ns (dgI d)) (o + 1) 0 (2 ^ c) = w
      have hw1 : w ≤ 1140 := by rw [← hw]; exact hsz _
      have hwW : w ≤ W' := by rw [← hw]; exact hle _ (by omega)
      have c3 : ∀ (e2 i : Nat) (x2 x4 : Int32) (v : Nat → Nat) (z : ow_MS) (C' : Nat), i + e2 = w → vI v W' C' → fr rkG y z → LyY z c ns (dgI d) → Tt (fun K k => d_X1_rankDegree K k 3 (nI d - 10) x2 (nI o) x4 (nI i) 43000 0 0 v z) (gQ v Q) := by
        intro e2
        induction e2 with
        | zero =>
          intro i x2 x4 v z C' hi hv' hz hly
          refine u_X1_rankDegree_3 ?_; unfold dm_X1_rankDegree_3
          rw [nI_1]
          exact w_crI ch_43009 rfl (by omega) ((hly.2 (o + 1) (by omega)).trans (by rw [hw])) (w_leT (a := w) (b := i) (by omega) (by omega) (ih (o + 1) _ v z C' (by omega) hv' hz hly))
        | succ e2 ih2 =>
          intro i x2 x4 v z C' hi hv' hz hly
          have hv2 := hv'
          obtain ⟨h1, h2, h3, h4, h5, h6, h7, h8, h9, h0⟩ := hv'
          have c5 : ∀ t0 : Int32, Tt (fun K k => d_X1_rankDegree K k 5 (nI d - 10) x2 (nI o) x4 (nI i) 43000 t0 (nI i) v z) (gQ v Q) := by
            intro t0
            refine u_X1_rankDegree_5 ?_; unfold dm_X1_rankDegree_5
            rw [nI_1]
            exact w_ctI (ch_43014.trans h4) rfl (by omega) (ih2 (i + 1) _ _ v _ C' (by omega) hv2 (fr_I2 hz (by unfold rkG lyG; omega)) (LyY_fr (fr_I (P := fun g => g = 43014) rfl) (by omega) hly))
          have c4 : Tt (fun K k => d_X1_rankDegree K k 4 (nI d - 10) x2 (nI o) x4 (nI i) 43000 (nI i) 0 v z) (gQ v Q) := by
            refine u_X1_rankDegree_4 ?_; unfold dm_X1_rankDegree_4
            exact c5 0
          refine u_X1_rankDegree_3 ?_; unfold dm_X1_rankDegree_3
          rw [nI_1]
          exact w_crI ch_43009 rfl (by omega) ((hly.2 (o + 1) (by omega)).trans (by rw [hw])) (w_leF (a := w) (b := i) (by omega) (by omega) (w_if (fun _ => c4) (fun _ => w_crI (ch_43012.trans h2) rfl (by omega) rfl (w_if (fun _ => c4) (fun _ => c5 1)))))
      have c2 : ∀ (x4 : Int32) (v : Nat → Nat) (z : ow_MS) (C' : Nat), vI v W' C' → fr rkG y z → LyY z c ns (dgI d) → Tt (fun K k => d_X1_rankDegree K k 2 (nI d - 10) x2 (nI o) x4 0 43000 0 0 v z) (gQ v Q) := by
        intro x4 v z C' hv' hz hly
        refine u_X1_rankDegree_2 ?_; unfold dm_X1_rankDegree_2
        rw [ix_56 ⟨o, by omega⟩ ⟨d, hd⟩]
        exact w_crI ch_43009 rfl (by omega) rfl (w_ctI ch_43018 rfl (by dsimp only; omega) (c3 w 0 _ _ v _ C' (by omega) hv' (fr_I2 hz (by unfold rkG; omega)) (LyY_fr (fr_I (P := fun g => g = 43018) rfl) (by omega) hly)))
      have ep : z.1 43010 = nI p := ((hz 43010 (by unfold rkG lyG kpG; omega)).1).trans h10
      refine u_X1_rankDegree_1 ?_; unfold dm_X1_rankDegree_1
      rw [nI_1]
      refine w_rdF hz4.1 (w_ltF (a := c) (b := o) (by omega) (by omega) (w_crI ch_43009 rfl (by omega) rfl (w_if (fun _ => c2 _ v z C' hv' hz hly) (fun _ => w_crI ch_43009 rfl (by omega) rfl (w_if (fun _ => c2 _ v z C' hv' hz hly) (fun _ => ?_))))))
      refine w_dc1 (tc_eliminate hv' hz4 hvn hc hwf (LpY_fr hz (by unfold rkG lyG kpG; omega) hL) hly (tbP_fr hz (by unfold rkG lyG kpG; omega) htb) (by omega) ep hp1 hp2 (fun h => ⟨hsz h, hle h⟩)) ?_
      rintro x v1 z1 ⟨r1, r2, C2, r3⟩
      exact w_chV r1 (c2 _ v1 z1 C2 r3 (fr_tr hz (fr_mono (fun g hg => Or.inr (Or.inl hg)) r2)) (LyY_fr r2 (by unfold kpG; omega) hly))
  refine e_X1_rankDegree ?_
  refine u_X1_rankDegree_0 ?_; unfold dm_X1_rankDegree_0
  refine w_dc1 (tc_layOut hv hy hc hd hL hch hsz) ?_
  rintro x v1 z1 ⟨r1, r2, r3, W2, r4, r5⟩
  exact w_chV r1 (c1 W2 r5 (c + 1) 0 _ v1 z1 C (by omega) r4 (fr_mono (fun g hg => Or.inl hg) r2) r3)
end LY
end
section
/-! 99zzzzzzzs.ctdy -/
/-! the class: what tidying keeps -/
def altA (A : rn_L) (w : vT → Bool) : Prop := ∀ L, L ∈ A → ∀ p, p ∈ L → w (sc L p) = !w p
def gaA (A : rn_L) (w : vT → Bool) : Prop := altA A w ∧ ∀ x, (x, 0) ∈ A.flatten → w (x, 1) = !w (x, 0)
def adjA (A : rn_L) (p q : vT) : Prop := ∃ L, L ∈ A ∧ p ∈ L ∧ q ∈ L ∧ (sc L p = q ∨ sc L q = p)
theorem rmv_cm {A : rn_L} {r s : vT} : rmv (rmv A r) s = rmv (rmv A s) r := by
  unfold rmv
  rw [List.map_map, List.map_map]
  refine List.map_congr_left (fun L _ => ?_)
  show (L.filter _).filter _ = (L.filter _).filter _
  rw [List.filter_filter, List.filter_filter]
  exact List.filter_congr (fun a _ => Bool.and_comm _ _)
theorem sc_fil {L : List vT} {r p : vT} (hn : L.Nodup) (hp : p ∈ L) (hpr : p ≠ r) : sc (L.filter (fun q => decide (q ≠ r))) p = if sc L p = r then sc L r else sc L p := by
  by_cases hr : r ∈ L
  · obtain ⟨X, Y, rfl⟩ := List.append_of_mem hr
    rw [fil_m hn]
    refine sc_out hn ?_
    rcases List.mem_append.mp hp with h | h
    · exact List.mem_append_left _ h
    · rcases List.mem_cons.mp h with h | h
      · exact absurd h hpr
      · exact List.mem_append_right _ h
  · rw [fil_n hr, if_neg (fun h9 => hr (by rw [← h9]; exact sc_in hp hn))]
theorem same_L {A : rn_L} (hn : A.flatten.Nodup) {L N : List vT} {r : vT} (hL : L ∈ A) (hN : N ∈ A) (h1 : r ∈ L) (h2 : r ∈ N) : N = L := by
  obtain ⟨i, hi, rfl⟩ := List.mem_iff_getElem.mp hL
  obtain ⟨j, hj, rfl⟩ := List.mem_iff_getElem.mp hN
  have e1 := cidx_of hn hi h1
  have e2 := cidx_of hn hj h2
  have : i = j := by omega
  subst this
  rfl
theorem alt_rm2 {A : rn_L} {w : vT → Bool} {L : List vT} {r1 r2 : vT} (hn : A.flatten.Nodup) (hA : altA A w) (hL : L ∈ A) (h1 : r1 ∈ L) (h2 : r2 ∈ L) (e : sc L r1 = r2) (hne : r1 ≠ r2) : altA (rmv (rmv A r1) r2) w := by
  intro M hM p hp
  unfold rmv at hM
  rw [List.map_map] at hM
  obtain ⟨N, hN, rfl⟩ := List.mem_map.mp hM
  have nN := L_nd hn hN
  have hp' : p ∈ (N.filter (fun q => decide (q ≠ r1))).filter (fun q => decide (q ≠ r2)) := hp
  obtain ⟨hp1, hp2⟩ := List.mem_filter.mp hp'
  obtain ⟨hpN, hp3⟩ := List.mem_filter.mp hp1
  have hp2 : p ≠ r2 := of_decide_eq_true hp2
  have hp3 : p ≠ r1 := of_decide_eq_true hp3
  show w (sc ((N.filter (fun q => decide (q ≠ r1))).filter (fun q => decide (q ≠ r2))) p) = !w p
  rw [sc_fil (nN.filter _) hp1 hp2, sc_fil nN hpN hp3]
  have hs := sc_in hpN nN
  have h0 := hA N hN p hpN
  by_cases c1 : sc N p = r1
  · have hr1 : r1 ∈ N := by rw [← c1]; exact hs
    have eN := same_L hn hL hN h1 hr1
    have hr2 : r2 ∈ N := by rw [eN]; exact h2
    have e' : sc N r1 = r2 := by rw [eN]; exact e
    rw [if_pos c1, e', if_pos rfl, sc_fil nN hr2 (fun h9 => hne h9.symm), if_neg (fun h9 => hp2 (sc_inj nN hpN hr2 (by rw [c1, h9]))), hA N hN r2 hr2]
    have h3 := hA N hN r1 hr1
    rw [e'] at h3
    rw [c1] at h0
    rw [h3, h0]
    simp
  · rw [if_neg c1, if_neg (fun h9 => ?_)]
    · exact h0
    · have hr2 : r2 ∈ N := by rw [← h9]; exact hs
      have eN := same_L hn hL hN h2 hr2
      have hr1 : r1 ∈ N := by rw [eN]; exact h1
      exact hp3 (sc_inj nN hpN hr1 (by rw [h9, eN, e]))
theorem alt_adj {A : rn_L} {w : vT → Bool} {p q : vT} (hn : A.flatten.Nodup) (hA : altA A w) (h : adjA A p q) (hne : p ≠ q) : altA (rmv (rmv A p) q) w := by
  obtain ⟨L, hL, h1, h2, e | e⟩ := h
  · exact alt_rm2 hn hA hL h1 h2 e hne
  · rw [rmv_cm]
    exact alt_rm2 hn hA hL h2 h1 e (fun h9 => hne h9.symm)
theorem adj_rmv {A : rn_L} {p q r : vT} (hn : A.flatten.Nodup) (h : adjA A p q) (h1 : p ≠ r) (h2 : q ≠ r) : adjA (rmv A r) p q := by
  obtain ⟨L, hL, g1, g2, e⟩ := h
  have nL := L_nd hn hL
  refine ⟨_, List.mem_map.mpr ⟨L, hL, rfl⟩, List.mem_filter.mpr ⟨g1, decide_eq_true h1⟩, List.mem_filter.mpr ⟨g2, decide_eq_true h2⟩, ?_⟩
  rw [sc_fil nL g1 h1, sc_fil nL g2 h2]
  rcases e with e | e
  · rw [e, if_neg h2]
    exact Or.inl rfl
  · rw [e, if_neg h1]
    exact Or.inr rfl
theorem gaA_1 {A : rn_L} {w : vT → Bool} {x : Nat} (hn : A.flatten.Nodup) (h : gaA A w) (ha : adjA A (x, 0) (x, 1)) : gaA (wox A x) w := ⟨alt_adj hn h.1 ha (fun h9 => by cases h9), fun y hy => h.2 y (rmv_mem.mp (rmv_mem.mp hy).1).1⟩
theorem gaA_2 {A : rn_L} {w : vT → Bool} {x y : Nat} (hn : A.flatten.Nodup) (h : gaA A w) (hxy : x ≠ y) (ha : adjA A (x, 0) (y, 0)) (hb : adjA A (x, 1) (y, 1)) : gaA (wox (wox A x) y) w := by
  have e : wox (wox A x) y = rmv (rmv (rmv (rmv A (x, 0)) (y, 0)) (x, 1)) (y, 1) := by
    unfold wox
    rw [rmv_cm (A := rmv A (x, 0)) (r := (x, 1)) (s := (y, 0))]
  refine ⟨?_, fun z hz => h.2 z ?_⟩
  · rw [e]
    have n1 : (rmv A (x, 0)).flatten.Nodup := rmv_nd hn
    refine alt_adj (rmv_nd n1) (alt_adj hn h.1 ha (fun h9 => hxy (congrArg Prod.fst h9))) (adj_rmv n1 (adj_rmv hn hb (fun h9 => by cases h9) (fun h9 => by cases h9)) (fun h9 => by cases h9) (fun h9 => by cases h9)) (fun h9 => hxy (congrArg Prod.fst h9))
  · exact (rmv_mem.mp (rmv_mem.mp (rmv_mem.mp (rmv_mem.mp hz).1).1).1).1
section TY
variable {A : rn_L} {sg : Nat → Bool} {f : Nat → Nat} {T : ow_NT}
theorem bs_adj (h : isoV A sg f T) {p q : vT} (hp : p ∈ A.flatten) (hq : q ∈ A.flatten) (e : mv_bs T.2.2.1.1 (gl f p) (gl f q) = true) : adjA A p q := by
  have hg := gl_gin h.1
  have key : ∀ p q, p ∈ A.flatten → q ∈ A.flatten → T.2.2.1.1 (gl f p) = gl f q → ∃ L, L ∈ A ∧ p ∈ L ∧ q ∈ L ∧ sc L p = q := by
    intro p q hp hq e
    obtain ⟨L, hL, hpL⟩ := List.mem_flatten.mp hp
    have nL := L_nd h.1.1.1 hL
    have hs := sc_in hpL nL
    have e1 := (h.2 L hL p hpL).1
    rw [e] at e1
    have e2 := hg _ _ hq (List.mem_flatten.mpr ⟨L, hL, hs⟩) e1
    exact ⟨L, hL, hpL, by rw [e2]; exact hs, e2.symm⟩
  unfold mv_bs at e
  rcases Bool.or_eq_true_iff.mp e with e | e
  · obtain ⟨L, h1, h2, h3, h4⟩ := key p q hp hq (of_decide_eq_true e)
    exact ⟨L, h1, h2, h3, Or.inl h4⟩
  · obtain ⟨L, h1, h2, h3, h4⟩ := key q p hq hp (of_decide_eq_true e)
    exact ⟨L, h1, h3, h2, Or.inr h4⟩
theorem nm_of (h : isoV A sg f T) {x : Nat} (hx : x < T.1) : ∃ x0, f x0 = x ∧ (x0, 0) ∈ A.flatten ∧ (x0, 1) ∈ A.flatten := by
  obtain ⟨v, hv, e⟩ := lbv_sur (isoS_iff.mp h.1) (show 2 * x < 2 * T.1 by omega)
  have hm := vAt_mem hv
  have e' : gl f (vAt A v) = 2 * x := e
  generalize vAt A v = p at hm e'
  obtain ⟨-, p2, p3⟩ := h.1.1.2 p hm
  unfold gl at e'
  obtain ⟨a, b⟩ := p
  have hb : b = 0 := by
    dsimp only at e' p2
    omega
  subst hb
  exact ⟨a, by dsimp only at e'; omega, hm, p3⟩
theorem rmG_nz {G : Nat → Int32} {x c : Nat} (h : ∀ k, k < c + 1 → G k ≠ 0) (hx : x < c + 1) : ∀ k, k < c → np_rmG G x c k ≠ 0 := by
  intro k hk
  unfold np_rmG
  split
  · exact h k (by omega)
  · unfold su
    split
    · exact h c (by omega)
    · exact h k (by omega)
def tyI (T : ow_NT) : Prop := nv T ∧ (∀ x, x < T.1 → T.2.2.2 x ≠ 0) ∧ ∃ A sg f w k, isoV A sg f T ∧ gaA A w ∧ A.length ≤ 6 ∧ pLe A k ∧ 1 ≤ k ∧ T.1 + k ≤ 9
theorem tyI_1 {x : Nat} (h : tyI T) (hx : x < T.1) (e : mv_bs T.2.2.1.1 (2 * x) (2 * x + 1) = true) : tyI (nt_rm T x) := by
  obtain ⟨h1, h2, A, sg, f, w, k, h3, h4, h5, h6, h7, h8⟩ := h
  obtain ⟨x0, rfl, m0, m1⟩ := nm_of h3 hx
  obtain ⟨f', i1, -⟩ := iso_rm h3 m0
  refine ⟨nv_rm h1 hx, rmG_nz (c := T.1 - 1) (fun k hk => h2 k (by omega)) (by omega), wox A x0, sg, f', w, k + 1, i1, gaA_1 h3.1.1.1 h4 (bs_adj h3 m0 m1 e), by rw [wox_len]; exact h5, pLe_rm (fun p hp => (h3.1.1.2 p hp).2.1) h6, by omega, ?_⟩
  show T.1 - 1 + (k + 1) ≤ 9
  omega
theorem tyI_2 {x y : Nat} (h : tyI T) (hx : x < T.1) (hy : y < x) (e : mv_pair T.2.2.1.1 T.2.2.2 x y = true) : tyI (nt_rm (nt_rm T x) y) := by
  obtain ⟨h1, h2, A, sg, f, w, k, h3, h4, h5, h6, h7, h8⟩ := h
  obtain ⟨x0, rfl, m0, m1⟩ := nm_of h3 hx
  obtain ⟨y0, rfl, n0, n1⟩ := nm_of h3 (show y < T.1 by omega)
  have hne : x0 ≠ y0 := fun h9 => by
    rw [h9] at hy
    omega
  unfold mv_pair at e
  obtain ⟨e1, e2⟩ := Bool.and_eq_true_iff.mp e
  obtain ⟨-, e1⟩ := Bool.and_eq_true_iff.mp e1
  have hu := fun (p : vT) (hp : p ∈ A.flatten) => (h3.1.1.2 p hp).2.1
  obtain ⟨f', i1, i2⟩ := iso_rm h3 m0
  have i3 := i2 y0
  rw [if_neg (by omega)] at i3
  have n2 : (y0, 0) ∈ (wox A x0).flatten := (wox_mem hu).mpr ⟨n0, fun h9 => hne h9.symm⟩
  obtain ⟨f2, j1, -⟩ := iso_rm i1 n2
  rw [i3] at j1
  have hx1 : (nt_rm T (f x0)).1 = T.1 - 1 := rfl
  have g1 : ∀ k, k < (nt_rm T (f x0)).1 → (nt_rm T (f x0)).2.2.2 k ≠ 0 := rmG_nz (c := T.1 - 1) (fun k hk => h2 k (by omega)) (by omega)
  refine ⟨nv_rm (nv_rm h1 hx) (by omega), rmG_nz (c := (nt_rm T (f x0)).1 - 1) (fun k hk => g1 k (by omega)) (by omega), wox (wox A x0) y0, sg, f2, w, k + 1 + 1, j1, gaA_2 h3.1.1.1 h4 hne (bs_adj h3 m0 n0 e1) (bs_adj h3 m1 n1 e2), by rw [wox_len, wox_len]; exact h5, pLe_rm (fun p hp => (i1.1.1.2 p hp).2.1) (pLe_rm hu h6), by omega, ?_⟩
  show T.1 - 1 - 1 + (k + 1 + 1) ≤ 9
  omega
end TY
section TY2
variable {vl : Nat → Nat} {y : ow_MS} {T : ow_NT}
theorem u_X1_tidyOnce_1 {vl : Nat → Nat} {x1 : Int32} {x2 : Int32} {r0 : Nat} {z : ow_MS} {Q : (Int32 × ow_MS) → Prop} (H : Tt (fun K k => cm_X1_tidyOnce_1 vl K (c_X1_tidyOnce vl K k) x1 x2 r0 z) Q) : Tt (fun K k => c_X1_tidyOnce vl K k 1 x1 x2 r0 z) Q := w_un (fun _ _ => rfl) H
theorem u_X1_tidyOnce_2 {vl : Nat → Nat} {x1 : Int32} {x2 : Int32} {r0 : Nat} {z : ow_MS} {Q : (Int32 × ow_MS) → Prop} (H : Tt (fun K k => cm_X1_tidyOnce_2 vl K (c_X1_tidyOnce vl K k) x1 x2 r0 z) Q) : Tt (fun K k => c_X1_tidyOnce vl K k 2 x1 x2 r0 z) Q := w_un (fun _ _ => rfl) H
theorem e_X1_tidyOnce {vl : Nat → Nat} {r0 : Nat} {z : ow_MS} {Q : (Int32 × ow_MS) → Prop} (H : Tt (fun K k => c_X1_tidyOnce vl K k 0 0 0 r0 z) Q) : Te (fun K => ce_X1_tidyOnce vl K r0 z) Q := w_te H
theorem u_X1_tidyOnce_0 {vl : Nat → Nat} {x1 : Int32} {x2 : Int32} {r0 : Nat} {z : ow_MS} {Q : (Int32 × ow_MS) → Prop} (H : Tt (fun K k => cm_X1_tidyOnce_0 vl K (c_X1_tidyOnce vl K k) x1 x2 r0 z) Q) : Tt (fun K k => c_X1_tidyOnce vl K k 0 x1 x2 r0 z) Q := w_un (fun _ _ => rfl) H
theorem tc_tidyOnce (hy : cAt y 44000 T) (hT : tyI T) : Te (fun K => ce_X1_tidyOnce vl K 43000 y) (fun r => (∃ T', cAt r.2 44000 T' ∧ tyI T') ∧ fr (cP 44000) y r.2) := by
  let Q : Int32 × ow_MS → Prop := fun r => (∃ T', cAt r.2 44000 T' ∧ tyI T') ∧ fr (cP 44000) y r.2
  have hb := hT.1.2.2.1
  have h12 := hT.1.2.1
  have c1 : ∀ (d x : Nat), x + d = T.1 → Tt (fun K k => c_X1_tidyOnce vl K k 1 (nI x) 0 43000 y) Q := by
    intro d
    induction d with
    | zero =>
      intro x hx
      refine u_X1_tidyOnce_1 ?_; unfold cm_X1_tidyOnce_1
      exact w_rdF hy.1 (w_leT (by omega) (by omega) (w_okZ (Or.inl rfl) (w_some ⟨⟨T, hy, hT⟩, fr_rf⟩)))
    | succ d ih =>
      intro x hx
      have c2 : ∀ (d2 u : Nat), u + d2 = x → Tt (fun K k => c_X1_tidyOnce vl K k 2 (nI x) (nI u) 43000 y) Q := by
        intro d2
        induction d2 with
        | zero =>
          intro u hu
          refine u_X1_tidyOnce_2 ?_; unfold cm_X1_tidyOnce_2
          refine w_leT (by omega) (by omega) ?_
          rw [nI_1]
          exact ih (x + 1) (by omega)
        | succ d2 ih2 =>
          intro u hu
          refine u_X1_tidyOnce_2 ?_; unfold cm_X1_tidyOnce_2
          refine w_leF (by omega) (by omega) (w_cs1 (tc_isPair nH44 hy hb (by omega) (by omega)) ?_)
          rintro a z1 ⟨r1, r2⟩
          dsimp only at r1 r2
          subst r2
          rw [r1]
          cases e : mv_pair T.2.2.1.1 T.2.2.2 x u with
          | false =>
            refine w_ifT rfl ?_
            rw [nI_1]
            exact ih2 (u + 1) (by omega)
          | true =>
            refine w_ifF (by decide) (w_cs0 (tc_removeCrossing nH44 hy hb (by omega) h12) ?_)
            rintro z2 ⟨q1, q2⟩
            have hx1 : (nt_rm T x).1 = T.1 - 1 := rfl
            have hv1 := nv_rm hT.1 (show x < T.1 by omega)
            refine w_cs0 (tc_removeCrossing nH44 q1 hv1.2.2.1 (by omega) hv1.2.1) ?_
            rintro z3 ⟨q3, q4⟩
            exact w_okZ (Or.inr rfl) (w_some ⟨⟨_, q3, tyI_2 hT (by omega) (by omega) e⟩, fr_tr q2 q4⟩)
      refine u_X1_tidyOnce_1 ?_; unfold cm_X1_tidyOnce_1
      refine w_rdF hy.1 (w_leF (by omega) (by omega) (w_cs1 (tc_isLoop nH44 hy hb (by omega)) ?_))
      rintro a z1 ⟨r1, r2⟩
      dsimp only at r1 r2
      subst r2
      rw [r1]
      cases e : mv_bs T.2.2.1.1 (2 * x) (2 * x + 1) with
      | false => exact w_ifT rfl (c2 x 0 (by omega))
      | true =>
        refine w_ifF (by decide) (w_cs0 (tc_removeCrossing nH44 hy hb (by omega) h12) ?_)
        rintro z2 ⟨q1, q2⟩
        exact w_okZ (Or.inr rfl) (w_some ⟨⟨_, q1, tyI_1 hT (by omega) e⟩, q2⟩)
  refine e_X1_tidyOnce ?_
  refine u_X1_tidyOnce_0 ?_; unfold cm_X1_tidyOnce_0
  exact c1 T.1 0 (by omega)
theorem u_X1_tidy_1 {vl : Nat → Nat} {x1 : Int32} {x2 : Int32} {r0 : Nat} {z : ow_MS} {Q : ow_MS → Prop} (H : Tt (fun K k => cm_X1_tidy_1 vl K (c_X1_tidy vl K k) x1 x2 r0 z) Q) : Tt (fun K k => c_X1_tidy vl K k 1 x1 x2 r0 z) Q := w_un (fun _ _ => rfl) H
theorem e_X1_tidy {vl : Nat → Nat} {r0 : Nat} {z : ow_MS} {Q : ow_MS → Prop} (H : Tt (fun K k => c_X1_tidy vl K k 0 0 0 r0 z) Q) : Te (fun K => ce_X1_tidy vl K r0 z) Q := w_te H
theorem u_X1_tidy_0 {vl : Nat → Nat} {x1 : Int32} {x2 : Int32} {r0 : Nat} {z : ow_MS} {Q : ow_MS → Prop} (H : Tt (fun K k => cm_X1_tidy_0 vl K (c_X1_tidy vl K k) x1 x2 r0 z) Q) : Tt (fun K k => c_X1_tidy vl K k 0 x1 x2 r0 z) Q := w_un (fun _ _ => rfl) H
theorem tc_tidy (hy : cAt y 44000 T) (hT : tyI T) : Te (fun K => ce_X1_tidy vl K 43000 y) (fun y1 => (∃ T', cAt y1 44000 T' ∧ tyI T') ∧ fr (cP 44000) y y1) := by
  let Q : ow_MS → Prop := fun y1 => (∃ T', cAt y1 44000 T' ∧ tyI T') ∧ fr (cP 44000) y y1
  have c1 : ∀ (d i : Nat) (x1 : Int32) (z : ow_MS), i + d = 9 → Q z → Tt (fun K k => c_X1_tidy vl K k 1 x1 (nI i) 43000 z) Q := by
    intro d
    induction d with
    | zero =>
      intro i x1 z hi hz
      refine u_X1_tidy_1 ?_; unfold cm_X1_tidy_1
      exact w_ltT (a := 8) (b := i) (by omega) (by omega) (w_some hz)
    | succ d ih =>
      intro i x1 z hi hz
      refine u_X1_tidy_1 ?_; unfold cm_X1_tidy_1
      refine w_ltF (a := 8) (b := i) (by omega) (by omega) (w_if (fun _ => w_some hz) (fun _ => ?_))
      obtain ⟨⟨T1, t1, t2⟩, t3⟩ := hz
      refine w_cs1 (tc_tidyOnce t1 t2) ?_
      rintro a z1 ⟨q1, q2⟩
      rw [nI_1]
      exact ih (i + 1) _ z1 (by omega) ⟨q1, fr_tr t3 q2⟩
  refine e_X1_tidy ?_
  refine u_X1_tidy_0 ?_; unfold cm_X1_tidy_0
  exact c1 9 0 _ y (by omega) ⟨⟨T, hy, hT⟩, fr_rf⟩
end TY2
end
section
/-! 99zzzzzzzt.ccmp -/
/-! the class: a tidied net is small enough -/
def rnS (f : Nat → Nat) (p : vT) : vT := (f p.1, p.2)
def rnA (f : Nat → Nat) (A : rn_L) : rn_L := A.map (List.map (rnS f))
section RNM
variable {A : rn_L} {sg : Nat → Bool} {f : Nat → Nat} {T : ow_NT}
theorem rnA_fl : (rnA f A).flatten = A.flatten.map (rnS f) := List.map_flatten.symm
theorem rnS_in (h : isoV A sg f T) {p q : vT} (hp : p ∈ A.flatten) (hq : q ∈ A.flatten) (e : rnS f p = rnS f q) : p = q := by
  have e1 : f p.1 = f q.1 := congrArg (fun r : vT => r.1) e
  have e2 : (rnS f p).2 = (rnS f q).2 := by rw [e]
  exact Prod.ext (h.1.2.2.2.2.1 p q hp hq e1) e2
theorem rnA_ok (h : isoV A sg f T) : okF (rnA f A).flatten T.1 := by
  rw [rnA_fl]
  refine ⟨List.pairwise_map.mpr (List.Pairwise.imp_of_mem (fun ha hb hab e => hab (rnS_in h ha hb e)) h.1.1.1), fun q => ⟨fun hq => ?_, fun hq => ?_⟩⟩
  · obtain ⟨p, hp, rfl⟩ := List.mem_map.mp hq
    exact ⟨h.1.2.2.2.1 p hp, (h.1.1.2 p hp).2.1⟩
  · obtain ⟨x0, e, m0, m1⟩ := nm_of h hq.1
    obtain ⟨a, b⟩ := q
    have hb : b = 0 ∨ b = 1 := by
      have := hq.2
      dsimp only at this
      omega
    dsimp only at e
    rcases hb with rfl | rfl
    · exact List.mem_map.mpr ⟨_, m0, by unfold rnS; rw [e]⟩
    · exact List.mem_map.mpr ⟨_, m1, by unfold rnS; rw [e]⟩
theorem rn_cirs : cirs (rnA f A) = cirs A := by
  unfold cirs rnA
  rw [List.countP_map]
  refine List.countP_congr (fun L _ => ?_)
  cases L <;> simp
theorem rn_V (h : isoV A sg f T) : isoV (rnA f A) (fun x => decide (T.2.2.2 x < 0)) (fun x => x) T := by
  have hok := rnA_ok h
  have hsh : shP T.2.2.1 (gl (fun x => x)) (rnA f A) := by
    intro L' hL'
    obtain ⟨L, hL, rfl⟩ := List.mem_map.mp hL'
    intro q hq
    obtain ⟨p, hp, rfl⟩ := List.mem_map.mp hq
    have nL := L_nd h.1.1.1 hL
    rw [sc_map nL (fun a b ha hb e => rnS_in h (List.mem_flatten.mpr ⟨L, hL, ha⟩) (List.mem_flatten.mpr ⟨L, hL, hb⟩) e) hp]
    exact h.2 L hL p hp
  refine ⟨⟨okF_wk (by have := h.1.2.2.1; omega) hok, ?_, h.1.2.2.1, fun p hp => ((hok.2 p).mp hp).1, fun p q _ _ e => e, fun L hL p hp => (hsh L hL p hp).1, fun p _ => ?_, ?_⟩, hsh⟩
  · rw [rnA_fl, List.length_map]
    exact h.1.2.1
  · exact ⟨fun h9 => decide_eq_true h9, fun h9 => of_decide_eq_true h9⟩
  · rw [rn_cirs]
    exact h.1.2.2.2.2.2.2.2
theorem gl_lt (h : isoV A sg f T) {p : vT} (hp : p ∈ A.flatten) : gl f p < 2 * T.1 := by
  have h1 := h.1.2.2.2.1 p hp
  have h2 := (h.1.1.2 p hp).2.1
  unfold gl
  omega
theorem gl_mt {x : Nat} : mt (gl f (x, 0)) = gl f (x, 1) ∧ mt (gl f (x, 1)) = gl f (x, 0) := by
  unfold gl mt
  dsimp only
  constructor
  · rw [if_pos (by omega)]
  · rw [if_neg (by omega)]
    omega
theorem gaT_of {w : vT → Bool} (h : isoV A sg f T) (hw : gaA A w) : gaT T.1 T.2.2.1 := by
  have hex : ∀ k, ∃ b : Bool, ∀ p, p ∈ A.flatten → gl f p = k → w p = b := by
    intro k
    by_cases hk : ∃ p, p ∈ A.flatten ∧ gl f p = k
    · obtain ⟨p, hp, e⟩ := hk
      exact ⟨w p, fun q hq e2 => by rw [gl_gin h.1 q p hq hp (by rw [e, e2])]⟩
    · exact ⟨false, fun p hp e => absurd ⟨p, hp, e⟩ hk⟩
  let w' : Nat → Bool := fun k => Classical.choose (hex k)
  have hw' : ∀ p, p ∈ A.flatten → w' (gl f p) = w p := fun p hp => (Classical.choose_spec (hex (gl f p)) p hp rfl).symm
  refine ⟨w', fun v hv => ?_⟩
  obtain ⟨u, hu, e⟩ := lbv_sur (isoS_iff.mp h.1) hv
  have hm := vAt_mem hu
  have e' : gl f (vAt A u) = v := e
  generalize vAt A u = p at hm e'
  obtain ⟨L, hL, hp⟩ := List.mem_flatten.mp hm
  have nL := L_nd h.1.1.1 hL
  rw [← e']
  refine ⟨?_, ?_⟩
  · rw [(h.2 L hL p hp).1, hw' _ (List.mem_flatten.mpr ⟨L, hL, sc_in hp nL⟩), hw' p hm]
    exact hw.1 L hL p hp
  · obtain ⟨-, p2, p3⟩ := h.1.1.2 p hm
    obtain ⟨a, b⟩ := p
    have hb : b = 0 ∨ b = 1 := by
      dsimp only at p2
      omega
    rcases hb with rfl | rfl
    · rw [gl_mt.1, hw' _ p3, hw' _ hm]
      exact hw.2 a hm
    · have p3' : (a, 0) ∈ A.flatten := p3
      rw [gl_mt.2, hw' _ p3', hw' _ hm, hw.2 a p3', Bool.not_not]
theorem tyI_sz {c ci : Nat} {S : ow_NP} {G : Nat → Int32} (h : tyI (c, ci, S, G)) : c ≤ 8 ∧ gaT c S ∧ (∀ s, s < 2 ^ c → rtsN (uPx S G (tb s) c) (2 * c) ≤ 9) ∧ ∀ h, smH (fun s => mbt (rtsN (uPx S G (tb s) c) (2 * c))) h 0 (2 ^ c) ≤ 1140 := by
  obtain ⟨h1, h2, A, sg, f, w, k, h3, h4, h5, h6, h7, h8⟩ := h
  have hV := rn_V h3
  have hk := pLe_to h3 h6
  have hK := ch_ok2 (rnA_ok h3) (by unfold rnA; rw [List.length_map]; exact h5) hV hk h7 h8
  have h8 : c + k ≤ 9 := h8
  have hc8 : c ≤ 8 := by omega
  have eq : ∀ s, s < 2 ^ c → rtsN (uPx S G (tb s) c) (2 * c) ≤ LcN (rnA f A) (fun x => decide (G x < 0)) s := by
    intro s hs
    have h256 : 2 ^ c ≤ 256 := two_mono (b := 8) hc8
    rw [loops_eq (st := nI s) (isoS_iff.mp hV.1) (isoV_vn hV)]
    · exact Nat.le_add_right _ _
    · intro v hv _
      have hx : crs (rnA f A) v < c := (isoS_iff.mp hV.1).2.2.2.1 v hv
      generalize crs (rnA f A) v = x at hx
      have hG : G x ≠ 0 := h2 x hx
      unfold alS alB sgP tb
      dsimp only
      rw [bit_nI (by omega) (by omega)]
      have hb : btN s x = 0 ∨ btN s x = 1 := by unfold btN; omega
      have hs : decide (0 < G x) = !decide (G x < 0) := by
        by_cases h9 : G x < 0
        · rw [decide_eq_true h9, decide_eq_false (fun h8 => ?_)]
          · rfl
          · rw [Int32.lt_iff_toInt_lt] at h8 h9
            omega
        · rw [decide_eq_false h9, decide_eq_true]
          · rfl
          · rw [Int32.lt_iff_toInt_lt] at h9 ⊢
            have : (G x).toInt ≠ (0 : Int32).toInt := fun h8 => hG (Int32.toInt_inj.mp h8)
            omega
      rw [hs]
      rcases hb with hb | hb
      · rw [hb]
        unfold btN at hb
        rw [hb]
        generalize decide (G x < 0) = b0
        revert b0
        decide
      · rw [hb]
        unfold btN at hb
        rw [hb]
        generalize decide (G x < 0) = b0
        revert b0
        decide
  refine ⟨hc8, gaT_of h3 h4, fun s hs => Nat.le_trans (eq s hs) (hK.2.2.2.1 s hs), fun h => ?_⟩
  exact Nat.le_trans (smH_le _ (fun i hi => by
    rw [Nat.zero_add]
    exact mbt_mono (eq i hi))) (hK.2.2.2.2.2 h)
theorem bkF_sz {c : Nat} {ns : Nat → Nat} {dg : Int} (h9 : ∀ s, s < 2 ^ c → ns s ≤ 9) {h B : Nat} (hB : smH (fun s => mbt (ns s)) h 0 (2 ^ c) ≤ B) : smH (bkF ns dg) h 0 (2 ^ c) ≤ B := by
  refine Nat.le_trans (smH_le _ (fun i hi => ?_)) hB
  rw [Nat.zero_add]
  unfold bkF
  cases hk : kpF (ns i) (pc i) dg with
  | none => exact Nat.zero_le _
  | some k =>
    have := kpF_le hk
    have := h9 i hi
    exact bi_mbt ⟨ns i, by omega⟩ ⟨k, by omega⟩
theorem isoV_cg {T' : ow_NT} (h : isoV A sg f T) (e1 : T'.1 = T.1) (e2 : T'.2.1 = T.2.1) (e3 : ∀ k, k < 2 * T.1 → T'.2.2.1.1 k = T.2.2.1.1 k ∧ T'.2.2.1.2 k = T.2.2.1.2 k) (e4 : ∀ x, x < T.1 → T'.2.2.2 x = T.2.2.2 x) : isoV A sg f T' := by
  have hsh : shP T'.2.2.1 (gl f) A := by
    intro L hL p hp
    have nL := L_nd h.1.1.1 hL
    rw [(e3 _ (gl_lt h (List.mem_flatten.mpr ⟨L, hL, hp⟩))).1, (e3 _ (gl_lt h (List.mem_flatten.mpr ⟨L, hL, sc_in hp nL⟩))).2]
    exact h.2 L hL p hp
  refine ⟨⟨h.1.1, by rw [e1]; exact h.1.2.1, by rw [e1]; exact h.1.2.2.1, by rw [e1]; exact h.1.2.2.2.1, h.1.2.2.2.2.1, fun L hL p hp => (hsh L hL p hp).1, fun p hp => ?_, by rw [e2]; exact h.1.2.2.2.2.2.2.2⟩, hsh⟩
  rw [e4 _ (h.1.2.2.2.1 p hp)]
  exact h.1.2.2.2.2.2.2.1 p hp
theorem tyI_cp {Q : ow_NT} (h : tyI T) (hQ : ow_b24 Q.2.2.1) : tyI (nt_copy Q T) := by
  obtain ⟨h1, h2, A, sg, f, w, k, h3, h4, h5, h6, h7, h8⟩ := h
  have key : ∀ {β : Type} (f g : Nat → β) (n k : Nat), k < n → va_cpy f g 0 0 n k = f k := fun f g n k hk => by
    rw [pk_cpy_in (Nat.zero_le k) (by omega), Nat.zero_add, Nat.sub_zero]
  have g1 : ∀ x, x < T.1 → (nt_copy Q T).2.2.2 x = T.2.2.2 x := fun x hx => key _ _ _ _ hx
  exact ⟨nv_copy h1 hQ, fun x hx => by rw [g1 x hx]; exact h2 x hx, A, sg, f, w, k, isoV_cg h3 rfl rfl (fun k hk => ⟨key _ _ _ _ hk, key _ _ _ _ hk⟩) g1, h4, h5, h6, h7, h8⟩
end RNM
end
section
/-! 99zzzzzzzu.cch1 -/
/-! the class: chain -/
def cmG (g : Nat) : Prop := 43002 ≤ g ∧ g ≤ 43004 ∨ 43007 ≤ g ∧ g ≤ 43020 ∨ cP 44000 g
theorem dg_c : ∀ d : Fin 30, ((18 : Int32) < nI d.val - 10 ↔ d.val = 29) ∧ nI d.val - 10 + 1 = nI (d.val + 1) - 10 := by decide +kernel
theorem cmG_c {g : Nat} (h : cP 44000 g) : cmG g := Or.inr (Or.inr h)
theorem chP_fr {P : Nat → Prop} {y y1 : ow_MS} (hf : fr P y y1) (hP : ∀ g, P g → g < 45000) (h : chP y) : chP y1 := fun i k hi hk => by
  rw [(hf (45001 + i) (fun h9 => by have := hP _ h9; omega)).2.1]
  exact h i k hi hk
section CH
variable {vl : Nat → Nat} {y : ow_MS} {W C : Nat}
def chG (g : Nat) : Prop := 4001 ≤ g ∧ g ≤ 4011 ∨ cmG g
theorem gM_ch {y1 y2 : ow_MS} (hN : gN y1) (hf : fr (cL 4000) y y1) (hf2 : fr (fun g => cQ 4000 g ∨ cmG g) y1 y2) (h44 : ∃ T, cAt y2 44000 T ∧ ow_b24 T.2.2.1) (h : gM y) : gM y2 := by
  refine ⟨⟨dgC_fr hf2 (fun g g1 g2 h9 => by unfold cQ cmG cP at h9; omega) hN.1, fun h' hh' => ?_, kdC_fr hf2 (fun g hg => by unfold cQ cmG cP at hg; omega) hN.2.2⟩, tbs_fr (fr_tr (fr_mono (fun g hg => Or.inl hg) hf) (fr_mono (fun g hg => Or.inr hg) hf2)) (fun g (hg : cL 4000 g ∨ cQ 4000 g ∨ cmG g) => by unfold cL cQ cmG cP at hg; omega) h.2⟩
  have key : ∀ a, a ∈ nHL → a ≤ 40000 ∨ 44000 = a := by decide
  rcases key h' hh' with h9 | h9
  · obtain ⟨T, t1, t2⟩ := hN.2.1 h' hh'
    have key2 : ∀ a, a ∈ nHL → a = 4000 ∨ 4012 ≤ a := by decide
    have := key2 h' hh'
    exact ⟨T, cAt_fr hf2 (fun g hg h8 => by unfold cP at hg; unfold cQ cmG cP at h8; omega) t1, t2⟩
  · rw [← h9]
    exact h44
end CH
end
section
/-! 99zzzzzzzv.ccmp2 -/
/-! the class: all degrees -/
def cmH (g : Nat) : Prop := 43002 ≤ g ∧ g ≤ 43004 ∨ 43007 ≤ g ∧ g ≤ 43018
theorem rk_lt {g : Nat} (hg : rkG g) : 43007 ≤ g ∧ g ≤ 43018 ∧ g ≠ 43010 := by
  unfold rkG lyG kpG at hg
  omega
section CM2
variable {vl : Nat → Nat} {c ci p : Nat} {S : ow_NP} {G : Nat → Int32} {Ls : Nat → Nat → Nat} {ns : Nat → Nat} {wf : Nat → Bool} {W C : Nat}
theorem u_X1_compute_3 {x2 : Int32} {x3 : Int32} {x4 : Int32} {r0 : Nat} {r1 : Nat} {vl : Nat → Nat} {z : ow_MS} {Q : (Int32 × (Nat → Nat) × ow_MS) → Prop} (H : Tt (fun K k => dm_X1_compute_3 K (d_X1_compute K k) x2 x3 x4 r0 r1 vl z) (gQ vl Q)) : Tt (fun K k => d_X1_compute K k 3 x2 x3 x4 r0 r1 vl z) (gQ vl Q) := w_un (g := fun K k => chV vl (dm_X1_compute_3 K (d_X1_compute K k) x2 x3 x4 r0 r1 vl z)) (fun _ _ => rfl) (w_chV (E := fun K k => dm_X1_compute_3 K (d_X1_compute K k) x2 x3 x4 r0 r1 vl z) (Nat.le_refl _) H)
theorem tc_cmp3 {z7 : ow_MS} : ∀ (e i : Nat) (x3 : Int32) (v : Nat → Nat) (z : ow_MS) (W' C' : Nat), i + e = 504 → fr rkG z7 z → vI v W' C' → Tt (fun K k => d_X1_compute K k 3 (nI p) x3 (nI i) 43000 4000 v z) (gQ v (fun r => fr rkG z7 r.2.2 ∧ ∃ W' C', vI r.2.1 W' C')) := by
  intro e
  induction e with
  | zero =>
    intro i x3 v z W' C' hi hz hv'
    refine u_X1_compute_3 ?_; unfold dm_X1_compute_3
    rw [show uw_len (cX v) z (43000 + 18) = 504 from ch_43018]
    exact w_leT (a := 504) (b := i) (by omega) (by omega) (w_some ⟨Nat.le_refl _, hz, W', C', hv'⟩)
  | succ e ih =>
    intro i x3 v z W' C' hi hz hv'
    refine u_X1_compute_3 ?_; unfold dm_X1_compute_3
    rw [show uw_len (cX v) z (43000 + 18) = 504 from ch_43018, nI_1]
    exact w_leF (a := 504) (b := i) (by omega) (by omega) (w_crI ch_43018 rfl (by omega) rfl (ih (i + 1) _ v z W' C' (by omega) hz hv'))
theorem at44 {z7 z : ow_MS} {T : ow_NT} (c7 : cAt z7 44000 T) (hz : fr rkG z7 z) : cAt z 44000 T := cAt_fr hz (fun g hg h9 => by have := rk_lt h9; unfold cP at hg; omega) c7
theorem u_X1_compute_2 {x2 : Int32} {x3 : Int32} {x4 : Int32} {r0 : Nat} {r1 : Nat} {vl : Nat → Nat} {z : ow_MS} {Q : (Int32 × (Nat → Nat) × ow_MS) → Prop} (H : Tt (fun K k => dm_X1_compute_2 K (d_X1_compute K k) x2 x3 x4 r0 r1 vl z) (gQ vl Q)) : Tt (fun K k => d_X1_compute K k 2 x2 x3 x4 r0 r1 vl z) (gQ vl Q) := w_un (g := fun K k => chV vl (dm_X1_compute_2 K (d_X1_compute K k) x2 x3 x4 r0 r1 vl z)) (fun _ _ => rfl) (w_chV (E := fun K k => dm_X1_compute_2 K (d_X1_compute K k) x2 x3 x4 r0 r1 vl z) (Nat.le_refl _) H)
theorem tc_cmp2 {z7 : ow_MS} (c7 : cAt z7 44000 (c, ci, S, G)) (hci : ci ≤ 6) : ∀ (e i : Nat) (v : Nat → Nat) (z : ow_MS) (W' C' : Nat), i + e = ci → fr rkG z7 z → vI v W' C' → Tt (fun K k => d_X1_compute K k 2 (nI p) (nI i) 0 43000 4000 v z) (gQ v (fun r => fr rkG z7 r.2.2 ∧ ∃ W' C', vI r.2.1 W' C')) := by
  intro e
  induction e with
  | zero =>
    intro i v z W' C' hi hz hv'
    refine u_X1_compute_2 ?_; unfold dm_X1_compute_2
    exact w_rdF (at44 c7 hz).2.1 (w_leT (a := ci) (b := i) (by omega) (by omega) (tc_cmp3 504 0 _ v z W' C' (by omega) hz hv'))
  | succ e ih =>
    intro i v z W' C' hi hz hv'
    refine u_X1_compute_2 ?_; unfold dm_X1_compute_2
    refine w_rdF (at44 c7 hz).2.1 (w_leF (a := ci) (b := i) (by omega) (by omega) (w_cs0 tc_addCircle (fun z1 h1 => ?_)))
    rw [nI_1]
    exact ih (i + 1) v z1 W' C' (by omega) (fr_tr hz (fr_mono (fun g hg => Or.inr (Or.inr hg)) h1)) hv'
theorem u_X1_compute_1 {x2 : Int32} {x3 : Int32} {x4 : Int32} {r0 : Nat} {r1 : Nat} {vl : Nat → Nat} {z : ow_MS} {Q : (Int32 × (Nat → Nat) × ow_MS) → Prop} (H : Tt (fun K k => dm_X1_compute_1 K (d_X1_compute K k) x2 x3 x4 r0 r1 vl z) (gQ vl Q)) : Tt (fun K k => d_X1_compute K k 1 x2 x3 x4 r0 r1 vl z) (gQ vl Q) := w_un (g := fun K k => chV vl (dm_X1_compute_1 K (d_X1_compute K k) x2 x3 x4 r0 r1 vl z)) (fun _ _ => rfl) (w_chV (E := fun K k => dm_X1_compute_1 K (d_X1_compute K k) x2 x3 x4 r0 r1 vl z) (Nat.le_refl _) H)
theorem tc_cmp1 {z7 : ow_MS} (c7 : cAt z7 44000 (c, ci, S, G)) (hvn : vn c S) (hc8 : c ≤ 8) (hci : ci ≤ 6) (hwf : gaO c S wf) (hL7 : LpY z7 S G c Ls ns) (hsz : ∀ h, smH (fun s => mbt (ns s)) h 0 (2 ^ c) ≤ 1140) (htb7 : tbP z7) (hch7 : chP z7) (p7 : z7.1 43010 = nI p) (hp1 : 2 ≤ p) (hp2 : p ≤ 997) : ∀ (e d : Nat) (v : Nat → Nat) (z : ow_MS) (W' C' : Nat), d + e = 29 → fr rkG z7 z → vI v W' C' → Tt (fun K k => d_X1_compute K k 1 (nI p) (nI d - 10) 0 43000 4000 v z) (gQ v (fun r => fr rkG z7 r.2.2 ∧ ∃ W' C', vI r.2.1 W' C')) := by
  have n10 : ¬ rkG 43010 := fun h9 => (rk_lt h9).2.2 rfl
  have n5 : ¬ rkG 43005 := fun h9 => by have := rk_lt h9; omega
  have n234 : ¬ rkG 43002 ∧ ¬ rkG 43003 ∧ ¬ rkG 43004 := ⟨fun h9 => by have := rk_lt h9; omega, fun h9 => by have := rk_lt h9; omega, fun h9 => by have := rk_lt h9; omega⟩
  intro e
  induction e with
  | zero =>
    intro d v z W' C' hd hz hv'
    refine u_X1_compute_1 ?_; unfold dm_X1_compute_1
    exact w_ifT ((dg_c ⟨d, by omega⟩).1.mpr (by dsimp only; omega)) (tc_cmp2 c7 hci ci 0 v z W' C' (by omega) hz hv')
  | succ e ih =>
    intro d v z W' C' hd hz hv'
    have hrk := tc_rankDegree (d := d) hv' (at44 c7 hz) hvn hc8 (by omega) hwf (LpY_fr hz n234 hL7) (tbP_fr hz n5 htb7) (chP_fr hz (fun g hg => by have := rk_lt hg; omega) hch7) (((hz 43010 n10).1).trans p7) hp1 hp2 (fun h => bkF_sz (fun s hs => (hL7 s hs).2) (hsz h))
    refine u_X1_compute_1 ?_; unfold dm_X1_compute_1
    refine w_ifF (fun h9 => by have := (dg_c ⟨d, by omega⟩).1.mp h9; dsimp only at this; omega) (w_dc1 hrk ?_)
    rintro x v1 z8 ⟨r1, r2, W2, C2, r3⟩
    refine w_chV r1 ?_
    rw [(dg_c ⟨d, by omega⟩).2]
    exact ih (d + 1) v1 z8 W2 C2 (by omega) (fr_tr hz r2) r3
theorem tc_cmp0 {z5 : ow_MS} (hT : tyI (c, ci, S, G)) (c5 : cAt z5 44000 (c, ci, S, G)) (htb : tbP z5) (hch : chP z5) (p5 : z5.1 43010 = nI p) (hp1 : 2 ≤ p) (hp2 : p ≤ 997) (hv : vI vl W C) : Tt (fun K k => cs0 (ce_X1_markLoops vl K 43000 z5) fun z10 => cs0 (ce_J7_fill_53178 vl K (43000 + 18) 0 z10) fun z11 => d_X1_compute K k 1 (nI p) (-10) 0 43000 4000 vl z11) (gQ vl (fun r => fr cmH z5 r.2.2 ∧ ∃ W' C', vI r.2.1 W' C')) := by
  obtain ⟨hc8, ⟨wf, hwf⟩, hn9, hsz⟩ := tyI_sz hT
  have hci : ci ≤ 6 := by
    have h9 : np_rg c S + ci ≤ 6 := hT.1.2.2.2
    omega
  refine w_cs0 (tc_markLoops c5 hT.1.1 hc8 hn9) ?_
  rintro z6 ⟨l1, l2⟩
  refine w_cs0 (tc_fillA (l := 504) ch_43018 (by omega)) ?_
  rintro z7 ⟨-, l3⟩
  have hL6 : ∃ Ls : Nat → Nat → Nat, LpY z6 S G c Ls (fun s => rtsN (uPx S G (tb s) c) (2 * c)) := by
    have hex : ∀ s, ∃ L : Nat → Nat, s < 2 ^ c → LpS z6 S G c s L (rtsN (uPx S G (tb s) c) (2 * c)) := by
      intro s
      by_cases hs : s < 2 ^ c
      · obtain ⟨L, n, hL⟩ := l1 s hs
        have e := hL.2.2.2.2
        rw [e] at hL
        exact ⟨L, fun _ => hL⟩
      · exact ⟨fun _ => 0, fun h9 => absurd h9 hs⟩
    exact ⟨fun s => Classical.choose (hex s), fun s hs => ⟨Classical.choose_spec (hex s) hs, hn9 s hs⟩⟩
  obtain ⟨Ls, hL6⟩ := hL6
  have f7 : fr (fun g => 43002 ≤ g ∧ g ≤ 43004 ∨ g = 43018) z5 z7 := fr_tr (fr_mono (fun g hg => by omega) l2) (fr_mono (fun g hg => by omega) l3)
  have c7 : cAt z7 44000 (c, ci, S, G) := cAt_fr f7 (fun g hg h9 => by unfold cP at hg; omega) c5
  rw [show (-10 : Int32) = nI 0 - 10 by decide]
  refine w_mono (tc_cmp1 c7 hT.1.1 hc8 hci hwf (LpY_fr l3 (by omega) hL6) hsz (tbP_fr f7 (by omega) htb) (chP_fr f7 (fun g hg => by omega) hch) ((f7 43010 (by omega)).1.trans p5) hp1 hp2 29 0 vl z7 W C (by omega) fr_rf hv) ?_
  rintro r ⟨r1, r2, r3⟩
  exact ⟨r1, fr_tr (fr_mono (fun g hg => by unfold cmH; omega) f7) (fr_mono (fun g hg => by have := rk_lt hg; unfold cmH; omega) r2), r3⟩
end CM2
end
section
/-! 99zzzzzzzw.ccmp3 -/
/-! the class: compute -/
section CM3
variable {vl : Nat → Nat} {y : ow_MS} {W C : Nat}
theorem e_X1_compute {r0 : Nat} {r1 : Nat} {x2 : Int32} {vl : Nat → Nat} {z : ow_MS} {Q : (Int32 × (Nat → Nat) × ow_MS) → Prop} (H : Tt (fun K k => d_X1_compute K k 0 x2 0 0 r0 r1 vl z) Q) : Te (fun K => de_X1_compute K r0 r1 x2 vl z) Q := w_te H
theorem u_X1_compute_0 {x2 : Int32} {x3 : Int32} {x4 : Int32} {r0 : Nat} {r1 : Nat} {vl : Nat → Nat} {z : ow_MS} {Q : (Int32 × (Nat → Nat) × ow_MS) → Prop} (H : Tt (fun K k => dm_X1_compute_0 K (d_X1_compute K k) x2 x3 x4 r0 r1 vl z) (gQ vl Q)) : Tt (fun K k => d_X1_compute K k 0 x2 x3 x4 r0 r1 vl z) (gQ vl Q) := w_un (g := fun K k => chV vl (dm_X1_compute_0 K (d_X1_compute K k) x2 x3 x4 r0 r1 vl z)) (fun _ _ => rfl) (w_chV (E := fun K k => dm_X1_compute_0 K (d_X1_compute K k) x2 x3 x4 r0 r1 vl z) (Nat.le_refl _) H)
theorem tc_compute {p : Nat} {R : ow_NT} (hv : vI vl W C) (h4 : cAt y 4000 R) (h44 : ∃ T, cAt y 44000 T ∧ ow_b24 T.2.2.1) (hR : tyI R) (htb : tbP y) (hch : chP y) (hp1 : 2 ≤ p) (hp2 : p ≤ 997) : Te (fun K => de_X1_compute K 43000 4000 (nI p) vl y) (gQ vl (fun r => (∃ T, cAt r.2.2 44000 T ∧ ow_b24 T.2.2.1) ∧ fr cmG y r.2.2 ∧ ∃ W' C', vI r.2.1 W' C')) := by
  obtain ⟨T0, t1, t2⟩ := h44
  have hcp := tc_copy (vl := vl) nH44 nH4 (Or.inr (by omega)) t1 h4 hR.1.2.1
  refine e_X1_compute ?_
  refine u_X1_compute_0 ?_; unfold dm_X1_compute_0
  refine w_cs0 hcp ?_
  rintro z1 ⟨a1, a2⟩
  refine w_cs0 (tc_tidy a1 (tyI_cp hR t2)) ?_
  rintro z2 ⟨⟨⟨c, ci, S, G⟩, b1, b2⟩, b3⟩
  have hb24 : ow_b24 S := b2.1.2.2.1
  have hc12 : c ≤ 12 := b2.1.2.1
  have f2 : fr cmG y z2 := fr_tr (fr_mono (fun g hg => cmG_c hg) a2) (fr_mono (fun g hg => cmG_c hg) b3)
  refine w_wrF ?_
  have c3 : cAt (usF z2 (43000 + 10) (nI p)) 44000 (c, ci, S, G) := cAt_fr (fr_F (P := fun g => g = 43010) rfl) (fun g hg h9 => by unfold cP at hg; omega) b1
  refine w_cs1 (tc_writhe nH44 c3 hc12) ?_
  rintro wr z3 ⟨-, g3⟩
  dsimp only at g3
  subst g3
  refine w_wrF ?_
  have c4 : cAt (usF (usF z2 (43000 + 10) (nI p)) (43000 + 19) wr) 44000 (c, ci, S, G) := cAt_fr (fr_F (P := fun g => g = 43019) rfl) (fun g hg h9 => by unfold cP at hg; omega) c3
  refine w_rdF c4.1 (w_rdF rfl (w_nzI (by decide) (w_wrF ?_)))
  have f5 : ∀ x, fr (fun g => g = 43010 ∨ g = 43019 ∨ g = 43020) z2 (usF (usF (usF z2 (43000 + 10) (nI p)) (43000 + 19) wr) (43000 + 20) x) := fun x => fr_F2 (fr_F2 (fr_F (Or.inl rfl)) (Or.inr (Or.inl rfl))) (Or.inr (Or.inr rfl))
  have g5 : ∀ g, (g = 43010 ∨ g = 43019 ∨ g = 43020) → cmG g := fun g hg => by unfold cmG; omega
  have g6 : ∀ g, cmH g → cmG g := fun g hg => by unfold cmG; unfold cmH at hg; omega
  have n5 : ¬ cmG 43005 := by unfold cmG cP; omega
  have c5 : ∀ x, cAt (usF (usF (usF z2 (43000 + 10) (nI p)) (43000 + 19) wr) (43000 + 20) x) 44000 (c, ci, S, G) := fun x => cAt_fr (f5 x) (fun g hg h9 => by unfold cP at hg; omega) b1
  have p5 : ∀ x, (usF (usF (usF z2 (43000 + 10) (nI p)) (43000 + 19) wr) (43000 + 20) x).1 43010 = nI p := fun x => rf_ot (by omega) (rf_ot (by omega) po_usF_at)
  refine w_mono (tc_cmp0 b2 (c5 _) (tbP_fr (fr_tr f2 (fr_mono g5 (f5 _))) n5 htb) (chP_fr (fr_tr f2 (fr_mono g5 (f5 _))) (fun g hg => by unfold cmG cP at hg; omega) hch) (p5 _) hp1 hp2 hv) ?_
  rintro r ⟨r1, r2, r3⟩
  exact ⟨r1, ⟨_, cAt_fr r2 (fun g hg h9 => by unfold cP at hg; unfold cmH at h9; omega) (c5 _), hb24⟩, fr_tr (fr_tr f2 (fr_mono g5 (f5 _))) (fr_mono g6 r2), r3⟩
end CM3
end
section
/-! 99zzzzzzzx.cchain -/
/-! the class: chain -/
section CH2
variable {vl : Nat → Nat} {y : ow_MS} {W C : Nat}
/-- every diagram that is kept has gaps of two kinds that alternate -/
def gaS (y : ow_MS) : Prop := ∀ d A sg c, d < 40 → slC y 1000 d (clC sg A) → okL A c → ∃ w, gaA A w
theorem tc_chain {x x' : Int32} (hv : vI vl W C) (hM : gM y) (hg : gaS y) (htb : tbP y) (hch : chP y) : Te (fun K => ce_X11_chain K 0 x x' vl y) (fun r => gM r.2.2.2 ∧ fr chG y r.2.2.2 ∧ dPhi vl ≤ dPhi r.2.2.1 ∧ ∃ W' C', vI r.2.2.1 W' C') := by
  have st : ∀ (a : Nat) (v : Int32), gM y ∧ fr chG y y ∧ dPhi vl ≤ dPhi vl ∧ ∃ W' C', vI vl W' C' := fun _ _ => ⟨hM, fr_rf, Nat.le_refl _, W, C, hv⟩
  unfold ce_X11_chain
  refine w_te0 ?_
  refine w_tc0 (tc_need hM.1.1) ?_ ?_
  · rintro y1 ⟨h1, e0⟩
    have e0 : y1 = y := e0
    rw [e0]
    rcases h1 with ⟨-, d, A, sg, c, hd, rfl, hs, hA, hne⟩ | h1
    · refine w_if (fun _ => w_some (st 2 0)) (fun hx2 => w_if (fun _ => w_some (st 2 0)) (fun hx9 => ?_))
      obtain ⟨p, hp31, rfl⟩ := nI_of (x := x') (fun h8 => hx2 (by
        rw [Int32.lt_iff_toInt_lt] at h8 ⊢
        exact Int.lt_trans h8 (by decide)))
      have hp2 : 2 ≤ p := by
        rcases Nat.lt_or_ge p 2 with h8 | h8
        · exact absurd (nI_lt (b := 2) h8 (by omega)) hx2
        · exact h8
      have hp9 : p ≤ 997 := by
        rcases Nat.lt_or_ge 997 p with h8 | h8
        · exact absurd (nI_lt (a := 997) h8 hp31) hx9
        · exact h8
      refine w_cs1 (tc_isPrime hp2 hp9) ?_
      rintro v z ⟨e, -⟩
      have e : z = y := e
      rw [e]
      refine w_if (fun _ => w_some (st 2 0)) (fun _ => ?_)
      refine w_cs0 (tc_ld3 nH4 hM.1 hd hs hA) ?_
      rintro y2 ⟨g1, g2, S, G, g3, g4⟩
      obtain ⟨j1, j2, j3, j4⟩ := g4
      have hc12 : c ≤ 12 := hA.2.2.2.1
      have hnv : nv (c, cirs A, S, G) := g3.2.2.1
      refine w_cs0 (tc_markParts nH4 g3.1 (fun k hk => (j3 k hk).1) hc12) ?_
      rintro y3 ⟨-, q2, q3⟩
      have pe := (np_parts_of (N := S.1) (c := c) (fun k hk => (j3 k hk).1) hc12 (y2.2.1 (4000 + 6))).2
      have pl := mp_out_le S.1 (2 * c) (np_fill (y2.2.1 (4000 + 6)) 0 (2 * c) (-1)) (2 * c)
      dsimp only at q2
      generalize (mp_out S.1 (2 * c) (np_fill (y2.2.1 (4000 + 6)) 0 (2 * c) (-1)) (2 * c)).2 = P at q2 pe pl
      have a3 : cAt y3 4000 (c, cirs A, S, G) := cAt_fr q3 (fun g hg h9 => by unfold cP at hg; unfold cQ at h9; omega) g3.1
      have hci : cirs A ≤ 6 := by
        have h9 : np_rg c S + cirs A ≤ 6 := hnv.2.2.2
        omega
      have f3 : fr chG y y3 := fr_tr (fr_mono (fun g hg => Or.inl (by unfold cL at hg; omega)) g2) (fr_mono (fun g hg => Or.inl (by unfold cQ at hg; omega)) q3)
      have n44 : ∃ T, cAt y3 44000 T ∧ ow_b24 T.2.2.1 := by
        obtain ⟨T, t1, t2⟩ := g1.2.1 44000 nH44
        exact ⟨T, cAt_fr q3 (fun g hg h9 => by unfold cP at hg; unfold cQ at h9; omega) t1, t2⟩
      refine w_rdF a3.1 (w_rdF q2 (w_rdF a3.2.1 ?_))
      dsimp only
      rw [nI_add, nI_add]
      refine w_le (a := c + P + cirs A) (b := 9) (by omega) (by omega) (fun h9 => ?_) (fun _ => w_some ⟨gM_ch g1 g2 (fr_mono (fun g hg => Or.inl hg) q3) n44 hM, f3, Nat.le_refl _, W, C, hv⟩)
      have hV : isoV A sg (fun x => x) (c, cirs A, S, G) := isoV_of j2 j3
      obtain ⟨w, hw⟩ := hg d A sg c hd hs hA
      have hT : tyI (c, cirs A, S, G) := by
        refine ⟨hnv, fun k hk => ?_, A, sg, fun x => x, w, max 1 (P + cirs A), hV, hw, hA.2.2.2.2, pLe_of hV ?_, by omega, ?_⟩
        · show G k ≠ 0
          rw [j4 k hk]
          split <;> decide
        · show (np_parts c S.1).2 + cirs A ≤ _
          omega
        · show c + max 1 (P + cirs A) ≤ 9
          rcases Nat.eq_zero_or_pos (P + cirs A) with h0 | h0
          · have : c = 0 := by
              rcases Nat.eq_zero_or_pos c with h7 | h7
              · exact h7
              · obtain ⟨-, u2, -⟩ := parts_I j3 hc12
                obtain ⟨r, r1, -⟩ := u2 0 (by omega)
                omega
            omega
          · omega
      refine w_dc1 (tc_compute hv a3 n44 hT (tbP_fr f3 (by unfold chG cmG cP; omega) htb) (chP_fr f3 (fun g hg => by unfold chG cmG cP at hg; omega) hch) hp2 hp9) ?_
      rintro v v1 z1 ⟨r1, r2, r3, W2, C2, r4⟩
      exact w_some ⟨gM_ch g1 g2 (fr_tr (fr_mono (fun g hg => Or.inl hg) q3) (fr_mono (fun g hg => Or.inr hg) r3)) r2 hM, fr_tr f3 (fr_mono (fun g hg => Or.inr hg) r3), r1, W2, C2, r4⟩
    · exact absurd (show (0 : Nat) = 1 from h1.1) (by decide)
  · rintro a y1 ha ⟨h1, rfl⟩
    exact w_some (st a 0)
end CH2
end
