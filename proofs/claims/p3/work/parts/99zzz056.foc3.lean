section
/-! 99zzzzzzzzzzzzmd.foc3 -/
/-! frames of the class, on -/
theorem fb_X5_identityOf_0 {K : Nat} {vl : Nat → Nat} {z0 z : ow_MS}  {go : Nat → Int32 → Int32 → Int32 → ow_MS → Option (Int32 × ow_MS)} {x0 : Int32} {x1 : Int32} {x2 : Int32} (hgo : ∀ (L : Nat) (x0 : Int32) (x1 : Int32) (x2 : Int32) (z : ow_MS), fr (fun _ => False) z0 z → Fo Prod.snd (fun _ => False) z0 (go L x0 x1 x2 z)) (hz : fr (fun _ => False) z0 z)  : Fo Prod.snd (fun _ => False) z0 (cm_X5_identityOf_0 vl K go x0 x1 x2 z) := by
  unfold cm_X5_identityOf_0
  exact (hgo 1 _ _ _ z hz)
theorem fb_X5_identityOf_1 {K : Nat} {vl : Nat → Nat} {z0 z : ow_MS}  {go : Nat → Int32 → Int32 → Int32 → ow_MS → Option (Int32 × ow_MS)} {x0 : Int32} {x1 : Int32} {x2 : Int32} (hgo : ∀ (L : Nat) (x0 : Int32) (x1 : Int32) (x2 : Int32) (z : ow_MS), fr (fun _ => False) z0 z → Fo Prod.snd (fun _ => False) z0 (go L x0 x1 x2 z)) (hz : fr (fun _ => False) z0 z)  : Fo Prod.snd (fun _ => False) z0 (cm_X5_identityOf_1 vl K go x0 x1 x2 z) := by
  unfold cm_X5_identityOf_1
  exact (fo_if (fo_some hz) (hgo 1 _ _ _ z hz))
theorem fq_X5_identityOf {K : Nat} {vl : Nat → Nat} {z0 : ow_MS}  : ∀ (k L : Nat) (x0 : Int32) (x1 : Int32) (x2 : Int32) (z : ow_MS), fr (fun _ => False) z0 z → Fo Prod.snd (fun _ => False) z0 (c_X5_identityOf vl K k L x0 x1 x2 z)
  | 0 => by
    intros
    exact fo_none
  | k + 1 => by
    intro L x0 x1 x2 z hz 
    show Fo Prod.snd (fun _ => False) z0 (cb_X5_identityOf vl K (c_X5_identityOf vl K k) L x0 x1 x2 z)
    unfold cb_X5_identityOf
    split
    · exact fb_X5_identityOf_0 (fq_X5_identityOf k) hz 
    · exact fb_X5_identityOf_1 (fq_X5_identityOf k) hz 
    · exact fo_none
theorem ff_X5_identityOf {vl : Nat → Nat} {K : Nat} {x0 : Int32} {z : ow_MS} : Fo Prod.snd (fun _ => False) z (ce_X5_identityOf vl K x0 z) := fq_X5_identityOf K 0 _ _ _ z fr_rf 
theorem fb_X5_deltaOf_0 {K : Nat} {vl : Nat → Nat} {z0 z : ow_MS}  {go : Nat → Int32 → Int32 → Int32 → ow_MS → Option (Int32 × ow_MS)} {x0 : Int32} {x1 : Int32} {x2 : Int32} (hgo : ∀ (L : Nat) (x0 : Int32) (x1 : Int32) (x2 : Int32) (z : ow_MS), fr (fun _ => False) z0 z → Fo Prod.snd (fun _ => False) z0 (go L x0 x1 x2 z)) (hz : fr (fun _ => False) z0 z)  : Fo Prod.snd (fun _ => False) z0 (cm_X5_deltaOf_0 vl K go x0 x1 x2 z) := by
  unfold cm_X5_deltaOf_0
  exact (hgo 1 _ _ _ z hz)
theorem fb_X5_deltaOf_1 {K : Nat} {vl : Nat → Nat} {z0 z : ow_MS}  {go : Nat → Int32 → Int32 → Int32 → ow_MS → Option (Int32 × ow_MS)} {x0 : Int32} {x1 : Int32} {x2 : Int32} (hgo : ∀ (L : Nat) (x0 : Int32) (x1 : Int32) (x2 : Int32) (z : ow_MS), fr (fun _ => False) z0 z → Fo Prod.snd (fun _ => False) z0 (go L x0 x1 x2 z)) (hz : fr (fun _ => False) z0 z)  : Fo Prod.snd (fun _ => False) z0 (cm_X5_deltaOf_1 vl K go x0 x1 x2 z) := by
  unfold cm_X5_deltaOf_1
  exact (fo_if (fo_some hz) (hgo 1 _ _ _ z hz))
theorem fq_X5_deltaOf {K : Nat} {vl : Nat → Nat} {z0 : ow_MS}  : ∀ (k L : Nat) (x0 : Int32) (x1 : Int32) (x2 : Int32) (z : ow_MS), fr (fun _ => False) z0 z → Fo Prod.snd (fun _ => False) z0 (c_X5_deltaOf vl K k L x0 x1 x2 z)
  | 0 => by
    intros
    exact fo_none
  | k + 1 => by
    intro L x0 x1 x2 z hz 
    show Fo Prod.snd (fun _ => False) z0 (cb_X5_deltaOf vl K (c_X5_deltaOf vl K k) L x0 x1 x2 z)
    unfold cb_X5_deltaOf
    split
    · exact fb_X5_deltaOf_0 (fq_X5_deltaOf k) hz 
    · exact fb_X5_deltaOf_1 (fq_X5_deltaOf k) hz 
    · exact fo_none
theorem ff_X5_deltaOf {vl : Nat → Nat} {K : Nat} {x0 : Int32} {z : ow_MS} : Fo Prod.snd (fun _ => False) z (ce_X5_deltaOf vl K x0 z) := fq_X5_deltaOf K 0 _ _ _ z fr_rf 
theorem ff_X5_begin {vl : Nat → Nat} {K : Nat} {r0 : Nat} {x1 : Int32} {z : ow_MS} : Fo id (fun g => r0 + 1 ≤ g ∧ g ≤ r0 + 6) z (ce_X5_begin vl K r0 x1 z) := by
  unfold ce_X5_begin cm_X5_begin_0
  exact (fo_wrF (by omega) fr_rf (fun z1 h_z1 => (fo_wrF (by omega) h_z1 (fun z2 h_z2 => (fo_wrF (by omega) h_z2 (fun z3 h_z3 => (fo_cs1 ff_X5_identityOf (fun g hg => hg.elim) h_z3 (fun v5 z4 h_z4 => (fo_wrF (by omega) h_z4 (fun z6 h_z6 => (fo_cs1 ff_X5_deltaOf (fun g hg => hg.elim) h_z6 (fun v8 z7 h_z7 => (fo_wrF (by omega) h_z7 (fun z9 h_z9 => (fo_some h_z9)))))))))))))))
theorem ff_X5_image {vl : Nat → Nat} {K : Nat} {x0 : Int32} {x1 : Int32} {z : ow_MS} : Fo Prod.snd (fun _ => False) z (ce_X5_image vl K x0 x1 z) := by
  unfold ce_X5_image cm_X5_image_0
  exact (fo_some fr_rf)
theorem ff_X5_exchanged {vl : Nat → Nat} {K : Nat} {x0 : Int32} {x1 : Int32} {z : ow_MS} : Fo Prod.snd (fun _ => False) z (ce_X5_exchanged vl K x0 x1 z) := by
  unfold ce_X5_exchanged cm_X5_exchanged_0
  exact (fo_cs1 ff_X5_image (fun g hg => hg.elim) fr_rf (fun v2 z1 h_z1 => (fo_cs1 ff_X5_image (fun g hg => hg.elim) h_z1 (fun v4 z3 h_z3 => (fo_some h_z3)))))
theorem fb_X5_invert_0 {K : Nat} {vl : Nat → Nat} {z0 z : ow_MS}  {go : Nat → Int32 → Int32 → Int32 → Int32 → ow_MS → Option (Int32 × ow_MS)} {x0 : Int32} {x1 : Int32} {x2 : Int32} {x3 : Int32} (hgo : ∀ (L : Nat) (x0 : Int32) (x1 : Int32) (x2 : Int32) (x3 : Int32) (z : ow_MS), fr (fun _ => False) z0 z → Fo Prod.snd (fun _ => False) z0 (go L x0 x1 x2 x3 z)) (hz : fr (fun _ => False) z0 z)  : Fo Prod.snd (fun _ => False) z0 (cm_X5_invert_0 vl K go x0 x1 x2 x3 z) := by
  unfold cm_X5_invert_0
  exact (hgo 1 _ _ _ _ z hz)
theorem fb_X5_invert_1 {K : Nat} {vl : Nat → Nat} {z0 z : ow_MS}  {go : Nat → Int32 → Int32 → Int32 → Int32 → ow_MS → Option (Int32 × ow_MS)} {x0 : Int32} {x1 : Int32} {x2 : Int32} {x3 : Int32} (hgo : ∀ (L : Nat) (x0 : Int32) (x1 : Int32) (x2 : Int32) (x3 : Int32) (z : ow_MS), fr (fun _ => False) z0 z → Fo Prod.snd (fun _ => False) z0 (go L x0 x1 x2 x3 z)) (hz : fr (fun _ => False) z0 z)  : Fo Prod.snd (fun _ => False) z0 (cm_X5_invert_1 vl K go x0 x1 x2 x3 z) := by
  unfold cm_X5_invert_1
  exact (fo_if (fo_some hz) (fo_cs1 ff_X5_image (fun g hg => hg.elim) hz (fun v2 z1 h_z1 => (hgo 1 _ _ _ _ z1 h_z1))))
theorem fq_X5_invert {K : Nat} {vl : Nat → Nat} {z0 : ow_MS}  : ∀ (k L : Nat) (x0 : Int32) (x1 : Int32) (x2 : Int32) (x3 : Int32) (z : ow_MS), fr (fun _ => False) z0 z → Fo Prod.snd (fun _ => False) z0 (c_X5_invert vl K k L x0 x1 x2 x3 z)
  | 0 => by
    intros
    exact fo_none
  | k + 1 => by
    intro L x0 x1 x2 x3 z hz 
    show Fo Prod.snd (fun _ => False) z0 (cb_X5_invert vl K (c_X5_invert vl K k) L x0 x1 x2 x3 z)
    unfold cb_X5_invert
    split
    · exact fb_X5_invert_0 (fq_X5_invert k) hz 
    · exact fb_X5_invert_1 (fq_X5_invert k) hz 
    · exact fo_none
theorem ff_X5_invert {vl : Nat → Nat} {K : Nat} {x0 : Int32} {x1 : Int32} {z : ow_MS} : Fo Prod.snd (fun _ => False) z (ce_X5_invert vl K x0 x1 z) := fq_X5_invert K 0 _ _ _ _ z fr_rf 
theorem fb_X5_movable_0 {K : Nat} {vl : Nat → Nat} {z0 z : ow_MS} {pr0 : Nat} {go : Nat → Int32 → Int32 → Int32 → Nat → ow_MS → Option (Int32 × ow_MS)} {x1 : Int32} {x2 : Int32} {x3 : Int32} {r0 : Nat} (hgo : ∀ (L : Nat) (x1 : Int32) (x2 : Int32) (x3 : Int32) (r0 : Nat) (z : ow_MS), fr (fun _ => False) z0 z → (L = 0 ∨ L = 1 ∨ L = 2 → r0 = pr0) → Fo Prod.snd (fun _ => False) z0 (go L x1 x2 x3 r0 z)) (hz : fr (fun _ => False) z0 z) (e_r0 : r0 = pr0) : Fo Prod.snd (fun _ => False) z0 (cm_X5_movable_0 vl K go x1 x2 x3 r0 z) := by
  unfold cm_X5_movable_0
  exact (hgo 1 _ _ _ _ z hz (fun _ => by omega))
theorem fb_X5_movable_1 {K : Nat} {vl : Nat → Nat} {z0 z : ow_MS} {pr0 : Nat} {go : Nat → Int32 → Int32 → Int32 → Nat → ow_MS → Option (Int32 × ow_MS)} {x1 : Int32} {x2 : Int32} {x3 : Int32} {r0 : Nat} (hgo : ∀ (L : Nat) (x1 : Int32) (x2 : Int32) (x3 : Int32) (r0 : Nat) (z : ow_MS), fr (fun _ => False) z0 z → (L = 0 ∨ L = 1 ∨ L = 2 → r0 = pr0) → Fo Prod.snd (fun _ => False) z0 (go L x1 x2 x3 r0 z)) (hz : fr (fun _ => False) z0 z) (e_r0 : r0 = pr0) : Fo Prod.snd (fun _ => False) z0 (cm_X5_movable_1 vl K go x1 x2 x3 r0 z) := by
  unfold cm_X5_movable_1
  exact (fo_rdF (fun v1 => (fo_if (fo_some hz) (fo_cs1 ff_X5_image (fun g hg => hg.elim) hz (fun v3 z2 h_z2 => (fo_cs1 ff_X5_image (fun g hg => hg.elim) h_z2 (fun v5 z4 h_z4 => (fo_if (hgo 2 _ _ _ _ z4 h_z4 (fun _ => by omega)) (fo_cs1 ff_X5_image (fun g hg => hg.elim) h_z4 (fun v7 z6 h_z6 => (fo_cs1 ff_X5_image (fun g hg => hg.elim) h_z6 (fun v9 z8 h_z8 => (fo_if (hgo 2 _ _ _ _ z8 h_z8 (fun _ => by omega)) (fo_some h_z8))))))))))))))
theorem fb_X5_movable_2 {K : Nat} {vl : Nat → Nat} {z0 z : ow_MS} {pr0 : Nat} {go : Nat → Int32 → Int32 → Int32 → Nat → ow_MS → Option (Int32 × ow_MS)} {x1 : Int32} {x2 : Int32} {x3 : Int32} {r0 : Nat} (hgo : ∀ (L : Nat) (x1 : Int32) (x2 : Int32) (x3 : Int32) (r0 : Nat) (z : ow_MS), fr (fun _ => False) z0 z → (L = 0 ∨ L = 1 ∨ L = 2 → r0 = pr0) → Fo Prod.snd (fun _ => False) z0 (go L x1 x2 x3 r0 z)) (hz : fr (fun _ => False) z0 z) (e_r0 : r0 = pr0) : Fo Prod.snd (fun _ => False) z0 (cm_X5_movable_2 vl K go x1 x2 x3 r0 z) := by
  unfold cm_X5_movable_2
  exact (hgo 1 _ _ _ _ z hz (fun _ => by omega))
theorem fq_X5_movable {K : Nat} {vl : Nat → Nat} {z0 : ow_MS} {pr0 : Nat} : ∀ (k L : Nat) (x1 : Int32) (x2 : Int32) (x3 : Int32) (r0 : Nat) (z : ow_MS), fr (fun _ => False) z0 z → (L = 0 ∨ L = 1 ∨ L = 2 → r0 = pr0) → Fo Prod.snd (fun _ => False) z0 (c_X5_movable vl K k L x1 x2 x3 r0 z)
  | 0 => by
    intros
    exact fo_none
  | k + 1 => by
    intro L x1 x2 x3 r0 z hz h9_r0
    show Fo Prod.snd (fun _ => False) z0 (cb_X5_movable vl K (c_X5_movable vl K k) L x1 x2 x3 r0 z)
    unfold cb_X5_movable
    split
    · exact fb_X5_movable_0 (fq_X5_movable k) hz (h9_r0 (by decide))
    · exact fb_X5_movable_1 (fq_X5_movable k) hz (h9_r0 (by decide))
    · exact fb_X5_movable_2 (fq_X5_movable k) hz (h9_r0 (by decide))
    · exact fo_none
theorem ff_X5_movable {vl : Nat → Nat} {K : Nat} {r0 : Nat} {x1 : Int32} {x2 : Int32} {z : ow_MS} : Fo Prod.snd (fun _ => False) z (ce_X5_movable vl K r0 x1 x2 z) := fq_X5_movable (pr0 := r0) K 0 _ _ _ _ z fr_rf (fun _ => rfl)
theorem fb_X5_weigh_0 {K : Nat} {vl : Nat → Nat} {z0 z : ow_MS} {pr0 : Nat} {go : Nat → Int32 → Int32 → Int32 → Int32 → Int32 → Nat → ow_MS → Option (Int32 × ow_MS)} {x1 : Int32} {x2 : Int32} {x3 : Int32} {x4 : Int32} {x5 : Int32} {r0 : Nat} (hgo : ∀ (L : Nat) (x1 : Int32) (x2 : Int32) (x3 : Int32) (x4 : Int32) (x5 : Int32) (r0 : Nat) (z : ow_MS), fr (fun g => g = pr0 + 4) z0 z → (L = 0 ∨ L = 1 ∨ L = 2 → r0 = pr0) → Fo Prod.snd (fun g => g = pr0 + 4) z0 (go L x1 x2 x3 x4 x5 r0 z)) (hz : fr (fun g => g = pr0 + 4) z0 z) (e_r0 : r0 = pr0) : Fo Prod.snd (fun g => g = pr0 + 4) z0 (cm_X5_weigh_0 vl K go x1 x2 x3 x4 x5 r0 z) := by
  unfold cm_X5_weigh_0
  exact (fc_crI (fun v1 => (fo_rdF (fun v2 => (fo_cs1 ff_X5_invert (fun g hg => hg.elim) hz (fun v4 z3 h_z3 => (fc_crI (fun v5 => (fo_cs1 ff_X5_movable (fun g hg => hg.elim) h_z3 (fun v7 z6 h_z6 => (fo_if (fo_okZ (fo_some h_z6)) (hgo 1 _ _ _ _ _ _ z6 h_z6 (fun _ => by omega)))))))))))))
theorem fb_X5_weigh_1 {K : Nat} {vl : Nat → Nat} {z0 z : ow_MS} {pr0 : Nat} {go : Nat → Int32 → Int32 → Int32 → Int32 → Int32 → Nat → ow_MS → Option (Int32 × ow_MS)} {x1 : Int32} {x2 : Int32} {x3 : Int32} {x4 : Int32} {x5 : Int32} {r0 : Nat} (hgo : ∀ (L : Nat) (x1 : Int32) (x2 : Int32) (x3 : Int32) (x4 : Int32) (x5 : Int32) (r0 : Nat) (z : ow_MS), fr (fun g => g = pr0 + 4) z0 z → (L = 0 ∨ L = 1 ∨ L = 2 → r0 = pr0) → Fo Prod.snd (fun g => g = pr0 + 4) z0 (go L x1 x2 x3 x4 x5 r0 z)) (hz : fr (fun g => g = pr0 + 4) z0 z) (e_r0 : r0 = pr0) : Fo Prod.snd (fun g => g = pr0 + 4) z0 (cm_X5_weigh_1 vl K go x1 x2 x3 x4 x5 r0 z) := by
  unfold cm_X5_weigh_1
  exact (fo_if (hgo 2 _ _ _ _ _ _ z hz (fun _ => by omega)) (fo_if (hgo 2 _ _ _ _ _ _ z hz (fun _ => by omega)) (fo_cs1 ff_X5_exchanged (fun g hg => hg.elim) hz (fun v9 z8 h_z8 => (fo_cs1 ff_X5_exchanged (fun g hg => hg.elim) h_z8 (fun v11 z10 h_z10 => (fo_cs1 ff_X5_movable (fun g hg => hg.elim) h_z10 (fun v13 z12 h_z12 => (hgo 1 _ _ _ _ _ _ z12 h_z12 (fun _ => by omega))))))))))
theorem fb_X5_weigh_2 {K : Nat} {vl : Nat → Nat} {z0 z : ow_MS} {pr0 : Nat} {go : Nat → Int32 → Int32 → Int32 → Int32 → Int32 → Nat → ow_MS → Option (Int32 × ow_MS)} {x1 : Int32} {x2 : Int32} {x3 : Int32} {x4 : Int32} {x5 : Int32} {r0 : Nat} (hgo : ∀ (L : Nat) (x1 : Int32) (x2 : Int32) (x3 : Int32) (x4 : Int32) (x5 : Int32) (r0 : Nat) (z : ow_MS), fr (fun g => g = pr0 + 4) z0 z → (L = 0 ∨ L = 1 ∨ L = 2 → r0 = pr0) → Fo Prod.snd (fun g => g = pr0 + 4) z0 (go L x1 x2 x3 x4 x5 r0 z)) (hz : fr (fun g => g = pr0 + 4) z0 z) (e_r0 : r0 = pr0) : Fo Prod.snd (fun g => g = pr0 + 4) z0 (cm_X5_weigh_2 vl K go x1 x2 x3 x4 x5 r0 z) := by
  unfold cm_X5_weigh_2
  exact (fo_rdF (fun v14 => (fo_cs1 ff_X5_invert (fun g hg => hg.elim) hz (fun v16 z15 h_z15 => (fc_ctI (by omega) h_z15 (fun z17 h_z17 => (fc_ctI (by omega) h_z17 (fun z18 h_z18 => (fo_okZ (fo_some h_z18))))))))))
theorem fq_X5_weigh {K : Nat} {vl : Nat → Nat} {z0 : ow_MS} {pr0 : Nat} : ∀ (k L : Nat) (x1 : Int32) (x2 : Int32) (x3 : Int32) (x4 : Int32) (x5 : Int32) (r0 : Nat) (z : ow_MS), fr (fun g => g = pr0 + 4) z0 z → (L = 0 ∨ L = 1 ∨ L = 2 → r0 = pr0) → Fo Prod.snd (fun g => g = pr0 + 4) z0 (c_X5_weigh vl K k L x1 x2 x3 x4 x5 r0 z)
  | 0 => by
    intros
    exact fo_none
  | k + 1 => by
    intro L x1 x2 x3 x4 x5 r0 z hz h9_r0
    show Fo Prod.snd (fun g => g = pr0 + 4) z0 (cb_X5_weigh vl K (c_X5_weigh vl K k) L x1 x2 x3 x4 x5 r0 z)
    unfold cb_X5_weigh
    split
    · exact fb_X5_weigh_0 (fq_X5_weigh k) hz (h9_r0 (by decide))
    · exact fb_X5_weigh_1 (fq_X5_weigh k) hz (h9_r0 (by decide))
    · exact fb_X5_weigh_2 (fq_X5_weigh k) hz (h9_r0 (by decide))
    · exact fo_none
theorem ff_X5_weigh {vl : Nat → Nat} {K : Nat} {r0 : Nat} {x1 : Int32} {z : ow_MS} : Fo Prod.snd (fun g => g = r0 + 4) z (ce_X5_weigh vl K r0 x1 z) := fq_X5_weigh (pr0 := r0) K 0 _ _ _ _ _ _ z fr_rf (fun _ => rfl)
theorem fb_X5_strip_0 {K : Nat} {vl : Nat → Nat} {z0 z : ow_MS} {pr0 : Nat} {go : Nat → Int32 → Nat → ow_MS → Option ow_MS} {x1 : Int32} {r0 : Nat} (hgo : ∀ (L : Nat) (x1 : Int32) (r0 : Nat) (z : ow_MS), fr (fun g => pr0 + 2 ≤ g ∧ g ≤ pr0 + 4) z0 z → (L = 0 ∨ L = 1 ∨ L = 2 ∨ L = 3 → r0 = pr0) → Fo id (fun g => pr0 + 2 ≤ g ∧ g ≤ pr0 + 4) z0 (go L x1 r0 z)) (hz : fr (fun g => pr0 + 2 ≤ g ∧ g ≤ pr0 + 4) z0 z) (e_r0 : r0 = pr0) : Fo id (fun g => pr0 + 2 ≤ g ∧ g ≤ pr0 + 4) z0 (cm_X5_strip_0 vl K go x1 r0 z) := by
  unfold cm_X5_strip_0
  exact (hgo 1 _ _ z hz (fun _ => by omega))
theorem fb_X5_strip_1 {K : Nat} {vl : Nat → Nat} {z0 z : ow_MS} {pr0 : Nat} {go : Nat → Int32 → Nat → ow_MS → Option ow_MS} {x1 : Int32} {r0 : Nat} (hgo : ∀ (L : Nat) (x1 : Int32) (r0 : Nat) (z : ow_MS), fr (fun g => pr0 + 2 ≤ g ∧ g ≤ pr0 + 4) z0 z → (L = 0 ∨ L = 1 ∨ L = 2 ∨ L = 3 → r0 = pr0) → Fo id (fun g => pr0 + 2 ≤ g ∧ g ≤ pr0 + 4) z0 (go L x1 r0 z)) (hz : fr (fun g => pr0 + 2 ≤ g ∧ g ≤ pr0 + 4) z0 z) (e_r0 : r0 = pr0) : Fo id (fun g => pr0 + 2 ≤ g ∧ g ≤ pr0 + 4) z0 (cm_X5_strip_1 vl K go x1 r0 z) := by
  unfold cm_X5_strip_1
  exact (fo_rdF (fun v1 => (fo_if (hgo 2 _ _ z hz (fun _ => by omega)) (fc_crI (fun v2 => (fo_rdF (fun v3 => (fo_if (hgo 1 _ _ z hz (fun _ => by omega)) (hgo 2 _ _ z hz (fun _ => by omega))))))))))
theorem fb_X5_strip_2 {K : Nat} {vl : Nat → Nat} {z0 z : ow_MS} {pr0 : Nat} {go : Nat → Int32 → Nat → ow_MS → Option ow_MS} {x1 : Int32} {r0 : Nat} (hgo : ∀ (L : Nat) (x1 : Int32) (r0 : Nat) (z : ow_MS), fr (fun g => pr0 + 2 ≤ g ∧ g ≤ pr0 + 4) z0 z → (L = 0 ∨ L = 1 ∨ L = 2 ∨ L = 3 → r0 = pr0) → Fo id (fun g => pr0 + 2 ≤ g ∧ g ≤ pr0 + 4) z0 (go L x1 r0 z)) (hz : fr (fun g => pr0 + 2 ≤ g ∧ g ≤ pr0 + 4) z0 z) (e_r0 : r0 = pr0) : Fo id (fun g => pr0 + 2 ≤ g ∧ g ≤ pr0 + 4) z0 (cm_X5_strip_2 vl K go x1 r0 z) := by
  unfold cm_X5_strip_2
  exact (fo_rdF (fun v4 => (fo_wrF (by omega) hz (fun z5 h_z5 => (fo_rdF (fun v6 => (fo_wrF (by omega) h_z5 (fun z7 h_z7 => (fo_rdF (fun v8 => (fc_cpI (by omega) h_z7 (fun z9 h_z9 => (hgo 3 _ _ z9 h_z9 (fun _ => by omega))))))))))))))
theorem fb_X5_strip_3 {K : Nat} {vl : Nat → Nat} {z0 z : ow_MS} {pr0 : Nat} {go : Nat → Int32 → Nat → ow_MS → Option ow_MS} {x1 : Int32} {r0 : Nat} (hgo : ∀ (L : Nat) (x1 : Int32) (r0 : Nat) (z : ow_MS), fr (fun g => pr0 + 2 ≤ g ∧ g ≤ pr0 + 4) z0 z → (L = 0 ∨ L = 1 ∨ L = 2 ∨ L = 3 → r0 = pr0) → Fo id (fun g => pr0 + 2 ≤ g ∧ g ≤ pr0 + 4) z0 (go L x1 r0 z)) (hz : fr (fun g => pr0 + 2 ≤ g ∧ g ≤ pr0 + 4) z0 z) (e_r0 : r0 = pr0) : Fo id (fun g => pr0 + 2 ≤ g ∧ g ≤ pr0 + 4) z0 (cm_X5_strip_3 vl K go x1 r0 z) := by
  unfold cm_X5_strip_3
  exact (fo_rdF (fun v10 => (fo_if (fo_some hz) (fo_rdF (fun v11 => (fc_crI (fun v12 => (fo_rdF (fun v13 => (fo_if (fo_rdF (fun v14 => (fo_wrF (by omega) hz (fun z15 h_z15 => (hgo 3 _ _ z15 h_z15 (fun _ => by omega)))))) (fo_some hz)))))))))))
theorem fq_X5_strip {K : Nat} {vl : Nat → Nat} {z0 : ow_MS} {pr0 : Nat} : ∀ (k L : Nat) (x1 : Int32) (r0 : Nat) (z : ow_MS), fr (fun g => pr0 + 2 ≤ g ∧ g ≤ pr0 + 4) z0 z → (L = 0 ∨ L = 1 ∨ L = 2 ∨ L = 3 → r0 = pr0) → Fo id (fun g => pr0 + 2 ≤ g ∧ g ≤ pr0 + 4) z0 (c_X5_strip vl K k L x1 r0 z)
  | 0 => by
    intros
    exact fo_none
  | k + 1 => by
    intro L x1 r0 z hz h9_r0
    show Fo id (fun g => pr0 + 2 ≤ g ∧ g ≤ pr0 + 4) z0 (cb_X5_strip vl K (c_X5_strip vl K k) L x1 r0 z)
    unfold cb_X5_strip
    split
    · exact fb_X5_strip_0 (fq_X5_strip k) hz (h9_r0 (by decide))
    · exact fb_X5_strip_1 (fq_X5_strip k) hz (h9_r0 (by decide))
    · exact fb_X5_strip_2 (fq_X5_strip k) hz (h9_r0 (by decide))
    · exact fb_X5_strip_3 (fq_X5_strip k) hz (h9_r0 (by decide))
    · exact fo_none
theorem ff_X5_strip {vl : Nat → Nat} {K : Nat} {r0 : Nat} {z : ow_MS} : Fo id (fun g => r0 + 2 ≤ g ∧ g ≤ r0 + 4) z (ce_X5_strip vl K r0 z) := fq_X5_strip (pr0 := r0) K 0 _ _ z fr_rf (fun _ => rfl)
theorem fb_X5_putBehind_0 {K : Nat} {vl : Nat → Nat} {z0 z : ow_MS} {pr0 : Nat} {go : Nat → Int32 → Int32 → Int32 → Nat → ow_MS → Option ow_MS} {x1 : Int32} {x2 : Int32} {x3 : Int32} {r0 : Nat} (hgo : ∀ (L : Nat) (x1 : Int32) (x2 : Int32) (x3 : Int32) (r0 : Nat) (z : ow_MS), fr (fun g => pr0 + 2 ≤ g ∧ g ≤ pr0 + 4) z0 z → (L = 0 ∨ L = 1 ∨ L = 2 → r0 = pr0) → Fo id (fun g => pr0 + 2 ≤ g ∧ g ≤ pr0 + 4) z0 (go L x1 x2 x3 r0 z)) (hz : fr (fun g => pr0 + 2 ≤ g ∧ g ≤ pr0 + 4) z0 z) (e_r0 : r0 = pr0) : Fo id (fun g => pr0 + 2 ≤ g ∧ g ≤ pr0 + 4) z0 (cm_X5_putBehind_0 vl K go x1 x2 x3 r0 z) := by
  unfold cm_X5_putBehind_0
  exact (fo_rdF (fun v1 => (fo_if (fo_rdF (fun v2 => (fc_ctI (by omega) hz (fun z3 h_z3 => (fo_rdF (fun v4 => (fo_wrF (by omega) h_z3 (fun z5 h_z5 => (fo_rdF (fun v6 => (hgo 1 _ _ _ _ z5 h_z5 (fun _ => by omega)))))))))))) (fo_some hz))))
theorem fb_X5_putBehind_1 {K : Nat} {vl : Nat → Nat} {z0 z : ow_MS} {pr0 : Nat} {go : Nat → Int32 → Int32 → Int32 → Nat → ow_MS → Option ow_MS} {x1 : Int32} {x2 : Int32} {x3 : Int32} {r0 : Nat} (hgo : ∀ (L : Nat) (x1 : Int32) (x2 : Int32) (x3 : Int32) (r0 : Nat) (z : ow_MS), fr (fun g => pr0 + 2 ≤ g ∧ g ≤ pr0 + 4) z0 z → (L = 0 ∨ L = 1 ∨ L = 2 → r0 = pr0) → Fo id (fun g => pr0 + 2 ≤ g ∧ g ≤ pr0 + 4) z0 (go L x1 x2 x3 r0 z)) (hz : fr (fun g => pr0 + 2 ≤ g ∧ g ≤ pr0 + 4) z0 z) (e_r0 : r0 = pr0) : Fo id (fun g => pr0 + 2 ≤ g ∧ g ≤ pr0 + 4) z0 (cm_X5_putBehind_1 vl K go x1 x2 x3 r0 z) := by
  unfold cm_X5_putBehind_1
  exact (fo_if (hgo 2 _ _ _ _ z hz (fun _ => by omega)) (fo_if (hgo 2 _ _ _ _ z hz (fun _ => by omega)) (fo_cs1 ff_X5_weigh (fun g hg => by omega) hz (fun v8 z7 h_z7 => (hgo 1 _ _ _ _ z7 h_z7 (fun _ => by omega))))))
theorem fb_X5_putBehind_2 {K : Nat} {vl : Nat → Nat} {z0 z : ow_MS} {pr0 : Nat} {go : Nat → Int32 → Int32 → Int32 → Nat → ow_MS → Option ow_MS} {x1 : Int32} {x2 : Int32} {x3 : Int32} {r0 : Nat} (hgo : ∀ (L : Nat) (x1 : Int32) (x2 : Int32) (x3 : Int32) (r0 : Nat) (z : ow_MS), fr (fun g => pr0 + 2 ≤ g ∧ g ≤ pr0 + 4) z0 z → (L = 0 ∨ L = 1 ∨ L = 2 → r0 = pr0) → Fo id (fun g => pr0 + 2 ≤ g ∧ g ≤ pr0 + 4) z0 (go L x1 x2 x3 r0 z)) (hz : fr (fun g => pr0 + 2 ≤ g ∧ g ≤ pr0 + 4) z0 z) (e_r0 : r0 = pr0) : Fo id (fun g => pr0 + 2 ≤ g ∧ g ≤ pr0 + 4) z0 (cm_X5_putBehind_2 vl K go x1 x2 x3 r0 z) := by
  unfold cm_X5_putBehind_2
  exact (fo_cs0 ff_X5_strip (fun g hg => by omega) hz (fun z9 h_z9 => (fo_some h_z9)))
theorem fq_X5_putBehind {K : Nat} {vl : Nat → Nat} {z0 : ow_MS} {pr0 : Nat} : ∀ (k L : Nat) (x1 : Int32) (x2 : Int32) (x3 : Int32) (r0 : Nat) (z : ow_MS), fr (fun g => pr0 + 2 ≤ g ∧ g ≤ pr0 + 4) z0 z → (L = 0 ∨ L = 1 ∨ L = 2 → r0 = pr0) → Fo id (fun g => pr0 + 2 ≤ g ∧ g ≤ pr0 + 4) z0 (c_X5_putBehind vl K k L x1 x2 x3 r0 z)
  | 0 => by
    intros
    exact fo_none
  | k + 1 => by
    intro L x1 x2 x3 r0 z hz h9_r0
    show Fo id (fun g => pr0 + 2 ≤ g ∧ g ≤ pr0 + 4) z0 (cb_X5_putBehind vl K (c_X5_putBehind vl K k) L x1 x2 x3 r0 z)
    unfold cb_X5_putBehind
    split
    · exact fb_X5_putBehind_0 (fq_X5_putBehind k) hz (h9_r0 (by decide))
    · exact fb_X5_putBehind_1 (fq_X5_putBehind k) hz (h9_r0 (by decide))
    · exact fb_X5_putBehind_2 (fq_X5_putBehind k) hz (h9_r0 (by decide))
    · exact fo_none
theorem ff_X5_putBehind {vl : Nat → Nat} {K : Nat} {r0 : Nat} {x1 : Int32} {z : ow_MS} : Fo id (fun g => r0 + 2 ≤ g ∧ g ≤ r0 + 4) z (ce_X5_putBehind vl K r0 x1 z) := fq_X5_putBehind (pr0 := r0) K 0 _ _ _ _ z fr_rf (fun _ => rfl)
theorem ff_X5_exchangedBehind {vl : Nat → Nat} {K : Nat} {x0 : Int32} {x1 : Int32} {x2 : Int32} {z : ow_MS} : Fo Prod.snd (fun _ => False) z (ce_X5_exchangedBehind vl K x0 x1 x2 z) := by
  unfold ce_X5_exchangedBehind cm_X5_exchangedBehind_0
  exact (fo_cs1 ff_X5_invert (fun g hg => hg.elim) fr_rf (fun v2 z1 h_z1 => (fo_cs1 ff_X5_exchanged (fun g hg => hg.elim) h_z1 (fun v4 z3 h_z3 => (fo_cs1 ff_X5_invert (fun g hg => hg.elim) h_z3 (fun v6 z5 h_z5 => (fo_some h_z5)))))))
theorem fb_X5_turned_0 {K : Nat} {vl : Nat → Nat} {z0 z : ow_MS}  {go : Nat → Int32 → Int32 → Int32 → Int32 → ow_MS → Option (Int32 × ow_MS)} {x0 : Int32} {x1 : Int32} {x2 : Int32} {x3 : Int32} (hgo : ∀ (L : Nat) (x0 : Int32) (x1 : Int32) (x2 : Int32) (x3 : Int32) (z : ow_MS), fr (fun _ => False) z0 z → Fo Prod.snd (fun _ => False) z0 (go L x0 x1 x2 x3 z)) (hz : fr (fun _ => False) z0 z)  : Fo Prod.snd (fun _ => False) z0 (cm_X5_turned_0 vl K go x0 x1 x2 x3 z) := by
  unfold cm_X5_turned_0
  exact (hgo 1 _ _ _ _ z hz)
theorem fb_X5_turned_1 {K : Nat} {vl : Nat → Nat} {z0 z : ow_MS}  {go : Nat → Int32 → Int32 → Int32 → Int32 → ow_MS → Option (Int32 × ow_MS)} {x0 : Int32} {x1 : Int32} {x2 : Int32} {x3 : Int32} (hgo : ∀ (L : Nat) (x0 : Int32) (x1 : Int32) (x2 : Int32) (x3 : Int32) (z : ow_MS), fr (fun _ => False) z0 z → Fo Prod.snd (fun _ => False) z0 (go L x0 x1 x2 x3 z)) (hz : fr (fun _ => False) z0 z)  : Fo Prod.snd (fun _ => False) z0 (cm_X5_turned_1 vl K go x0 x1 x2 x3 z) := by
  unfold cm_X5_turned_1
  exact (fo_if (fo_some hz) (fo_cs1 ff_X5_image (fun g hg => hg.elim) hz (fun v2 z1 h_z1 => (hgo 1 _ _ _ _ z1 h_z1))))
theorem fq_X5_turned {K : Nat} {vl : Nat → Nat} {z0 : ow_MS}  : ∀ (k L : Nat) (x0 : Int32) (x1 : Int32) (x2 : Int32) (x3 : Int32) (z : ow_MS), fr (fun _ => False) z0 z → Fo Prod.snd (fun _ => False) z0 (c_X5_turned vl K k L x0 x1 x2 x3 z)
  | 0 => by
    intros
    exact fo_none
  | k + 1 => by
    intro L x0 x1 x2 x3 z hz 
    show Fo Prod.snd (fun _ => False) z0 (cb_X5_turned vl K (c_X5_turned vl K k) L x0 x1 x2 x3 z)
    unfold cb_X5_turned
    split
    · exact fb_X5_turned_0 (fq_X5_turned k) hz 
    · exact fb_X5_turned_1 (fq_X5_turned k) hz 
    · exact fo_none
theorem ff_X5_turned {vl : Nat → Nat} {K : Nat} {x0 : Int32} {x1 : Int32} {z : ow_MS} : Fo Prod.snd (fun _ => False) z (ce_X5_turned vl K x0 x1 z) := fq_X5_turned K 0 _ _ _ _ z fr_rf 
theorem fb_X5_takeLetter_0 {K : Nat} {vl : Nat → Nat} {z0 z : ow_MS} {pr0 : Nat} {go : Nat → Int32 → Int32 → Int32 → Nat → ow_MS → Option ow_MS} {x1 : Int32} {x2 : Int32} {x3 : Int32} {r0 : Nat} (hgo : ∀ (L : Nat) (x1 : Int32) (x2 : Int32) (x3 : Int32) (r0 : Nat) (z : ow_MS), fr (fun g => pr0 + 2 ≤ g ∧ g ≤ pr0 + 4) z0 z → (L = 0 ∨ L = 1 → r0 = pr0) → Fo id (fun g => pr0 + 2 ≤ g ∧ g ≤ pr0 + 4) z0 (go L x1 x2 x3 r0 z)) (hz : fr (fun g => pr0 + 2 ≤ g ∧ g ≤ pr0 + 4) z0 z) (e_r0 : r0 = pr0) : Fo id (fun g => pr0 + 2 ≤ g ∧ g ≤ pr0 + 4) z0 (cm_X5_takeLetter_0 vl K go x1 x2 x3 r0 z) := by
  unfold cm_X5_takeLetter_0
  exact (fo_if (hgo 1 _ _ _ _ z hz (fun _ => by omega)) (fo_rdF (fun v1 => (fo_cs1 ff_X5_exchanged (fun g hg => hg.elim) hz (fun v3 z2 h_z2 => (fo_cs0 ff_X5_putBehind (fun g hg => by omega) h_z2 (fun z4 h_z4 => (fo_some h_z4))))))))
theorem fb_X5_takeLetter_1 {K : Nat} {vl : Nat → Nat} {z0 z : ow_MS} {pr0 : Nat} {go : Nat → Int32 → Int32 → Int32 → Nat → ow_MS → Option ow_MS} {x1 : Int32} {x2 : Int32} {x3 : Int32} {r0 : Nat} (hgo : ∀ (L : Nat) (x1 : Int32) (x2 : Int32) (x3 : Int32) (r0 : Nat) (z : ow_MS), fr (fun g => pr0 + 2 ≤ g ∧ g ≤ pr0 + 4) z0 z → (L = 0 ∨ L = 1 → r0 = pr0) → Fo id (fun g => pr0 + 2 ≤ g ∧ g ≤ pr0 + 4) z0 (go L x1 x2 x3 r0 z)) (hz : fr (fun g => pr0 + 2 ≤ g ∧ g ≤ pr0 + 4) z0 z) (e_r0 : r0 = pr0) : Fo id (fun g => pr0 + 2 ≤ g ∧ g ≤ pr0 + 4) z0 (cm_X5_takeLetter_1 vl K go x1 x2 x3 r0 z) := by
  unfold cm_X5_takeLetter_1
  exact (fo_rdF (fun v5 => (fo_if (fo_rdF (fun v6 => (fo_wrF (by omega) hz (fun z7 h_z7 => (fo_rdF (fun v8 => (fo_rdF (fun v9 => (fo_cs1 ff_X5_exchangedBehind (fun g hg => hg.elim) h_z7 (fun v11 z10 h_z10 => (fo_cs0 ff_X5_putBehind (fun g hg => by omega) h_z10 (fun z12 h_z12 => (fo_some h_z12))))))))))))) (fc_crI (fun v13 => (fo_rdF (fun v14 => (fo_cs1 ff_X5_turned (fun g hg => hg.elim) hz (fun v16 z15 h_z15 => (fc_ctI (by omega) h_z15 (fun z17 h_z17 => (hgo 1 _ _ _ _ z17 h_z17 (fun _ => by omega)))))))))))))
theorem fq_X5_takeLetter {K : Nat} {vl : Nat → Nat} {z0 : ow_MS} {pr0 : Nat} : ∀ (k L : Nat) (x1 : Int32) (x2 : Int32) (x3 : Int32) (r0 : Nat) (z : ow_MS), fr (fun g => pr0 + 2 ≤ g ∧ g ≤ pr0 + 4) z0 z → (L = 0 ∨ L = 1 → r0 = pr0) → Fo id (fun g => pr0 + 2 ≤ g ∧ g ≤ pr0 + 4) z0 (c_X5_takeLetter vl K k L x1 x2 x3 r0 z)
  | 0 => by
    intros
    exact fo_none
  | k + 1 => by
    intro L x1 x2 x3 r0 z hz h9_r0
    show Fo id (fun g => pr0 + 2 ≤ g ∧ g ≤ pr0 + 4) z0 (cb_X5_takeLetter vl K (c_X5_takeLetter vl K k) L x1 x2 x3 r0 z)
    unfold cb_X5_takeLetter
    split
    · exact fb_X5_takeLetter_0 (fq_X5_takeLetter k) hz (h9_r0 (by decide))
    · exact fb_X5_takeLetter_1 (fq_X5_takeLetter k) hz (h9_r0 (by decide))
    · exact fo_none
theorem ff_X5_takeLetter {vl : Nat → Nat} {K : Nat} {r0 : Nat} {x1 : Int32} {z : ow_MS} : Fo id (fun g => r0 + 2 ≤ g ∧ g ≤ r0 + 4) z (ce_X5_takeLetter vl K r0 x1 z) := fq_X5_takeLetter (pr0 := r0) K 0 _ _ _ _ z fr_rf (fun _ => rfl)
theorem fb_X11_write_0 {K : Nat} {vl : Nat → Nat} {z0 z : ow_MS} {pr0 : Nat} {pr1 : Nat} {go : Nat → Int32 → Int32 → Nat → Nat → ow_MS → Option ow_MS} {x2 : Int32} {x3 : Int32} {r0 : Nat} {r1 : Nat} (hgo : ∀ (L : Nat) (x2 : Int32) (x3 : Int32) (r0 : Nat) (r1 : Nat) (z : ow_MS), fr (fun g => pr1 + 1 ≤ g ∧ g ≤ pr1 + 6) z0 z → (L = 0 ∨ L = 1 → r0 = pr0) → (L = 0 ∨ L = 1 → r1 = pr1) → Fo id (fun g => pr1 + 1 ≤ g ∧ g ≤ pr1 + 6) z0 (go L x2 x3 r0 r1 z)) (hz : fr (fun g => pr1 + 1 ≤ g ∧ g ≤ pr1 + 6) z0 z) (e_r0 : r0 = pr0) (e_r1 : r1 = pr1) : Fo id (fun g => pr1 + 1 ≤ g ∧ g ≤ pr1 + 6) z0 (cm_X11_write_0 vl K go x2 x3 r0 r1 z) := by
  unfold cm_X11_write_0
  exact (fc_crI (fun v1 => (fo_cs0 ff_X5_begin (fun g hg => by omega) hz (fun z2 h_z2 => (hgo 1 _ _ _ _ z2 h_z2 (fun _ => by omega) (fun _ => by omega))))))
theorem fb_X11_write_1 {K : Nat} {vl : Nat → Nat} {z0 z : ow_MS} {pr0 : Nat} {pr1 : Nat} {go : Nat → Int32 → Int32 → Nat → Nat → ow_MS → Option ow_MS} {x2 : Int32} {x3 : Int32} {r0 : Nat} {r1 : Nat} (hgo : ∀ (L : Nat) (x2 : Int32) (x3 : Int32) (r0 : Nat) (r1 : Nat) (z : ow_MS), fr (fun g => pr1 + 1 ≤ g ∧ g ≤ pr1 + 6) z0 z → (L = 0 ∨ L = 1 → r0 = pr0) → (L = 0 ∨ L = 1 → r1 = pr1) → Fo id (fun g => pr1 + 1 ≤ g ∧ g ≤ pr1 + 6) z0 (go L x2 x3 r0 r1 z)) (hz : fr (fun g => pr1 + 1 ≤ g ∧ g ≤ pr1 + 6) z0 z) (e_r0 : r0 = pr0) (e_r1 : r1 = pr1) : Fo id (fun g => pr1 + 1 ≤ g ∧ g ≤ pr1 + 6) z0 (cm_X11_write_1 vl K go x2 x3 r0 r1 z) := by
  unfold cm_X11_write_1
  exact (fc_crI (fun v3 => (fo_if (fo_some hz) (fc_crI (fun v4 => (fo_cs0 ff_X5_takeLetter (fun g hg => by omega) hz (fun z5 h_z5 => (hgo 1 _ _ _ _ z5 h_z5 (fun _ => by omega) (fun _ => by omega)))))))))
theorem fq_X11_write {K : Nat} {vl : Nat → Nat} {z0 : ow_MS} {pr0 : Nat} {pr1 : Nat} : ∀ (k L : Nat) (x2 : Int32) (x3 : Int32) (r0 : Nat) (r1 : Nat) (z : ow_MS), fr (fun g => pr1 + 1 ≤ g ∧ g ≤ pr1 + 6) z0 z → (L = 0 ∨ L = 1 → r0 = pr0) → (L = 0 ∨ L = 1 → r1 = pr1) → Fo id (fun g => pr1 + 1 ≤ g ∧ g ≤ pr1 + 6) z0 (c_X11_write vl K k L x2 x3 r0 r1 z)
  | 0 => by
    intros
    exact fo_none
  | k + 1 => by
    intro L x2 x3 r0 r1 z hz h9_r0 h9_r1
    show Fo id (fun g => pr1 + 1 ≤ g ∧ g ≤ pr1 + 6) z0 (cb_X11_write vl K (c_X11_write vl K k) L x2 x3 r0 r1 z)
    unfold cb_X11_write
    split
    · exact fb_X11_write_0 (fq_X11_write k) hz (h9_r0 (by decide)) (h9_r1 (by decide))
    · exact fb_X11_write_1 (fq_X11_write k) hz (h9_r0 (by decide)) (h9_r1 (by decide))
    · exact fo_none
theorem ff_X11_write {vl : Nat → Nat} {K : Nat} {r0 : Nat} {r1 : Nat} {x2 : Int32} {z : ow_MS} : Fo id (fun g => r1 + 1 ≤ g ∧ g ≤ r1 + 6) z (ce_X11_write vl K r0 r1 x2 z) := fq_X11_write (pr0 := r0) (pr1 := r1) K 0 _ _ _ _ z fr_rf (fun _ => rfl) (fun _ => rfl)
theorem ff_X11_normal {vl : Nat → Nat} {K : Nat} {r0 : Nat} {x1 : Int32} {x2 : Int32} {z : ow_MS} : Fo (fun r => r.2.2) (fun g => r0 + 46001 ≤ g ∧ g ≤ r0 + 46006) z (ce_X11_normal vl K r0 x1 x2 z) := by
  unfold ce_X11_normal cm_X11_normal_0
  exact (fc_tc0 ff_X11_needBraid (fun g hg => hg.elim) fr_rf (fun k z h_e => (fo_some h_e)) (fun z1 h_z1 => (fo_if (fo_some h_z1) (fo_if (fo_cs0 ff_X11_write (fun g hg => by omega) h_z1 (fun z3 h_z3 => (fo_if (fc_crI (fun v4 => (fo_some h_z3))) (fo_if (fo_rdF (fun v5 => (fo_some h_z3))) (fo_if (fo_rdF (fun v6 => (fo_some h_z3))) (fo_if (fc_crI (fun v7 => (fo_some h_z3))) fo_none)))))) (fo_some h_z1)))))
theorem ff_X11_factor {vl : Nat → Nat} {K : Nat} {r0 : Nat} {x1 : Int32} {x2 : Int32} {x3 : Int32} {z : ow_MS} : Fo (fun r => r.2.2) (fun g => r0 + 46001 ≤ g ∧ g ≤ r0 + 46006) z (ce_X11_factor vl K r0 x1 x2 x3 z) := by
  unfold ce_X11_factor cm_X11_factor_0
  exact (fc_tc0 ff_X11_needBraid (fun g hg => hg.elim) fr_rf (fun k z h_e => (fo_some h_e)) (fun z1 h_z1 => (fo_cs0 ff_X11_write (fun g hg => by omega) h_z1 (fun z3 h_z3 => (fo_if (fo_some h_z3) (fo_rdF (fun v4 => (fo_if (fo_some h_z3) (fo_if (fo_some h_z3) (fc_crI (fun v5 => (fo_if (fc_crI (fun v6 => (fo_cs1 ff_X5_image (fun g hg => hg.elim) h_z3 (fun v8 z7 h_z7 => (fo_some h_z7))))) (fo_some h_z3)))))))))))))
theorem fb_X5_sameAs_0 {K : Nat} {vl : Nat → Nat} {z0 z : ow_MS} {pr0 : Nat} {pr1 : Nat} {go : Nat → Int32 → Nat → Nat → ow_MS → Option (Int32 × ow_MS)} {x2 : Int32} {r0 : Nat} {r1 : Nat} (hgo : ∀ (L : Nat) (x2 : Int32) (r0 : Nat) (r1 : Nat) (z : ow_MS), fr (fun _ => False) z0 z → (L = 0 ∨ L = 1 → r0 = pr0) → (L = 0 ∨ L = 1 → r1 = pr1) → Fo Prod.snd (fun _ => False) z0 (go L x2 r0 r1 z)) (hz : fr (fun _ => False) z0 z) (e_r0 : r0 = pr0) (e_r1 : r1 = pr1) : Fo Prod.snd (fun _ => False) z0 (cm_X5_sameAs_0 vl K go x2 r0 r1 z) := by
  unfold cm_X5_sameAs_0
  exact (fo_rdF (fun v1 => (fo_rdF (fun v2 => (fo_if (fo_rdF (fun v3 => (fo_rdF (fun v4 => (fo_if (fo_rdF (fun v5 => (fo_rdF (fun v6 => (fo_if (hgo 1 _ _ _ z hz (fun _ => by omega) (fun _ => by omega)) (fo_okZ (fo_some hz))))))) (fo_okZ (fo_some hz))))))) (fo_okZ (fo_some hz)))))))
theorem fb_X5_sameAs_1 {K : Nat} {vl : Nat → Nat} {z0 z : ow_MS} {pr0 : Nat} {pr1 : Nat} {go : Nat → Int32 → Nat → Nat → ow_MS → Option (Int32 × ow_MS)} {x2 : Int32} {r0 : Nat} {r1 : Nat} (hgo : ∀ (L : Nat) (x2 : Int32) (r0 : Nat) (r1 : Nat) (z : ow_MS), fr (fun _ => False) z0 z → (L = 0 ∨ L = 1 → r0 = pr0) → (L = 0 ∨ L = 1 → r1 = pr1) → Fo Prod.snd (fun _ => False) z0 (go L x2 r0 r1 z)) (hz : fr (fun _ => False) z0 z) (e_r0 : r0 = pr0) (e_r1 : r1 = pr1) : Fo Prod.snd (fun _ => False) z0 (cm_X5_sameAs_1 vl K go x2 r0 r1 z) := by
  unfold cm_X5_sameAs_1
  exact (fo_rdF (fun v7 => (fo_if (fo_okZ (fo_some hz)) (fc_crI (fun v8 => (fc_crI (fun v9 => (fo_if (hgo 1 _ _ _ z hz (fun _ => by omega) (fun _ => by omega)) (fo_okZ (fo_some hz))))))))))
theorem fq_X5_sameAs {K : Nat} {vl : Nat → Nat} {z0 : ow_MS} {pr0 : Nat} {pr1 : Nat} : ∀ (k L : Nat) (x2 : Int32) (r0 : Nat) (r1 : Nat) (z : ow_MS), fr (fun _ => False) z0 z → (L = 0 ∨ L = 1 → r0 = pr0) → (L = 0 ∨ L = 1 → r1 = pr1) → Fo Prod.snd (fun _ => False) z0 (c_X5_sameAs vl K k L x2 r0 r1 z)
  | 0 => by
    intros
    exact fo_none
  | k + 1 => by
    intro L x2 r0 r1 z hz h9_r0 h9_r1
    show Fo Prod.snd (fun _ => False) z0 (cb_X5_sameAs vl K (c_X5_sameAs vl K k) L x2 r0 r1 z)
    unfold cb_X5_sameAs
    split
    · exact fb_X5_sameAs_0 (fq_X5_sameAs k) hz (h9_r0 (by decide)) (h9_r1 (by decide))
    · exact fb_X5_sameAs_1 (fq_X5_sameAs k) hz (h9_r0 (by decide)) (h9_r1 (by decide))
    · exact fo_none
theorem ff_X5_sameAs {vl : Nat → Nat} {K : Nat} {r0 : Nat} {r1 : Nat} {z : ow_MS} : Fo Prod.snd (fun _ => False) z (ce_X5_sameAs vl K r0 r1 z) := fq_X5_sameAs (pr0 := r0) (pr1 := r1) K 0 _ _ _ z fr_rf (fun _ => rfl) (fun _ => rfl)
theorem ff_X11_equal {vl : Nat → Nat} {K : Nat} {r0 : Nat} {x1 : Int32} {x2 : Int32} {z : ow_MS} : Fo Prod.snd (fun g => r0 + 46001 ≤ g ∧ g ≤ r0 + 46006 ∨ r0 + 47001 ≤ g ∧ g ≤ r0 + 47006) z (ce_X11_equal vl K r0 x1 x2 z) := by
  unfold ce_X11_equal cm_X11_equal_0
  exact (fo_cs1 ff_X11_hasBraid (fun g hg => hg.elim) fr_rf (fun v2 z1 h_z1 => (fo_if (fo_okZ (fo_some h_z1)) (fo_cs1 ff_X11_hasBraid (fun g hg => hg.elim) h_z1 (fun v4 z3 h_z3 => (fo_if (fo_okZ (fo_some h_z3)) (fc_crI (fun v5 => (fc_crI (fun v6 => (fo_if (fo_cs0 ff_X11_write (fun g hg => by omega) h_z3 (fun z7 h_z7 => (fo_cs0 ff_X11_write (fun g hg => by omega) h_z7 (fun z8 h_z8 => (fo_cs1 ff_X5_sameAs (fun g hg => hg.elim) h_z8 (fun v10 z9 h_z9 => (fo_okZ (fo_some h_z9)))))))) (fo_okZ (fo_some h_z3)))))))))))))
theorem fb_X1_rankAt_0 {K : Nat} {vl : Nat → Nat} {z0 z : ow_MS} {pr0 : Nat} {go : Nat → Int32 → Int32 → Int64 → Int64 → Nat → ow_MS → Option (Int32 × ow_MS)} {x1 : Int32} {x2 : Int32} {w3 : Int64} {w5 : Int64} {r0 : Nat} (hgo : ∀ (L : Nat) (x1 : Int32) (x2 : Int32) (w3 : Int64) (w5 : Int64) (r0 : Nat) (z : ow_MS), fr (fun _ => False) z0 z → (L = 0 ∨ L = 1 → r0 = pr0) → Fo Prod.snd (fun _ => False) z0 (go L x1 x2 w3 w5 r0 z)) (hz : fr (fun _ => False) z0 z) (e_r0 : r0 = pr0) : Fo Prod.snd (fun _ => False) z0 (cm_X1_rankAt_0 vl K go x1 x2 w3 w5 r0 z) := by
  unfold cm_X1_rankAt_0
  exact (fo_rdF (fun v1 => (fo_rdF (fun v2 => (fo_rdF (fun v3 => (fo_if (hgo 1 _ _ _ _ _ z hz (fun _ => by omega)) (fo_if (hgo 1 _ _ _ _ _ z hz (fun _ => by omega)) (fo_if (hgo 1 _ _ _ _ _ z hz (fun _ => by omega)) (fo_if (fc_crI (fun v4 => (fo_some hz))) (hgo 1 _ _ _ _ _ z hz (fun _ => by omega))))))))))))
theorem fb_X1_rankAt_1 {K : Nat} {vl : Nat → Nat} {z0 z : ow_MS} {pr0 : Nat} {go : Nat → Int32 → Int32 → Int64 → Int64 → Nat → ow_MS → Option (Int32 × ow_MS)} {x1 : Int32} {x2 : Int32} {w3 : Int64} {w5 : Int64} {r0 : Nat} (hgo : ∀ (L : Nat) (x1 : Int32) (x2 : Int32) (w3 : Int64) (w5 : Int64) (r0 : Nat) (z : ow_MS), fr (fun _ => False) z0 z → (L = 0 ∨ L = 1 → r0 = pr0) → Fo Prod.snd (fun _ => False) z0 (go L x1 x2 w3 w5 r0 z)) (hz : fr (fun _ => False) z0 z) (e_r0 : r0 = pr0) : Fo Prod.snd (fun _ => False) z0 (cm_X1_rankAt_1 vl K go x1 x2 w3 w5 r0 z) := by
  unfold cm_X1_rankAt_1
  exact (fo_some hz)
theorem fq_X1_rankAt {K : Nat} {vl : Nat → Nat} {z0 : ow_MS} {pr0 : Nat} : ∀ (k L : Nat) (x1 : Int32) (x2 : Int32) (w3 : Int64) (w5 : Int64) (r0 : Nat) (z : ow_MS), fr (fun _ => False) z0 z → (L = 0 ∨ L = 1 → r0 = pr0) → Fo Prod.snd (fun _ => False) z0 (c_X1_rankAt vl K k L x1 x2 w3 w5 r0 z)
  | 0 => by
    intros
    exact fo_none
  | k + 1 => by
    intro L x1 x2 w3 w5 r0 z hz h9_r0
    show Fo Prod.snd (fun _ => False) z0 (cb_X1_rankAt vl K (c_X1_rankAt vl K k) L x1 x2 w3 w5 r0 z)
    unfold cb_X1_rankAt
    split
    · exact fb_X1_rankAt_0 (fq_X1_rankAt k) hz (h9_r0 (by decide))
    · exact fb_X1_rankAt_1 (fq_X1_rankAt k) hz (h9_r0 (by decide))
    · exact fo_none
theorem ff_X1_rankAt {vl : Nat → Nat} {K : Nat} {r0 : Nat} {x1 : Int32} {x2 : Int32} {z : ow_MS} : Fo Prod.snd (fun _ => False) z (ce_X1_rankAt vl K r0 x1 x2 z) := fq_X1_rankAt (pr0 := r0) K 0 _ _ _ _ _ z fr_rf (fun _ => rfl)
theorem ff_X11_rank {vl : Nat → Nat} {K : Nat} {r0 : Nat} {x1 : Int32} {x2 : Int32} {z : ow_MS} : Fo Prod.snd (fun _ => False) z (ce_X11_rank vl K r0 x1 x2 z) := by
  unfold ce_X11_rank cm_X11_rank_0
  exact (fo_cs1 ff_X1_rankAt (fun g hg => hg.elim) fr_rf (fun v2 z1 h_z1 => (fo_some h_z1)))
theorem ff_X11_needFewStrands {vl : Nat → Nat} {K : Nat} {r0 : Nat} {x1 : Int32} {z : ow_MS} : Fo Prod.snd (fun _ => False) z (ce_X11_needFewStrands vl K r0 x1 z) := by
  unfold ce_X11_needFewStrands cm_X11_needFewStrands_0
  exact (fc_crI (fun v1 => (fo_if (fo_some fr_rf) (fo_some fr_rf))))
theorem ff_X5_copy {vl : Nat → Nat} {K : Nat} {r0 : Nat} {r1 : Nat} {z : ow_MS} : Fo id (fun g => r0 + 1 ≤ g ∧ g ≤ r0 + 6) z (ce_X5_copy vl K r0 r1 z) := by
  unfold ce_X5_copy cm_X5_copy_0
  exact (fo_rdF (fun v1 => (fo_cs0 ff_X5_begin (fun g hg => by omega) fr_rf (fun z2 h_z2 => (fo_rdF (fun v3 => (fo_wrF (by omega) h_z2 (fun z4 h_z4 => (fo_rdF (fun v5 => (fo_wrF (by omega) h_z4 (fun z6 h_z6 => (fo_rdF (fun v7 => (fc_cpI (by omega) h_z6 (fun z8 h_z8 => (fo_some h_z8)))))))))))))))))
theorem fb_X10_changesOf_0 {K : Nat} {vl : Nat → Nat} {z0 z : ow_MS} {pr0 : Nat} {go : Nat → Int32 → Int32 → Int32 → Int32 → Nat → Int32 → Int32 → ow_MS → Option (Int32 × ow_MS)} {x1 : Int32} {x2 : Int32} {x3 : Int32} {x4 : Int32} {r0 : Nat} {t0 : Int32} {t1 : Int32} (hgo : ∀ (L : Nat) (x1 : Int32) (x2 : Int32) (x3 : Int32) (x4 : Int32) (r0 : Nat) (t0 : Int32) (t1 : Int32) (z : ow_MS), fr (fun _ => False) z0 z → (L = 0 ∨ L = 1 ∨ L = 2 ∨ L = 3 → r0 = pr0) → Fo Prod.snd (fun _ => False) z0 (go L x1 x2 x3 x4 r0 t0 t1 z)) (hz : fr (fun _ => False) z0 z) (e_r0 : r0 = pr0) : Fo Prod.snd (fun _ => False) z0 (cm_X10_changesOf_0 vl K go x1 x2 x3 x4 r0 t0 t1 z) := by
  unfold cm_X10_changesOf_0
  exact (hgo 1 _ _ _ _ _ _ _ z hz (fun _ => by omega))
theorem fb_X10_changesOf_1 {K : Nat} {vl : Nat → Nat} {z0 z : ow_MS} {pr0 : Nat} {go : Nat → Int32 → Int32 → Int32 → Int32 → Nat → Int32 → Int32 → ow_MS → Option (Int32 × ow_MS)} {x1 : Int32} {x2 : Int32} {x3 : Int32} {x4 : Int32} {r0 : Nat} {t0 : Int32} {t1 : Int32} (hgo : ∀ (L : Nat) (x1 : Int32) (x2 : Int32) (x3 : Int32) (x4 : Int32) (r0 : Nat) (t0 : Int32) (t1 : Int32) (z : ow_MS), fr (fun _ => False) z0 z → (L = 0 ∨ L = 1 ∨ L = 2 ∨ L = 3 → r0 = pr0) → Fo Prod.snd (fun _ => False) z0 (go L x1 x2 x3 x4 r0 t0 t1 z)) (hz : fr (fun _ => False) z0 z) (e_r0 : r0 = pr0) : Fo Prod.snd (fun _ => False) z0 (cm_X10_changesOf_1 vl K go x1 x2 x3 x4 r0 t0 t1 z) := by
  unfold cm_X10_changesOf_1
  exact (fo_rdF (fun v1 => (fo_if (fo_some hz) (hgo 2 _ _ _ _ _ _ _ z hz (fun _ => by omega)))))
theorem fb_X10_changesOf_2 {K : Nat} {vl : Nat → Nat} {z0 z : ow_MS} {pr0 : Nat} {go : Nat → Int32 → Int32 → Int32 → Int32 → Nat → Int32 → Int32 → ow_MS → Option (Int32 × ow_MS)} {x1 : Int32} {x2 : Int32} {x3 : Int32} {x4 : Int32} {r0 : Nat} {t0 : Int32} {t1 : Int32} (hgo : ∀ (L : Nat) (x1 : Int32) (x2 : Int32) (x3 : Int32) (x4 : Int32) (r0 : Nat) (t0 : Int32) (t1 : Int32) (z : ow_MS), fr (fun _ => False) z0 z → (L = 0 ∨ L = 1 ∨ L = 2 ∨ L = 3 → r0 = pr0) → Fo Prod.snd (fun _ => False) z0 (go L x1 x2 x3 x4 r0 t0 t1 z)) (hz : fr (fun _ => False) z0 z) (e_r0 : r0 = pr0) : Fo Prod.snd (fun _ => False) z0 (cm_X10_changesOf_2 vl K go x1 x2 x3 x4 r0 t0 t1 z) := by
  unfold cm_X10_changesOf_2
  exact (fo_rdF (fun v2 => (fo_if (hgo 1 _ _ _ _ _ _ _ z hz (fun _ => by omega)) (fo_cs1 ff_X5_image (fun g hg => hg.elim) hz (fun v4 z3 h_z3 => (fo_cs1 ff_X5_image (fun g hg => hg.elim) h_z3 (fun v6 z5 h_z5 => (fo_if (hgo 3 _ _ _ _ _ _ _ z5 h_z5 (fun _ => by omega)) (hgo 3 _ _ _ _ _ _ _ z5 h_z5 (fun _ => by omega))))))))))
theorem fb_X10_changesOf_3 {K : Nat} {vl : Nat → Nat} {z0 z : ow_MS} {pr0 : Nat} {go : Nat → Int32 → Int32 → Int32 → Int32 → Nat → Int32 → Int32 → ow_MS → Option (Int32 × ow_MS)} {x1 : Int32} {x2 : Int32} {x3 : Int32} {x4 : Int32} {r0 : Nat} {t0 : Int32} {t1 : Int32} (hgo : ∀ (L : Nat) (x1 : Int32) (x2 : Int32) (x3 : Int32) (x4 : Int32) (r0 : Nat) (t0 : Int32) (t1 : Int32) (z : ow_MS), fr (fun _ => False) z0 z → (L = 0 ∨ L = 1 ∨ L = 2 ∨ L = 3 → r0 = pr0) → Fo Prod.snd (fun _ => False) z0 (go L x1 x2 x3 x4 r0 t0 t1 z)) (hz : fr (fun _ => False) z0 z) (e_r0 : r0 = pr0) : Fo Prod.snd (fun _ => False) z0 (cm_X10_changesOf_3 vl K go x1 x2 x3 x4 r0 t0 t1 z) := by
  unfold cm_X10_changesOf_3
  exact (hgo 2 _ _ _ _ _ _ _ z hz (fun _ => by omega))
theorem fq_X10_changesOf {K : Nat} {vl : Nat → Nat} {z0 : ow_MS} {pr0 : Nat} : ∀ (k L : Nat) (x1 : Int32) (x2 : Int32) (x3 : Int32) (x4 : Int32) (r0 : Nat) (t0 : Int32) (t1 : Int32) (z : ow_MS), fr (fun _ => False) z0 z → (L = 0 ∨ L = 1 ∨ L = 2 ∨ L = 3 → r0 = pr0) → Fo Prod.snd (fun _ => False) z0 (c_X10_changesOf vl K k L x1 x2 x3 x4 r0 t0 t1 z)
  | 0 => by
    intros
    exact fo_none
  | k + 1 => by
    intro L x1 x2 x3 x4 r0 t0 t1 z hz h9_r0
    show Fo Prod.snd (fun _ => False) z0 (cb_X10_changesOf vl K (c_X10_changesOf vl K k) L x1 x2 x3 x4 r0 t0 t1 z)
    unfold cb_X10_changesOf
    split
    · exact fb_X10_changesOf_0 (fq_X10_changesOf k) hz (h9_r0 (by decide))
    · exact fb_X10_changesOf_1 (fq_X10_changesOf k) hz (h9_r0 (by decide))
    · exact fb_X10_changesOf_2 (fq_X10_changesOf k) hz (h9_r0 (by decide))
    · exact fb_X10_changesOf_3 (fq_X10_changesOf k) hz (h9_r0 (by decide))
    · exact fo_none
theorem ff_X10_changesOf {vl : Nat → Nat} {K : Nat} {r0 : Nat} {x1 : Int32} {z : ow_MS} : Fo Prod.snd (fun _ => False) z (ce_X10_changesOf vl K r0 x1 z) := fq_X10_changesOf (pr0 := r0) K 0 _ _ _ _ _ _ _ z fr_rf (fun _ => rfl)
theorem fb_X10_listSimples_0 {K : Nat} {vl : Nat → Nat} {z0 z : ow_MS} {pr0 : Nat} {go : Nat → Int32 → Int32 → Int32 → Int32 → Int32 → Nat → Int32 → ow_MS → Option ow_MS} {x1 : Int32} {x2 : Int32} {x3 : Int32} {x4 : Int32} {x5 : Int32} {r0 : Nat} {t0 : Int32} (hgo : ∀ (L : Nat) (x1 : Int32) (x2 : Int32) (x3 : Int32) (x4 : Int32) (x5 : Int32) (r0 : Nat) (t0 : Int32) (z : ow_MS), fr (fun g => pr0 + 8 ≤ g ∧ g ≤ pr0 + 11) z0 z → (L = 0 ∨ L = 1 ∨ L = 2 ∨ L = 3 ∨ L = 4 ∨ L = 5 ∨ L = 6 → r0 = pr0) → Fo id (fun g => pr0 + 8 ≤ g ∧ g ≤ pr0 + 11) z0 (go L x1 x2 x3 x4 x5 r0 t0 z)) (hz : fr (fun g => pr0 + 8 ≤ g ∧ g ≤ pr0 + 11) z0 z) (e_r0 : r0 = pr0) : Fo id (fun g => pr0 + 8 ≤ g ∧ g ≤ pr0 + 11) z0 (cm_X10_listSimples_0 vl K go x1 x2 x3 x4 x5 r0 t0 z) := by
  unfold cm_X10_listSimples_0
  exact (fo_wrF (by omega) hz (fun z1 h_z1 => (hgo 1 _ _ _ _ _ _ _ z1 h_z1 (fun _ => by omega))))
theorem fb_X10_listSimples_1 {K : Nat} {vl : Nat → Nat} {z0 z : ow_MS} {pr0 : Nat} {go : Nat → Int32 → Int32 → Int32 → Int32 → Int32 → Nat → Int32 → ow_MS → Option ow_MS} {x1 : Int32} {x2 : Int32} {x3 : Int32} {x4 : Int32} {x5 : Int32} {r0 : Nat} {t0 : Int32} (hgo : ∀ (L : Nat) (x1 : Int32) (x2 : Int32) (x3 : Int32) (x4 : Int32) (x5 : Int32) (r0 : Nat) (t0 : Int32) (z : ow_MS), fr (fun g => pr0 + 8 ≤ g ∧ g ≤ pr0 + 11) z0 z → (L = 0 ∨ L = 1 ∨ L = 2 ∨ L = 3 ∨ L = 4 ∨ L = 5 ∨ L = 6 → r0 = pr0) → Fo id (fun g => pr0 + 8 ≤ g ∧ g ≤ pr0 + 11) z0 (go L x1 x2 x3 x4 x5 r0 t0 z)) (hz : fr (fun g => pr0 + 8 ≤ g ∧ g ≤ pr0 + 11) z0 z) (e_r0 : r0 = pr0) : Fo id (fun g => pr0 + 8 ≤ g ∧ g ≤ pr0 + 11) z0 (cm_X10_listSimples_1 vl K go x1 x2 x3 x4 x5 r0 t0 z) := by
  unfold cm_X10_listSimples_1
  exact (fo_if (fo_some hz) (hgo 2 _ _ _ _ _ _ _ z hz (fun _ => by omega)))
theorem fb_X10_listSimples_2 {K : Nat} {vl : Nat → Nat} {z0 z : ow_MS} {pr0 : Nat} {go : Nat → Int32 → Int32 → Int32 → Int32 → Int32 → Nat → Int32 → ow_MS → Option ow_MS} {x1 : Int32} {x2 : Int32} {x3 : Int32} {x4 : Int32} {x5 : Int32} {r0 : Nat} {t0 : Int32} (hgo : ∀ (L : Nat) (x1 : Int32) (x2 : Int32) (x3 : Int32) (x4 : Int32) (x5 : Int32) (r0 : Nat) (t0 : Int32) (z : ow_MS), fr (fun g => pr0 + 8 ≤ g ∧ g ≤ pr0 + 11) z0 z → (L = 0 ∨ L = 1 ∨ L = 2 ∨ L = 3 ∨ L = 4 ∨ L = 5 ∨ L = 6 → r0 = pr0) → Fo id (fun g => pr0 + 8 ≤ g ∧ g ≤ pr0 + 11) z0 (go L x1 x2 x3 x4 x5 r0 t0 z)) (hz : fr (fun g => pr0 + 8 ≤ g ∧ g ≤ pr0 + 11) z0 z) (e_r0 : r0 = pr0) : Fo id (fun g => pr0 + 8 ≤ g ∧ g ≤ pr0 + 11) z0 (cm_X10_listSimples_2 vl K go x1 x2 x3 x4 x5 r0 t0 z) := by
  unfold cm_X10_listSimples_2
  exact (fo_rdF (fun v2 => (fo_if (hgo 1 _ _ _ _ _ _ _ z hz (fun _ => by omega)) (hgo 3 _ _ _ _ _ _ _ z hz (fun _ => by omega)))))
theorem fb_X10_listSimples_3 {K : Nat} {vl : Nat → Nat} {z0 z : ow_MS} {pr0 : Nat} {go : Nat → Int32 → Int32 → Int32 → Int32 → Int32 → Nat → Int32 → ow_MS → Option ow_MS} {x1 : Int32} {x2 : Int32} {x3 : Int32} {x4 : Int32} {x5 : Int32} {r0 : Nat} {t0 : Int32} (hgo : ∀ (L : Nat) (x1 : Int32) (x2 : Int32) (x3 : Int32) (x4 : Int32) (x5 : Int32) (r0 : Nat) (t0 : Int32) (z : ow_MS), fr (fun g => pr0 + 8 ≤ g ∧ g ≤ pr0 + 11) z0 z → (L = 0 ∨ L = 1 ∨ L = 2 ∨ L = 3 ∨ L = 4 ∨ L = 5 ∨ L = 6 → r0 = pr0) → Fo id (fun g => pr0 + 8 ≤ g ∧ g ≤ pr0 + 11) z0 (go L x1 x2 x3 x4 x5 r0 t0 z)) (hz : fr (fun g => pr0 + 8 ≤ g ∧ g ≤ pr0 + 11) z0 z) (e_r0 : r0 = pr0) : Fo id (fun g => pr0 + 8 ≤ g ∧ g ≤ pr0 + 11) z0 (cm_X10_listSimples_3 vl K go x1 x2 x3 x4 x5 r0 t0 z) := by
  unfold cm_X10_listSimples_3
  exact (fo_rdF (fun v3 => (fo_if (fo_rdF (fun v4 => (fo_if (fo_rdF (fun v5 => (fo_if (hgo 4 _ _ _ _ _ _ _ z hz (fun _ => by omega)) (hgo 5 _ _ _ _ _ _ _ z hz (fun _ => by omega))))) (hgo 4 _ _ _ _ _ _ _ z hz (fun _ => by omega))))) (hgo 3 _ _ _ _ _ _ _ z hz (fun _ => by omega)))))
theorem fb_X10_listSimples_4 {K : Nat} {vl : Nat → Nat} {z0 z : ow_MS} {pr0 : Nat} {go : Nat → Int32 → Int32 → Int32 → Int32 → Int32 → Nat → Int32 → ow_MS → Option ow_MS} {x1 : Int32} {x2 : Int32} {x3 : Int32} {x4 : Int32} {x5 : Int32} {r0 : Nat} {t0 : Int32} (hgo : ∀ (L : Nat) (x1 : Int32) (x2 : Int32) (x3 : Int32) (x4 : Int32) (x5 : Int32) (r0 : Nat) (t0 : Int32) (z : ow_MS), fr (fun g => pr0 + 8 ≤ g ∧ g ≤ pr0 + 11) z0 z → (L = 0 ∨ L = 1 ∨ L = 2 ∨ L = 3 ∨ L = 4 ∨ L = 5 ∨ L = 6 → r0 = pr0) → Fo id (fun g => pr0 + 8 ≤ g ∧ g ≤ pr0 + 11) z0 (go L x1 x2 x3 x4 x5 r0 t0 z)) (hz : fr (fun g => pr0 + 8 ≤ g ∧ g ≤ pr0 + 11) z0 z) (e_r0 : r0 = pr0) : Fo id (fun g => pr0 + 8 ≤ g ∧ g ≤ pr0 + 11) z0 (cm_X10_listSimples_4 vl K go x1 x2 x3 x4 x5 r0 t0 z) := by
  unfold cm_X10_listSimples_4
  exact (hgo 5 _ _ _ _ _ _ _ z hz (fun _ => by omega))
theorem fb_X10_listSimples_5 {K : Nat} {vl : Nat → Nat} {z0 z : ow_MS} {pr0 : Nat} {go : Nat → Int32 → Int32 → Int32 → Int32 → Int32 → Nat → Int32 → ow_MS → Option ow_MS} {x1 : Int32} {x2 : Int32} {x3 : Int32} {x4 : Int32} {x5 : Int32} {r0 : Nat} {t0 : Int32} (hgo : ∀ (L : Nat) (x1 : Int32) (x2 : Int32) (x3 : Int32) (x4 : Int32) (x5 : Int32) (r0 : Nat) (t0 : Int32) (z : ow_MS), fr (fun g => pr0 + 8 ≤ g ∧ g ≤ pr0 + 11) z0 z → (L = 0 ∨ L = 1 ∨ L = 2 ∨ L = 3 ∨ L = 4 ∨ L = 5 ∨ L = 6 → r0 = pr0) → Fo id (fun g => pr0 + 8 ≤ g ∧ g ≤ pr0 + 11) z0 (go L x1 x2 x3 x4 x5 r0 t0 z)) (hz : fr (fun g => pr0 + 8 ≤ g ∧ g ≤ pr0 + 11) z0 z) (e_r0 : r0 = pr0) : Fo id (fun g => pr0 + 8 ≤ g ∧ g ≤ pr0 + 11) z0 (cm_X10_listSimples_5 vl K go x1 x2 x3 x4 x5 r0 t0 z) := by
  unfold cm_X10_listSimples_5
  exact (fo_if (hgo 6 _ _ _ _ _ _ _ z hz (fun _ => by omega)) (fo_cs1 ff_X10_changesOf (fun g hg => hg.elim) hz (fun v7 z6 h_z6 => (fo_if (fo_rdF (fun v9 => (fc_ctI (by omega) h_z6 (fun z10 h_z10 => (fo_rdF (fun v11 => (fo_cs1 ff_X10_changesOf (fun g hg => hg.elim) h_z10 (fun v13 z12 h_z12 => (fc_ctI (by omega) h_z12 (fun z14 h_z14 => (fo_rdF (fun v15 => (fo_wrF (by omega) h_z14 (fun z16 h_z16 => (hgo 6 _ _ _ _ _ _ _ z16 h_z16 (fun _ => by omega)))))))))))))))) (hgo 6 _ _ _ _ _ _ _ z6 h_z6 (fun _ => by omega))))))
theorem fb_X10_listSimples_6 {K : Nat} {vl : Nat → Nat} {z0 z : ow_MS} {pr0 : Nat} {go : Nat → Int32 → Int32 → Int32 → Int32 → Int32 → Nat → Int32 → ow_MS → Option ow_MS} {x1 : Int32} {x2 : Int32} {x3 : Int32} {x4 : Int32} {x5 : Int32} {r0 : Nat} {t0 : Int32} (hgo : ∀ (L : Nat) (x1 : Int32) (x2 : Int32) (x3 : Int32) (x4 : Int32) (x5 : Int32) (r0 : Nat) (t0 : Int32) (z : ow_MS), fr (fun g => pr0 + 8 ≤ g ∧ g ≤ pr0 + 11) z0 z → (L = 0 ∨ L = 1 ∨ L = 2 ∨ L = 3 ∨ L = 4 ∨ L = 5 ∨ L = 6 → r0 = pr0) → Fo id (fun g => pr0 + 8 ≤ g ∧ g ≤ pr0 + 11) z0 (go L x1 x2 x3 x4 x5 r0 t0 z)) (hz : fr (fun g => pr0 + 8 ≤ g ∧ g ≤ pr0 + 11) z0 z) (e_r0 : r0 = pr0) : Fo id (fun g => pr0 + 8 ≤ g ∧ g ≤ pr0 + 11) z0 (cm_X10_listSimples_6 vl K go x1 x2 x3 x4 x5 r0 t0 z) := by
  unfold cm_X10_listSimples_6
  exact (hgo 2 _ _ _ _ _ _ _ z hz (fun _ => by omega))
theorem fq_X10_listSimples {K : Nat} {vl : Nat → Nat} {z0 : ow_MS} {pr0 : Nat} : ∀ (k L : Nat) (x1 : Int32) (x2 : Int32) (x3 : Int32) (x4 : Int32) (x5 : Int32) (r0 : Nat) (t0 : Int32) (z : ow_MS), fr (fun g => pr0 + 8 ≤ g ∧ g ≤ pr0 + 11) z0 z → (L = 0 ∨ L = 1 ∨ L = 2 ∨ L = 3 ∨ L = 4 ∨ L = 5 ∨ L = 6 → r0 = pr0) → Fo id (fun g => pr0 + 8 ≤ g ∧ g ≤ pr0 + 11) z0 (c_X10_listSimples vl K k L x1 x2 x3 x4 x5 r0 t0 z)
  | 0 => by
    intros
    exact fo_none
  | k + 1 => by
    intro L x1 x2 x3 x4 x5 r0 t0 z hz h9_r0
    show Fo id (fun g => pr0 + 8 ≤ g ∧ g ≤ pr0 + 11) z0 (cb_X10_listSimples vl K (c_X10_listSimples vl K k) L x1 x2 x3 x4 x5 r0 t0 z)
    unfold cb_X10_listSimples
    split
    · exact fb_X10_listSimples_0 (fq_X10_listSimples k) hz (h9_r0 (by decide))
    · exact fb_X10_listSimples_1 (fq_X10_listSimples k) hz (h9_r0 (by decide))
    · exact fb_X10_listSimples_2 (fq_X10_listSimples k) hz (h9_r0 (by decide))
    · exact fb_X10_listSimples_3 (fq_X10_listSimples k) hz (h9_r0 (by decide))
    · exact fb_X10_listSimples_4 (fq_X10_listSimples k) hz (h9_r0 (by decide))
    · exact fb_X10_listSimples_5 (fq_X10_listSimples k) hz (h9_r0 (by decide))
    · exact fb_X10_listSimples_6 (fq_X10_listSimples k) hz (h9_r0 (by decide))
    · exact fo_none
theorem ff_X10_listSimples {vl : Nat → Nat} {K : Nat} {r0 : Nat} {z : ow_MS} : Fo id (fun g => r0 + 8 ≤ g ∧ g ≤ r0 + 11) z (ce_X10_listSimples vl K r0 z) := fq_X10_listSimples (pr0 := r0) K 0 _ _ _ _ _ _ _ z fr_rf (fun _ => rfl)
theorem fb_X5_cycle_0 {K : Nat} {vl : Nat → Nat} {z0 z : ow_MS} {pr0 : Nat} {go : Nat → Nat → Int32 → ow_MS → Option ow_MS} {r0 : Nat} {t0 : Int32} (hgo : ∀ (L : Nat) (r0 : Nat) (t0 : Int32) (z : ow_MS), fr (fun g => pr0 + 2 ≤ g ∧ g ≤ pr0 + 4) z0 z → (L = 0 ∨ L = 1 → r0 = pr0) → Fo id (fun g => pr0 + 2 ≤ g ∧ g ≤ pr0 + 4) z0 (go L r0 t0 z)) (hz : fr (fun g => pr0 + 2 ≤ g ∧ g ≤ pr0 + 4) z0 z) (e_r0 : r0 = pr0) : Fo id (fun g => pr0 + 2 ≤ g ∧ g ≤ pr0 + 4) z0 (cm_X5_cycle_0 vl K go r0 t0 z) := by
  unfold cm_X5_cycle_0
  exact (fo_rdF (fun v1 => (fo_if (fo_some hz) (fo_rdF (fun v2 => (fo_if (fc_crI (fun v7 => (hgo 1 _ _ z hz (fun _ => by omega)))) (fc_crI (fun v3 => (fo_rdF (fun v4 => (fo_cs1 ff_X5_turned (fun g hg => hg.elim) hz (fun v6 z5 h_z5 => (hgo 1 _ _ z5 h_z5 (fun _ => by omega))))))))))))))
theorem fb_X5_cycle_1 {K : Nat} {vl : Nat → Nat} {z0 z : ow_MS} {pr0 : Nat} {go : Nat → Nat → Int32 → ow_MS → Option ow_MS} {r0 : Nat} {t0 : Int32} (hgo : ∀ (L : Nat) (r0 : Nat) (t0 : Int32) (z : ow_MS), fr (fun g => pr0 + 2 ≤ g ∧ g ≤ pr0 + 4) z0 z → (L = 0 ∨ L = 1 → r0 = pr0) → Fo id (fun g => pr0 + 2 ≤ g ∧ g ≤ pr0 + 4) z0 (go L r0 t0 z)) (hz : fr (fun g => pr0 + 2 ≤ g ∧ g ≤ pr0 + 4) z0 z) (e_r0 : r0 = pr0) : Fo id (fun g => pr0 + 2 ≤ g ∧ g ≤ pr0 + 4) z0 (cm_X5_cycle_1 vl K go r0 t0 z) := by
  unfold cm_X5_cycle_1
  exact (fo_rdF (fun v8 => (fo_wrF (by omega) hz (fun z9 h_z9 => (fo_rdF (fun v10 => (fc_cpI (by omega) h_z9 (fun z11 h_z11 => (fo_cs0 ff_X5_putBehind (fun g hg => by omega) h_z11 (fun z12 h_z12 => (fo_some h_z12)))))))))))
theorem fq_X5_cycle {K : Nat} {vl : Nat → Nat} {z0 : ow_MS} {pr0 : Nat} : ∀ (k L : Nat) (r0 : Nat) (t0 : Int32) (z : ow_MS), fr (fun g => pr0 + 2 ≤ g ∧ g ≤ pr0 + 4) z0 z → (L = 0 ∨ L = 1 → r0 = pr0) → Fo id (fun g => pr0 + 2 ≤ g ∧ g ≤ pr0 + 4) z0 (c_X5_cycle vl K k L r0 t0 z)
  | 0 => by
    intros
    exact fo_none
  | k + 1 => by
    intro L r0 t0 z hz h9_r0
    show Fo id (fun g => pr0 + 2 ≤ g ∧ g ≤ pr0 + 4) z0 (cb_X5_cycle vl K (c_X5_cycle vl K k) L r0 t0 z)
    unfold cb_X5_cycle
    split
    · exact fb_X5_cycle_0 (fq_X5_cycle k) hz (h9_r0 (by decide))
    · exact fb_X5_cycle_1 (fq_X5_cycle k) hz (h9_r0 (by decide))
    · exact fo_none
theorem ff_X5_cycle {vl : Nat → Nat} {K : Nat} {r0 : Nat} {z : ow_MS} : Fo id (fun g => r0 + 2 ≤ g ∧ g ≤ r0 + 4) z (ce_X5_cycle vl K r0 z) := fq_X5_cycle (pr0 := r0) K 0 _ _ z fr_rf (fun _ => rfl)
theorem fb_X5_putBefore_0 {K : Nat} {vl : Nat → Nat} {z0 z : ow_MS} {pr0 : Nat} {go : Nat → Int32 → Int32 → Int32 → Nat → ow_MS → Option ow_MS} {x1 : Int32} {x2 : Int32} {x3 : Int32} {r0 : Nat} (hgo : ∀ (L : Nat) (x1 : Int32) (x2 : Int32) (x3 : Int32) (r0 : Nat) (z : ow_MS), fr (fun g => pr0 + 2 ≤ g ∧ g ≤ pr0 + 4) z0 z → (L = 0 ∨ L = 1 ∨ L = 2 → r0 = pr0) → Fo id (fun g => pr0 + 2 ≤ g ∧ g ≤ pr0 + 4) z0 (go L x1 x2 x3 r0 z)) (hz : fr (fun g => pr0 + 2 ≤ g ∧ g ≤ pr0 + 4) z0 z) (e_r0 : r0 = pr0) : Fo id (fun g => pr0 + 2 ≤ g ∧ g ≤ pr0 + 4) z0 (cm_X5_putBefore_0 vl K go x1 x2 x3 r0 z) := by
  unfold cm_X5_putBefore_0
  exact (fo_rdF (fun v1 => (fo_if (fo_rdF (fun v2 => (fc_cpI (by omega) hz (fun z3 h_z3 => (fc_ctI (by omega) h_z3 (fun z4 h_z4 => (fo_rdF (fun v5 => (fo_wrF (by omega) h_z4 (fun z6 h_z6 => (hgo 1 _ _ _ _ z6 h_z6 (fun _ => by omega)))))))))))) (fo_some hz))))
theorem fb_X5_putBefore_1 {K : Nat} {vl : Nat → Nat} {z0 z : ow_MS} {pr0 : Nat} {go : Nat → Int32 → Int32 → Int32 → Nat → ow_MS → Option ow_MS} {x1 : Int32} {x2 : Int32} {x3 : Int32} {r0 : Nat} (hgo : ∀ (L : Nat) (x1 : Int32) (x2 : Int32) (x3 : Int32) (r0 : Nat) (z : ow_MS), fr (fun g => pr0 + 2 ≤ g ∧ g ≤ pr0 + 4) z0 z → (L = 0 ∨ L = 1 ∨ L = 2 → r0 = pr0) → Fo id (fun g => pr0 + 2 ≤ g ∧ g ≤ pr0 + 4) z0 (go L x1 x2 x3 r0 z)) (hz : fr (fun g => pr0 + 2 ≤ g ∧ g ≤ pr0 + 4) z0 z) (e_r0 : r0 = pr0) : Fo id (fun g => pr0 + 2 ≤ g ∧ g ≤ pr0 + 4) z0 (cm_X5_putBefore_1 vl K go x1 x2 x3 r0 z) := by
  unfold cm_X5_putBefore_1
  exact (fo_rdF (fun v7 => (fo_if (hgo 2 _ _ _ _ z hz (fun _ => by omega)) (fo_if (hgo 2 _ _ _ _ z hz (fun _ => by omega)) (fo_cs1 ff_X5_weigh (fun g hg => by omega) hz (fun v9 z8 h_z8 => (hgo 1 _ _ _ _ z8 h_z8 (fun _ => by omega))))))))
theorem fb_X5_putBefore_2 {K : Nat} {vl : Nat → Nat} {z0 z : ow_MS} {pr0 : Nat} {go : Nat → Int32 → Int32 → Int32 → Nat → ow_MS → Option ow_MS} {x1 : Int32} {x2 : Int32} {x3 : Int32} {r0 : Nat} (hgo : ∀ (L : Nat) (x1 : Int32) (x2 : Int32) (x3 : Int32) (r0 : Nat) (z : ow_MS), fr (fun g => pr0 + 2 ≤ g ∧ g ≤ pr0 + 4) z0 z → (L = 0 ∨ L = 1 ∨ L = 2 → r0 = pr0) → Fo id (fun g => pr0 + 2 ≤ g ∧ g ≤ pr0 + 4) z0 (go L x1 x2 x3 r0 z)) (hz : fr (fun g => pr0 + 2 ≤ g ∧ g ≤ pr0 + 4) z0 z) (e_r0 : r0 = pr0) : Fo id (fun g => pr0 + 2 ≤ g ∧ g ≤ pr0 + 4) z0 (cm_X5_putBefore_2 vl K go x1 x2 x3 r0 z) := by
  unfold cm_X5_putBefore_2
  exact (fo_cs0 ff_X5_strip (fun g hg => by omega) hz (fun z10 h_z10 => (fo_some h_z10)))
theorem fq_X5_putBefore {K : Nat} {vl : Nat → Nat} {z0 : ow_MS} {pr0 : Nat} : ∀ (k L : Nat) (x1 : Int32) (x2 : Int32) (x3 : Int32) (r0 : Nat) (z : ow_MS), fr (fun g => pr0 + 2 ≤ g ∧ g ≤ pr0 + 4) z0 z → (L = 0 ∨ L = 1 ∨ L = 2 → r0 = pr0) → Fo id (fun g => pr0 + 2 ≤ g ∧ g ≤ pr0 + 4) z0 (c_X5_putBefore vl K k L x1 x2 x3 r0 z)
  | 0 => by
    intros
    exact fo_none
  | k + 1 => by
    intro L x1 x2 x3 r0 z hz h9_r0
    show Fo id (fun g => pr0 + 2 ≤ g ∧ g ≤ pr0 + 4) z0 (cb_X5_putBefore vl K (c_X5_putBefore vl K k) L x1 x2 x3 r0 z)
    unfold cb_X5_putBefore
    split
    · exact fb_X5_putBefore_0 (fq_X5_putBefore k) hz (h9_r0 (by decide))
    · exact fb_X5_putBefore_1 (fq_X5_putBefore k) hz (h9_r0 (by decide))
    · exact fb_X5_putBefore_2 (fq_X5_putBefore k) hz (h9_r0 (by decide))
    · exact fo_none
theorem ff_X5_putBefore {vl : Nat → Nat} {K : Nat} {r0 : Nat} {x1 : Int32} {z : ow_MS} : Fo id (fun g => r0 + 2 ≤ g ∧ g ≤ r0 + 4) z (ce_X5_putBefore vl K r0 x1 z) := fq_X5_putBefore (pr0 := r0) K 0 _ _ _ _ z fr_rf (fun _ => rfl)
theorem fb_X5_decycle_0 {K : Nat} {vl : Nat → Nat} {z0 z : ow_MS} {pr0 : Nat} {go : Nat → Int32 → Nat → Int32 → ow_MS → Option ow_MS} {x1 : Int32} {r0 : Nat} {t0 : Int32} (hgo : ∀ (L : Nat) (x1 : Int32) (r0 : Nat) (t0 : Int32) (z : ow_MS), fr (fun g => pr0 + 2 ≤ g ∧ g ≤ pr0 + 4) z0 z → (L = 0 ∨ L = 1 → r0 = pr0) → Fo id (fun g => pr0 + 2 ≤ g ∧ g ≤ pr0 + 4) z0 (go L x1 r0 t0 z)) (hz : fr (fun g => pr0 + 2 ≤ g ∧ g ≤ pr0 + 4) z0 z) (e_r0 : r0 = pr0) : Fo id (fun g => pr0 + 2 ≤ g ∧ g ≤ pr0 + 4) z0 (cm_X5_decycle_0 vl K go x1 r0 t0 z) := by
  unfold cm_X5_decycle_0
  exact (fo_rdF (fun v1 => (fo_if (fo_some hz) (fo_rdF (fun v2 => (fc_crI (fun v3 => (fo_rdF (fun v4 => (fo_wrF (by omega) hz (fun z5 h_z5 => (fo_rdF (fun v6 => (fo_if (hgo 1 _ _ _ z5 h_z5 (fun _ => by omega)) (fo_rdF (fun v7 => (fo_cs1 ff_X5_turned (fun g hg => hg.elim) h_z5 (fun v9 z8 h_z8 => (hgo 1 _ _ _ z8 h_z8 (fun _ => by omega))))))))))))))))))))
theorem fb_X5_decycle_1 {K : Nat} {vl : Nat → Nat} {z0 z : ow_MS} {pr0 : Nat} {go : Nat → Int32 → Nat → Int32 → ow_MS → Option ow_MS} {x1 : Int32} {r0 : Nat} {t0 : Int32} (hgo : ∀ (L : Nat) (x1 : Int32) (r0 : Nat) (t0 : Int32) (z : ow_MS), fr (fun g => pr0 + 2 ≤ g ∧ g ≤ pr0 + 4) z0 z → (L = 0 ∨ L = 1 → r0 = pr0) → Fo id (fun g => pr0 + 2 ≤ g ∧ g ≤ pr0 + 4) z0 (go L x1 r0 t0 z)) (hz : fr (fun g => pr0 + 2 ≤ g ∧ g ≤ pr0 + 4) z0 z) (e_r0 : r0 = pr0) : Fo id (fun g => pr0 + 2 ≤ g ∧ g ≤ pr0 + 4) z0 (cm_X5_decycle_1 vl K go x1 r0 t0 z) := by
  unfold cm_X5_decycle_1
  exact (fo_cs0 ff_X5_putBefore (fun g hg => by omega) hz (fun z10 h_z10 => (fo_some h_z10)))
theorem fq_X5_decycle {K : Nat} {vl : Nat → Nat} {z0 : ow_MS} {pr0 : Nat} : ∀ (k L : Nat) (x1 : Int32) (r0 : Nat) (t0 : Int32) (z : ow_MS), fr (fun g => pr0 + 2 ≤ g ∧ g ≤ pr0 + 4) z0 z → (L = 0 ∨ L = 1 → r0 = pr0) → Fo id (fun g => pr0 + 2 ≤ g ∧ g ≤ pr0 + 4) z0 (c_X5_decycle vl K k L x1 r0 t0 z)
  | 0 => by
    intros
    exact fo_none
  | k + 1 => by
    intro L x1 r0 t0 z hz h9_r0
    show Fo id (fun g => pr0 + 2 ≤ g ∧ g ≤ pr0 + 4) z0 (cb_X5_decycle vl K (c_X5_decycle vl K k) L x1 r0 t0 z)
    unfold cb_X5_decycle
    split
    · exact fb_X5_decycle_0 (fq_X5_decycle k) hz (h9_r0 (by decide))
    · exact fb_X5_decycle_1 (fq_X5_decycle k) hz (h9_r0 (by decide))
    · exact fo_none
theorem ff_X5_decycle {vl : Nat → Nat} {K : Nat} {r0 : Nat} {z : ow_MS} : Fo id (fun g => r0 + 2 ≤ g ∧ g ≤ r0 + 4) z (ce_X5_decycle vl K r0 z) := fq_X5_decycle (pr0 := r0) K 0 _ _ _ z fr_rf (fun _ => rfl)
theorem fb_X10_climb_0 {K : Nat} {vl : Nat → Nat} {z0 z : ow_MS} {pr0 : Nat} {go : Nat → Int32 → Int32 → Int32 → Nat → Int32 → ow_MS → Option ow_MS} {x1 : Int32} {x2 : Int32} {x3 : Int32} {r0 : Nat} {t0 : Int32} (hgo : ∀ (L : Nat) (x1 : Int32) (x2 : Int32) (x3 : Int32) (r0 : Nat) (t0 : Int32) (z : ow_MS), fr (fun g => pr0 + 1002 ≤ g ∧ g ≤ pr0 + 1004) z0 z → (L = 0 ∨ L = 1 ∨ L = 2 ∨ L = 3 ∨ L = 4 ∨ L = 5 → r0 = pr0) → Fo id (fun g => pr0 + 1002 ≤ g ∧ g ≤ pr0 + 1004) z0 (go L x1 x2 x3 r0 t0 z)) (hz : fr (fun g => pr0 + 1002 ≤ g ∧ g ≤ pr0 + 1004) z0 z) (e_r0 : r0 = pr0) : Fo id (fun g => pr0 + 1002 ≤ g ∧ g ≤ pr0 + 1004) z0 (cm_X10_climb_0 vl K go x1 x2 x3 r0 t0 z) := by
  unfold cm_X10_climb_0
  exact (hgo 1 _ _ _ _ _ z hz (fun _ => by omega))
theorem fb_X10_climb_1 {K : Nat} {vl : Nat → Nat} {z0 z : ow_MS} {pr0 : Nat} {go : Nat → Int32 → Int32 → Int32 → Nat → Int32 → ow_MS → Option ow_MS} {x1 : Int32} {x2 : Int32} {x3 : Int32} {r0 : Nat} {t0 : Int32} (hgo : ∀ (L : Nat) (x1 : Int32) (x2 : Int32) (x3 : Int32) (r0 : Nat) (t0 : Int32) (z : ow_MS), fr (fun g => pr0 + 1002 ≤ g ∧ g ≤ pr0 + 1004) z0 z → (L = 0 ∨ L = 1 ∨ L = 2 ∨ L = 3 ∨ L = 4 ∨ L = 5 → r0 = pr0) → Fo id (fun g => pr0 + 1002 ≤ g ∧ g ≤ pr0 + 1004) z0 (go L x1 x2 x3 r0 t0 z)) (hz : fr (fun g => pr0 + 1002 ≤ g ∧ g ≤ pr0 + 1004) z0 z) (e_r0 : r0 = pr0) : Fo id (fun g => pr0 + 1002 ≤ g ∧ g ≤ pr0 + 1004) z0 (cm_X10_climb_1 vl K go x1 x2 x3 r0 t0 z) := by
  unfold cm_X10_climb_1
  exact (fo_if (hgo 3 _ _ _ _ _ z hz (fun _ => by omega)) (fo_if (hgo 3 _ _ _ _ _ z hz (fun _ => by omega)) (fo_rdF (fun v1 => (fo_cs0 ff_X5_cycle (fun g hg => by omega) hz (fun z2 h_z2 => (fo_rdF (fun v3 => (fo_if (hgo 2 _ _ _ _ _ z2 h_z2 (fun _ => by omega)) (hgo 2 _ _ _ _ _ z2 h_z2 (fun _ => by omega)))))))))))
theorem fb_X10_climb_2 {K : Nat} {vl : Nat → Nat} {z0 z : ow_MS} {pr0 : Nat} {go : Nat → Int32 → Int32 → Int32 → Nat → Int32 → ow_MS → Option ow_MS} {x1 : Int32} {x2 : Int32} {x3 : Int32} {r0 : Nat} {t0 : Int32} (hgo : ∀ (L : Nat) (x1 : Int32) (x2 : Int32) (x3 : Int32) (r0 : Nat) (t0 : Int32) (z : ow_MS), fr (fun g => pr0 + 1002 ≤ g ∧ g ≤ pr0 + 1004) z0 z → (L = 0 ∨ L = 1 ∨ L = 2 ∨ L = 3 ∨ L = 4 ∨ L = 5 → r0 = pr0) → Fo id (fun g => pr0 + 1002 ≤ g ∧ g ≤ pr0 + 1004) z0 (go L x1 x2 x3 r0 t0 z)) (hz : fr (fun g => pr0 + 1002 ≤ g ∧ g ≤ pr0 + 1004) z0 z) (e_r0 : r0 = pr0) : Fo id (fun g => pr0 + 1002 ≤ g ∧ g ≤ pr0 + 1004) z0 (cm_X10_climb_2 vl K go x1 x2 x3 r0 t0 z) := by
  unfold cm_X10_climb_2
  exact (hgo 1 _ _ _ _ _ z hz (fun _ => by omega))
theorem fb_X10_climb_3 {K : Nat} {vl : Nat → Nat} {z0 z : ow_MS} {pr0 : Nat} {go : Nat → Int32 → Int32 → Int32 → Nat → Int32 → ow_MS → Option ow_MS} {x1 : Int32} {x2 : Int32} {x3 : Int32} {r0 : Nat} {t0 : Int32} (hgo : ∀ (L : Nat) (x1 : Int32) (x2 : Int32) (x3 : Int32) (r0 : Nat) (t0 : Int32) (z : ow_MS), fr (fun g => pr0 + 1002 ≤ g ∧ g ≤ pr0 + 1004) z0 z → (L = 0 ∨ L = 1 ∨ L = 2 ∨ L = 3 ∨ L = 4 ∨ L = 5 → r0 = pr0) → Fo id (fun g => pr0 + 1002 ≤ g ∧ g ≤ pr0 + 1004) z0 (go L x1 x2 x3 r0 t0 z)) (hz : fr (fun g => pr0 + 1002 ≤ g ∧ g ≤ pr0 + 1004) z0 z) (e_r0 : r0 = pr0) : Fo id (fun g => pr0 + 1002 ≤ g ∧ g ≤ pr0 + 1004) z0 (cm_X10_climb_3 vl K go x1 x2 x3 r0 t0 z) := by
  unfold cm_X10_climb_3
  exact (hgo 4 _ _ _ _ _ z hz (fun _ => by omega))
theorem fb_X10_climb_4 {K : Nat} {vl : Nat → Nat} {z0 z : ow_MS} {pr0 : Nat} {go : Nat → Int32 → Int32 → Int32 → Nat → Int32 → ow_MS → Option ow_MS} {x1 : Int32} {x2 : Int32} {x3 : Int32} {r0 : Nat} {t0 : Int32} (hgo : ∀ (L : Nat) (x1 : Int32) (x2 : Int32) (x3 : Int32) (r0 : Nat) (t0 : Int32) (z : ow_MS), fr (fun g => pr0 + 1002 ≤ g ∧ g ≤ pr0 + 1004) z0 z → (L = 0 ∨ L = 1 ∨ L = 2 ∨ L = 3 ∨ L = 4 ∨ L = 5 → r0 = pr0) → Fo id (fun g => pr0 + 1002 ≤ g ∧ g ≤ pr0 + 1004) z0 (go L x1 x2 x3 r0 t0 z)) (hz : fr (fun g => pr0 + 1002 ≤ g ∧ g ≤ pr0 + 1004) z0 z) (e_r0 : r0 = pr0) : Fo id (fun g => pr0 + 1002 ≤ g ∧ g ≤ pr0 + 1004) z0 (cm_X10_climb_4 vl K go x1 x2 x3 r0 t0 z) := by
  unfold cm_X10_climb_4
  exact (fo_if (fo_some hz) (fo_if (fo_some hz) (fo_rdF (fun v4 => (fo_rdF (fun v5 => (fo_cs0 ff_X5_decycle (fun g hg => by omega) hz (fun z6 h_z6 => (fo_rdF (fun v7 => (fo_rdF (fun v8 => (fo_if (hgo 5 _ _ _ _ _ z6 h_z6 (fun _ => by omega)) (hgo 5 _ _ _ _ _ z6 h_z6 (fun _ => by omega)))))))))))))))
theorem fb_X10_climb_5 {K : Nat} {vl : Nat → Nat} {z0 z : ow_MS} {pr0 : Nat} {go : Nat → Int32 → Int32 → Int32 → Nat → Int32 → ow_MS → Option ow_MS} {x1 : Int32} {x2 : Int32} {x3 : Int32} {r0 : Nat} {t0 : Int32} (hgo : ∀ (L : Nat) (x1 : Int32) (x2 : Int32) (x3 : Int32) (r0 : Nat) (t0 : Int32) (z : ow_MS), fr (fun g => pr0 + 1002 ≤ g ∧ g ≤ pr0 + 1004) z0 z → (L = 0 ∨ L = 1 ∨ L = 2 ∨ L = 3 ∨ L = 4 ∨ L = 5 → r0 = pr0) → Fo id (fun g => pr0 + 1002 ≤ g ∧ g ≤ pr0 + 1004) z0 (go L x1 x2 x3 r0 t0 z)) (hz : fr (fun g => pr0 + 1002 ≤ g ∧ g ≤ pr0 + 1004) z0 z) (e_r0 : r0 = pr0) : Fo id (fun g => pr0 + 1002 ≤ g ∧ g ≤ pr0 + 1004) z0 (cm_X10_climb_5 vl K go x1 x2 x3 r0 t0 z) := by
  unfold cm_X10_climb_5
  exact (hgo 4 _ _ _ _ _ z hz (fun _ => by omega))
theorem fq_X10_climb {K : Nat} {vl : Nat → Nat} {z0 : ow_MS} {pr0 : Nat} : ∀ (k L : Nat) (x1 : Int32) (x2 : Int32) (x3 : Int32) (r0 : Nat) (t0 : Int32) (z : ow_MS), fr (fun g => pr0 + 1002 ≤ g ∧ g ≤ pr0 + 1004) z0 z → (L = 0 ∨ L = 1 ∨ L = 2 ∨ L = 3 ∨ L = 4 ∨ L = 5 → r0 = pr0) → Fo id (fun g => pr0 + 1002 ≤ g ∧ g ≤ pr0 + 1004) z0 (c_X10_climb vl K k L x1 x2 x3 r0 t0 z)
  | 0 => by
    intros
    exact fo_none
  | k + 1 => by
    intro L x1 x2 x3 r0 t0 z hz h9_r0
    show Fo id (fun g => pr0 + 1002 ≤ g ∧ g ≤ pr0 + 1004) z0 (cb_X10_climb vl K (c_X10_climb vl K k) L x1 x2 x3 r0 t0 z)
    unfold cb_X10_climb
    split
    · exact fb_X10_climb_0 (fq_X10_climb k) hz (h9_r0 (by decide))
    · exact fb_X10_climb_1 (fq_X10_climb k) hz (h9_r0 (by decide))
    · exact fb_X10_climb_2 (fq_X10_climb k) hz (h9_r0 (by decide))
    · exact fb_X10_climb_3 (fq_X10_climb k) hz (h9_r0 (by decide))
    · exact fb_X10_climb_4 (fq_X10_climb k) hz (h9_r0 (by decide))
    · exact fb_X10_climb_5 (fq_X10_climb k) hz (h9_r0 (by decide))
    · exact fo_none
theorem ff_X10_climb {vl : Nat → Nat} {K : Nat} {r0 : Nat} {z : ow_MS} : Fo id (fun g => r0 + 1002 ≤ g ∧ g ≤ r0 + 1004) z (ce_X10_climb vl K r0 z) := fq_X10_climb (pr0 := r0) K 0 _ _ _ _ _ z fr_rf (fun _ => rfl)
theorem fb_X10_compare_0 {K : Nat} {vl : Nat → Nat} {z0 z : ow_MS} {pr0 : Nat} {pr1 : Nat} {pr3 : Nat} {go : Nat → Int32 → Int32 → Int32 → Nat → Nat → Nat → ow_MS → Option (Int32 × ow_MS)} {x2 : Int32} {x4 : Int32} {x5 : Int32} {r0 : Nat} {r1 : Nat} {r3 : Nat} (hgo : ∀ (L : Nat) (x2 : Int32) (x4 : Int32) (x5 : Int32) (r0 : Nat) (r1 : Nat) (r3 : Nat) (z : ow_MS), fr (fun _ => False) z0 z → (L = 0 ∨ L = 1 → r0 = pr0) → (L = 0 ∨ L = 1 → r1 = pr1) → (L = 0 ∨ L = 1 → r3 = pr3) → Fo Prod.snd (fun _ => False) z0 (go L x2 x4 x5 r0 r1 r3 z)) (hz : fr (fun _ => False) z0 z) (e_r0 : r0 = pr0) (e_r1 : r1 = pr1) (e_r3 : r3 = pr3) : Fo Prod.snd (fun _ => False) z0 (cm_X10_compare_0 vl K go x2 x4 x5 r0 r1 r3 z) := by
  unfold cm_X10_compare_0
  exact (hgo 1 _ _ _ _ _ _ z hz (fun _ => by omega) (fun _ => by omega) (fun _ => by omega))
theorem fb_X10_compare_1 {K : Nat} {vl : Nat → Nat} {z0 z : ow_MS} {pr0 : Nat} {pr1 : Nat} {pr3 : Nat} {go : Nat → Int32 → Int32 → Int32 → Nat → Nat → Nat → ow_MS → Option (Int32 × ow_MS)} {x2 : Int32} {x4 : Int32} {x5 : Int32} {r0 : Nat} {r1 : Nat} {r3 : Nat} (hgo : ∀ (L : Nat) (x2 : Int32) (x4 : Int32) (x5 : Int32) (r0 : Nat) (r1 : Nat) (r3 : Nat) (z : ow_MS), fr (fun _ => False) z0 z → (L = 0 ∨ L = 1 → r0 = pr0) → (L = 0 ∨ L = 1 → r1 = pr1) → (L = 0 ∨ L = 1 → r3 = pr3) → Fo Prod.snd (fun _ => False) z0 (go L x2 x4 x5 r0 r1 r3 z)) (hz : fr (fun _ => False) z0 z) (e_r0 : r0 = pr0) (e_r1 : r1 = pr1) (e_r3 : r3 = pr3) : Fo Prod.snd (fun _ => False) z0 (cm_X10_compare_1 vl K go x2 x4 x5 r0 r1 r3 z) := by
  unfold cm_X10_compare_1
  exact (fo_rdF (fun v1 => (fo_if (fo_some hz) (fc_crI (fun v2 => (fc_crI (fun v3 => (fo_if (hgo 1 _ _ _ _ _ _ z hz (fun _ => by omega) (fun _ => by omega) (fun _ => by omega)) (fc_crI (fun v4 => (fc_crI (fun v5 => (fo_if (fo_some hz) (fo_some hz))))))))))))))
theorem fq_X10_compare {K : Nat} {vl : Nat → Nat} {z0 : ow_MS} {pr0 : Nat} {pr1 : Nat} {pr3 : Nat} : ∀ (k L : Nat) (x2 : Int32) (x4 : Int32) (x5 : Int32) (r0 : Nat) (r1 : Nat) (r3 : Nat) (z : ow_MS), fr (fun _ => False) z0 z → (L = 0 ∨ L = 1 → r0 = pr0) → (L = 0 ∨ L = 1 → r1 = pr1) → (L = 0 ∨ L = 1 → r3 = pr3) → Fo Prod.snd (fun _ => False) z0 (c_X10_compare vl K k L x2 x4 x5 r0 r1 r3 z)
  | 0 => by
    intros
    exact fo_none
  | k + 1 => by
    intro L x2 x4 x5 r0 r1 r3 z hz h9_r0 h9_r1 h9_r3
    show Fo Prod.snd (fun _ => False) z0 (cb_X10_compare vl K (c_X10_compare vl K k) L x2 x4 x5 r0 r1 r3 z)
    unfold cb_X10_compare
    split
    · exact fb_X10_compare_0 (fq_X10_compare k) hz (h9_r0 (by decide)) (h9_r1 (by decide)) (h9_r3 (by decide))
    · exact fb_X10_compare_1 (fq_X10_compare k) hz (h9_r0 (by decide)) (h9_r1 (by decide)) (h9_r3 (by decide))
    · exact fo_none
theorem ff_X10_compare {vl : Nat → Nat} {K : Nat} {r0 : Nat} {r1 : Nat} {x2 : Int32} {r3 : Nat} {x4 : Int32} {z : ow_MS} : Fo Prod.snd (fun _ => False) z (ce_X10_compare vl K r0 r1 x2 r3 x4 z) := fq_X10_compare (pr0 := r0) (pr1 := r1) (pr3 := r3) K 0 _ _ _ _ _ _ z fr_rf (fun _ => rfl) (fun _ => rfl) (fun _ => rfl)
theorem fb_X10_add_0 {K : Nat} {vl : Nat → Nat} {z0 z : ow_MS} {pr0 : Nat} {go : Nat → Int32 → Int32 → Int32 → Int32 → Int32 → Nat → ow_MS → Option ow_MS} {x1 : Int32} {x2 : Int32} {x3 : Int32} {x4 : Int32} {x5 : Int32} {r0 : Nat} (hgo : ∀ (L : Nat) (x1 : Int32) (x2 : Int32) (x3 : Int32) (x4 : Int32) (x5 : Int32) (r0 : Nat) (z : ow_MS), fr (fun g => pr0 + 4 ≤ g ∧ g ≤ pr0 + 6) z0 z → (L = 0 ∨ L = 1 ∨ L = 2 ∨ L = 3 → r0 = pr0) → Fo id (fun g => pr0 + 4 ≤ g ∧ g ≤ pr0 + 6) z0 (go L x1 x2 x3 x4 x5 r0 z)) (hz : fr (fun g => pr0 + 4 ≤ g ∧ g ≤ pr0 + 6) z0 z) (e_r0 : r0 = pr0) : Fo id (fun g => pr0 + 4 ≤ g ∧ g ≤ pr0 + 6) z0 (cm_X10_add_0 vl K go x1 x2 x3 x4 x5 r0 z) := by
  unfold cm_X10_add_0
  exact (fo_rdF (fun v1 => (hgo 1 _ _ _ _ _ _ z hz (fun _ => by omega))))
theorem fb_X10_add_1 {K : Nat} {vl : Nat → Nat} {z0 z : ow_MS} {pr0 : Nat} {go : Nat → Int32 → Int32 → Int32 → Int32 → Int32 → Nat → ow_MS → Option ow_MS} {x1 : Int32} {x2 : Int32} {x3 : Int32} {x4 : Int32} {x5 : Int32} {r0 : Nat} (hgo : ∀ (L : Nat) (x1 : Int32) (x2 : Int32) (x3 : Int32) (x4 : Int32) (x5 : Int32) (r0 : Nat) (z : ow_MS), fr (fun g => pr0 + 4 ≤ g ∧ g ≤ pr0 + 6) z0 z → (L = 0 ∨ L = 1 ∨ L = 2 ∨ L = 3 → r0 = pr0) → Fo id (fun g => pr0 + 4 ≤ g ∧ g ≤ pr0 + 6) z0 (go L x1 x2 x3 x4 x5 r0 z)) (hz : fr (fun g => pr0 + 4 ≤ g ∧ g ≤ pr0 + 6) z0 z) (e_r0 : r0 = pr0) : Fo id (fun g => pr0 + 4 ≤ g ∧ g ≤ pr0 + 6) z0 (cm_X10_add_1 vl K go x1 x2 x3 x4 x5 r0 z) := by
  unfold cm_X10_add_1
  exact (fo_if (hgo 3 _ _ _ _ _ _ z hz (fun _ => by omega)) (fo_if (hgo 3 _ _ _ _ _ _ z hz (fun _ => by omega)) (fc_crI (fun v2 => (fo_cs1 ff_X10_compare (fun g hg => hg.elim) hz (fun v4 z3 h_z3 => (fo_if (fo_some h_z3) (fo_if (hgo 2 _ _ _ _ _ _ z3 h_z3 (fun _ => by omega)) (hgo 2 _ _ _ _ _ _ z3 h_z3 (fun _ => by omega))))))))))
theorem fb_X10_add_2 {K : Nat} {vl : Nat → Nat} {z0 z : ow_MS} {pr0 : Nat} {go : Nat → Int32 → Int32 → Int32 → Int32 → Int32 → Nat → ow_MS → Option ow_MS} {x1 : Int32} {x2 : Int32} {x3 : Int32} {x4 : Int32} {x5 : Int32} {r0 : Nat} (hgo : ∀ (L : Nat) (x1 : Int32) (x2 : Int32) (x3 : Int32) (x4 : Int32) (x5 : Int32) (r0 : Nat) (z : ow_MS), fr (fun g => pr0 + 4 ≤ g ∧ g ≤ pr0 + 6) z0 z → (L = 0 ∨ L = 1 ∨ L = 2 ∨ L = 3 → r0 = pr0) → Fo id (fun g => pr0 + 4 ≤ g ∧ g ≤ pr0 + 6) z0 (go L x1 x2 x3 x4 x5 r0 z)) (hz : fr (fun g => pr0 + 4 ≤ g ∧ g ≤ pr0 + 6) z0 z) (e_r0 : r0 = pr0) : Fo id (fun g => pr0 + 4 ≤ g ∧ g ≤ pr0 + 6) z0 (cm_X10_add_2 vl K go x1 x2 x3 x4 x5 r0 z) := by
  unfold cm_X10_add_2
  exact (hgo 1 _ _ _ _ _ _ z hz (fun _ => by omega))
theorem fb_X10_add_3 {K : Nat} {vl : Nat → Nat} {z0 z : ow_MS} {pr0 : Nat} {go : Nat → Int32 → Int32 → Int32 → Int32 → Int32 → Nat → ow_MS → Option ow_MS} {x1 : Int32} {x2 : Int32} {x3 : Int32} {x4 : Int32} {x5 : Int32} {r0 : Nat} (hgo : ∀ (L : Nat) (x1 : Int32) (x2 : Int32) (x3 : Int32) (x4 : Int32) (x5 : Int32) (r0 : Nat) (z : ow_MS), fr (fun g => pr0 + 4 ≤ g ∧ g ≤ pr0 + 6) z0 z → (L = 0 ∨ L = 1 ∨ L = 2 ∨ L = 3 → r0 = pr0) → Fo id (fun g => pr0 + 4 ≤ g ∧ g ≤ pr0 + 6) z0 (go L x1 x2 x3 x4 x5 r0 z)) (hz : fr (fun g => pr0 + 4 ≤ g ∧ g ≤ pr0 + 6) z0 z) (e_r0 : r0 = pr0) : Fo id (fun g => pr0 + 4 ≤ g ∧ g ≤ pr0 + 6) z0 (cm_X10_add_3 vl K go x1 x2 x3 x4 x5 r0 z) := by
  unfold cm_X10_add_3
  exact (fo_rdF (fun v5 => (fo_if (fo_some hz) (fo_rdF (fun v6 => (fo_if (fo_rdF (fun v7 => (fo_rdF (fun v8 => (fc_cpI (by omega) hz (fun z9 h_z9 => (fo_rdF (fun v10 => (fc_cpI (by omega) h_z9 (fun z11 h_z11 => (fo_rdF (fun v12 => (fc_ctI (by omega) h_z11 (fun z13 h_z13 => (fo_rdF (fun v14 => (fo_wrF (by omega) h_z13 (fun z15 h_z15 => (fo_some h_z15))))))))))))))))))) (fo_some hz)))))))
theorem fq_X10_add {K : Nat} {vl : Nat → Nat} {z0 : ow_MS} {pr0 : Nat} : ∀ (k L : Nat) (x1 : Int32) (x2 : Int32) (x3 : Int32) (x4 : Int32) (x5 : Int32) (r0 : Nat) (z : ow_MS), fr (fun g => pr0 + 4 ≤ g ∧ g ≤ pr0 + 6) z0 z → (L = 0 ∨ L = 1 ∨ L = 2 ∨ L = 3 → r0 = pr0) → Fo id (fun g => pr0 + 4 ≤ g ∧ g ≤ pr0 + 6) z0 (c_X10_add vl K k L x1 x2 x3 x4 x5 r0 z)
  | 0 => by
    intros
    exact fo_none
  | k + 1 => by
    intro L x1 x2 x3 x4 x5 r0 z hz h9_r0
    show Fo id (fun g => pr0 + 4 ≤ g ∧ g ≤ pr0 + 6) z0 (cb_X10_add vl K (c_X10_add vl K k) L x1 x2 x3 x4 x5 r0 z)
    unfold cb_X10_add
    split
    · exact fb_X10_add_0 (fq_X10_add k) hz (h9_r0 (by decide))
    · exact fb_X10_add_1 (fq_X10_add k) hz (h9_r0 (by decide))
    · exact fb_X10_add_2 (fq_X10_add k) hz (h9_r0 (by decide))
    · exact fb_X10_add_3 (fq_X10_add k) hz (h9_r0 (by decide))
    · exact fo_none
theorem ff_X10_add {vl : Nat → Nat} {K : Nat} {r0 : Nat} {z : ow_MS} : Fo id (fun g => r0 + 4 ≤ g ∧ g ≤ r0 + 6) z (ce_X10_add vl K r0 z) := fq_X10_add (pr0 := r0) K 0 _ _ _ _ _ _ z fr_rf (fun _ => rfl)
theorem ff_X10_begin {vl : Nat → Nat} {K : Nat} {r0 : Nat} {z : ow_MS} : Fo id (fun g => r0 + 2 ≤ g ∧ g ≤ r0 + 6) z (ce_X10_begin vl K r0 z) := by
  unfold ce_X10_begin cm_X10_begin_0
  exact (fo_rdF (fun v1 => (fo_wrF (by omega) fr_rf (fun z2 h_z2 => (fo_rdF (fun v3 => (fo_wrF (by omega) h_z2 (fun z4 h_z4 => (fo_wrF (by omega) h_z4 (fun z5 h_z5 => (fo_cs0 ff_X10_add (fun g hg => by omega) h_z5 (fun z6 h_z6 => (fo_some h_z6)))))))))))))
theorem fb_X10_goesOn_0 {K : Nat} {vl : Nat → Nat} {z0 z : ow_MS} {pr0 : Nat} {go : Nat → Int32 → Int32 → Int32 → Nat → ow_MS → Option (Int32 × ow_MS)} {x1 : Int32} {x2 : Int32} {x3 : Int32} {r0 : Nat} (hgo : ∀ (L : Nat) (x1 : Int32) (x2 : Int32) (x3 : Int32) (r0 : Nat) (z : ow_MS), fr (fun _ => False) z0 z → (L = 0 ∨ L = 1 → r0 = pr0) → Fo Prod.snd (fun _ => False) z0 (go L x1 x2 x3 r0 z)) (hz : fr (fun _ => False) z0 z) (e_r0 : r0 = pr0) : Fo Prod.snd (fun _ => False) z0 (cm_X10_goesOn_0 vl K go x1 x2 x3 r0 z) := by
  unfold cm_X10_goesOn_0
  exact (hgo 1 _ _ _ _ z hz (fun _ => by omega))
theorem fb_X10_goesOn_1 {K : Nat} {vl : Nat → Nat} {z0 z : ow_MS} {pr0 : Nat} {go : Nat → Int32 → Int32 → Int32 → Nat → ow_MS → Option (Int32 × ow_MS)} {x1 : Int32} {x2 : Int32} {x3 : Int32} {r0 : Nat} (hgo : ∀ (L : Nat) (x1 : Int32) (x2 : Int32) (x3 : Int32) (r0 : Nat) (z : ow_MS), fr (fun _ => False) z0 z → (L = 0 ∨ L = 1 → r0 = pr0) → Fo Prod.snd (fun _ => False) z0 (go L x1 x2 x3 r0 z)) (hz : fr (fun _ => False) z0 z) (e_r0 : r0 = pr0) : Fo Prod.snd (fun _ => False) z0 (cm_X10_goesOn_1 vl K go x1 x2 x3 r0 z) := by
  unfold cm_X10_goesOn_1
  exact (fo_if (fo_okZ (fo_some hz)) (fc_crI (fun v1 => (fc_crI (fun v2 => (fo_if (fo_okZ (fo_some hz)) (hgo 1 _ _ _ _ z hz (fun _ => by omega))))))))
theorem fq_X10_goesOn {K : Nat} {vl : Nat → Nat} {z0 : ow_MS} {pr0 : Nat} : ∀ (k L : Nat) (x1 : Int32) (x2 : Int32) (x3 : Int32) (r0 : Nat) (z : ow_MS), fr (fun _ => False) z0 z → (L = 0 ∨ L = 1 → r0 = pr0) → Fo Prod.snd (fun _ => False) z0 (c_X10_goesOn vl K k L x1 x2 x3 r0 z)
  | 0 => by
    intros
    exact fo_none
  | k + 1 => by
    intro L x1 x2 x3 r0 z hz h9_r0
    show Fo Prod.snd (fun _ => False) z0 (cb_X10_goesOn vl K (c_X10_goesOn vl K k) L x1 x2 x3 r0 z)
    unfold cb_X10_goesOn
    split
    · exact fb_X10_goesOn_0 (fq_X10_goesOn k) hz (h9_r0 (by decide))
    · exact fb_X10_goesOn_1 (fq_X10_goesOn k) hz (h9_r0 (by decide))
    · exact fo_none
theorem ff_X10_goesOn {vl : Nat → Nat} {K : Nat} {r0 : Nat} {x1 : Int32} {x2 : Int32} {z : ow_MS} : Fo Prod.snd (fun _ => False) z (ce_X10_goesOn vl K r0 x1 x2 z) := fq_X10_goesOn (pr0 := r0) K 0 _ _ _ _ z fr_rf (fun _ => rfl)
theorem fb_X5_conjugateBy_0 {K : Nat} {vl : Nat → Nat} {z0 z : ow_MS} {pr0 : Nat} {go : Nat → Int32 → Int32 → Int32 → Int32 → Nat → Int32 → ow_MS → Option ow_MS} {x1 : Int32} {x2 : Int32} {x3 : Int32} {x4 : Int32} {r0 : Nat} {t0 : Int32} (hgo : ∀ (L : Nat) (x1 : Int32) (x2 : Int32) (x3 : Int32) (x4 : Int32) (r0 : Nat) (t0 : Int32) (z : ow_MS), fr (fun g => pr0 + 2 ≤ g ∧ g ≤ pr0 + 4) z0 z → (L = 0 ∨ L = 1 ∨ L = 2 → r0 = pr0) → Fo id (fun g => pr0 + 2 ≤ g ∧ g ≤ pr0 + 4) z0 (go L x1 x2 x3 x4 r0 t0 z)) (hz : fr (fun g => pr0 + 2 ≤ g ∧ g ≤ pr0 + 4) z0 z) (e_r0 : r0 = pr0) : Fo id (fun g => pr0 + 2 ≤ g ∧ g ≤ pr0 + 4) z0 (cm_X5_conjugateBy_0 vl K go x1 x2 x3 x4 r0 t0 z) := by
  unfold cm_X5_conjugateBy_0
  exact (fo_rdF (fun v1 => (fo_cs1 ff_X5_invert (fun g hg => hg.elim) hz (fun v3 z2 h_z2 => (hgo 1 _ _ _ _ _ _ z2 h_z2 (fun _ => by omega))))))
theorem fb_X5_conjugateBy_1 {K : Nat} {vl : Nat → Nat} {z0 z : ow_MS} {pr0 : Nat} {go : Nat → Int32 → Int32 → Int32 → Int32 → Nat → Int32 → ow_MS → Option ow_MS} {x1 : Int32} {x2 : Int32} {x3 : Int32} {x4 : Int32} {r0 : Nat} {t0 : Int32} (hgo : ∀ (L : Nat) (x1 : Int32) (x2 : Int32) (x3 : Int32) (x4 : Int32) (r0 : Nat) (t0 : Int32) (z : ow_MS), fr (fun g => pr0 + 2 ≤ g ∧ g ≤ pr0 + 4) z0 z → (L = 0 ∨ L = 1 ∨ L = 2 → r0 = pr0) → Fo id (fun g => pr0 + 2 ≤ g ∧ g ≤ pr0 + 4) z0 (go L x1 x2 x3 x4 r0 t0 z)) (hz : fr (fun g => pr0 + 2 ≤ g ∧ g ≤ pr0 + 4) z0 z) (e_r0 : r0 = pr0) : Fo id (fun g => pr0 + 2 ≤ g ∧ g ≤ pr0 + 4) z0 (cm_X5_conjugateBy_1 vl K go x1 x2 x3 x4 r0 t0 z) := by
  unfold cm_X5_conjugateBy_1
  exact (fo_rdF (fun v4 => (fo_if (fo_rdF (fun v5 => (fo_if (hgo 2 _ _ _ _ _ _ z hz (fun _ => by omega)) (fo_rdF (fun v6 => (fo_cs1 ff_X5_turned (fun g hg => hg.elim) hz (fun v8 z7 h_z7 => (hgo 2 _ _ _ _ _ _ z7 h_z7 (fun _ => by omega))))))))) (fo_rdF (fun v9 => (fo_cs1 ff_X5_image (fun g hg => hg.elim) hz (fun v11 z10 h_z10 => (hgo 1 _ _ _ _ _ _ z10 h_z10 (fun _ => by omega)))))))))
theorem fb_X5_conjugateBy_2 {K : Nat} {vl : Nat → Nat} {z0 z : ow_MS} {pr0 : Nat} {go : Nat → Int32 → Int32 → Int32 → Int32 → Nat → Int32 → ow_MS → Option ow_MS} {x1 : Int32} {x2 : Int32} {x3 : Int32} {x4 : Int32} {r0 : Nat} {t0 : Int32} (hgo : ∀ (L : Nat) (x1 : Int32) (x2 : Int32) (x3 : Int32) (x4 : Int32) (r0 : Nat) (t0 : Int32) (z : ow_MS), fr (fun g => pr0 + 2 ≤ g ∧ g ≤ pr0 + 4) z0 z → (L = 0 ∨ L = 1 ∨ L = 2 → r0 = pr0) → Fo id (fun g => pr0 + 2 ≤ g ∧ g ≤ pr0 + 4) z0 (go L x1 x2 x3 x4 r0 t0 z)) (hz : fr (fun g => pr0 + 2 ≤ g ∧ g ≤ pr0 + 4) z0 z) (e_r0 : r0 = pr0) : Fo id (fun g => pr0 + 2 ≤ g ∧ g ≤ pr0 + 4) z0 (cm_X5_conjugateBy_2 vl K go x1 x2 x3 x4 r0 t0 z) := by
  unfold cm_X5_conjugateBy_2
  exact (fo_rdF (fun v12 => (fo_wrF (by omega) hz (fun z13 h_z13 => (fo_cs0 ff_X5_putBefore (fun g hg => by omega) h_z13 (fun z14 h_z14 => (fo_cs0 ff_X5_putBehind (fun g hg => by omega) h_z14 (fun z15 h_z15 => (fo_some h_z15)))))))))
theorem fq_X5_conjugateBy {K : Nat} {vl : Nat → Nat} {z0 : ow_MS} {pr0 : Nat} : ∀ (k L : Nat) (x1 : Int32) (x2 : Int32) (x3 : Int32) (x4 : Int32) (r0 : Nat) (t0 : Int32) (z : ow_MS), fr (fun g => pr0 + 2 ≤ g ∧ g ≤ pr0 + 4) z0 z → (L = 0 ∨ L = 1 ∨ L = 2 → r0 = pr0) → Fo id (fun g => pr0 + 2 ≤ g ∧ g ≤ pr0 + 4) z0 (c_X5_conjugateBy vl K k L x1 x2 x3 x4 r0 t0 z)
  | 0 => by
    intros
    exact fo_none
  | k + 1 => by
    intro L x1 x2 x3 x4 r0 t0 z hz h9_r0
    show Fo id (fun g => pr0 + 2 ≤ g ∧ g ≤ pr0 + 4) z0 (cb_X5_conjugateBy vl K (c_X5_conjugateBy vl K k) L x1 x2 x3 x4 r0 t0 z)
    unfold cb_X5_conjugateBy
    split
    · exact fb_X5_conjugateBy_0 (fq_X5_conjugateBy k) hz (h9_r0 (by decide))
    · exact fb_X5_conjugateBy_1 (fq_X5_conjugateBy k) hz (h9_r0 (by decide))
    · exact fb_X5_conjugateBy_2 (fq_X5_conjugateBy k) hz (h9_r0 (by decide))
    · exact fo_none
theorem ff_X5_conjugateBy {vl : Nat → Nat} {K : Nat} {r0 : Nat} {x1 : Int32} {z : ow_MS} : Fo id (fun g => r0 + 2 ≤ g ∧ g ≤ r0 + 4) z (ce_X5_conjugateBy vl K r0 x1 z) := fq_X5_conjugateBy (pr0 := r0) K 0 _ _ _ _ _ _ z fr_rf (fun _ => rfl)
theorem fb_X10_gather_0 {K : Nat} {vl : Nat → Nat} {z0 z : ow_MS} {pr0 : Nat} {go : Nat → Int32 → Int32 → Int32 → Nat → ow_MS → Option (Int32 × ow_MS)} {x1 : Int32} {x2 : Int32} {x3 : Int32} {r0 : Nat} (hgo : ∀ (L : Nat) (x1 : Int32) (x2 : Int32) (x3 : Int32) (r0 : Nat) (z : ow_MS), fr (fun g => pr0 + 4 ≤ g ∧ g ≤ pr0 + 10 ∨ pr0 + 1002 ≤ g ∧ g ≤ pr0 + 1004) z0 z → (L = 0 ∨ L = 1 ∨ L = 2 ∨ L = 3 ∨ L = 4 ∨ L = 5 → r0 = pr0) → Fo Prod.snd (fun g => pr0 + 4 ≤ g ∧ g ≤ pr0 + 10 ∨ pr0 + 1002 ≤ g ∧ g ≤ pr0 + 1004) z0 (go L x1 x2 x3 r0 z)) (hz : fr (fun g => pr0 + 4 ≤ g ∧ g ≤ pr0 + 10 ∨ pr0 + 1002 ≤ g ∧ g ≤ pr0 + 1004) z0 z) (e_r0 : r0 = pr0) : Fo Prod.snd (fun g => pr0 + 4 ≤ g ∧ g ≤ pr0 + 10 ∨ pr0 + 1002 ≤ g ∧ g ≤ pr0 + 1004) z0 (cm_X10_gather_0 vl K go x1 x2 x3 r0 z) := by
  unfold cm_X10_gather_0
  exact (hgo 1 _ _ _ _ z hz (fun _ => by omega))
theorem fb_X10_gather_1 {K : Nat} {vl : Nat → Nat} {z0 z : ow_MS} {pr0 : Nat} {go : Nat → Int32 → Int32 → Int32 → Nat → ow_MS → Option (Int32 × ow_MS)} {x1 : Int32} {x2 : Int32} {x3 : Int32} {r0 : Nat} (hgo : ∀ (L : Nat) (x1 : Int32) (x2 : Int32) (x3 : Int32) (r0 : Nat) (z : ow_MS), fr (fun g => pr0 + 4 ≤ g ∧ g ≤ pr0 + 10 ∨ pr0 + 1002 ≤ g ∧ g ≤ pr0 + 1004) z0 z → (L = 0 ∨ L = 1 ∨ L = 2 ∨ L = 3 ∨ L = 4 ∨ L = 5 → r0 = pr0) → Fo Prod.snd (fun g => pr0 + 4 ≤ g ∧ g ≤ pr0 + 10 ∨ pr0 + 1002 ≤ g ∧ g ≤ pr0 + 1004) z0 (go L x1 x2 x3 r0 z)) (hz : fr (fun g => pr0 + 4 ≤ g ∧ g ≤ pr0 + 10 ∨ pr0 + 1002 ≤ g ∧ g ≤ pr0 + 1004) z0 z) (e_r0 : r0 = pr0) : Fo Prod.snd (fun g => pr0 + 4 ≤ g ∧ g ≤ pr0 + 10 ∨ pr0 + 1002 ≤ g ∧ g ≤ pr0 + 1004) z0 (cm_X10_gather_1 vl K go x1 x2 x3 r0 z) := by
  unfold cm_X10_gather_1
  exact (fo_rdF (fun v1 => (fo_if (fo_okZ (fo_some hz)) (fo_rdF (fun v2 => (fo_if (fo_okZ (fo_some hz)) (hgo 2 _ _ _ _ z hz (fun _ => by omega))))))))
theorem fb_X10_gather_2 {K : Nat} {vl : Nat → Nat} {z0 z : ow_MS} {pr0 : Nat} {go : Nat → Int32 → Int32 → Int32 → Nat → ow_MS → Option (Int32 × ow_MS)} {x1 : Int32} {x2 : Int32} {x3 : Int32} {r0 : Nat} (hgo : ∀ (L : Nat) (x1 : Int32) (x2 : Int32) (x3 : Int32) (r0 : Nat) (z : ow_MS), fr (fun g => pr0 + 4 ≤ g ∧ g ≤ pr0 + 10 ∨ pr0 + 1002 ≤ g ∧ g ≤ pr0 + 1004) z0 z → (L = 0 ∨ L = 1 ∨ L = 2 ∨ L = 3 ∨ L = 4 ∨ L = 5 → r0 = pr0) → Fo Prod.snd (fun g => pr0 + 4 ≤ g ∧ g ≤ pr0 + 10 ∨ pr0 + 1002 ≤ g ∧ g ≤ pr0 + 1004) z0 (go L x1 x2 x3 r0 z)) (hz : fr (fun g => pr0 + 4 ≤ g ∧ g ≤ pr0 + 10 ∨ pr0 + 1002 ≤ g ∧ g ≤ pr0 + 1004) z0 z) (e_r0 : r0 = pr0) : Fo Prod.snd (fun g => pr0 + 4 ≤ g ∧ g ≤ pr0 + 10 ∨ pr0 + 1002 ≤ g ∧ g ≤ pr0 + 1004) z0 (cm_X10_gather_2 vl K go x1 x2 x3 r0 z) := by
  unfold cm_X10_gather_2
  exact (fo_rdF (fun v3 => (fo_if (hgo 5 _ _ _ _ z hz (fun _ => by omega)) (fo_rdF (fun v4 => (fo_if (hgo 5 _ _ _ _ z hz (fun _ => by omega)) (fo_cs1 ff_X10_goesOn (fun g hg => hg.elim) hz (fun v6 z5 h_z5 => (fo_if (fo_rdF (fun v7 => (fo_wrF (by omega) h_z5 (fun z8 h_z8 => (fo_rdF (fun v9 => (fo_wrF (by omega) h_z8 (fun z10 h_z10 => (fo_rdF (fun v11 => (fc_cpI (by omega) h_z10 (fun z12 h_z12 => (fc_crI (fun v13 => (fo_cs0 ff_X5_conjugateBy (fun g hg => by omega) h_z12 (fun z14 h_z14 => (fo_rdF (fun v15 => (fo_rdF (fun v16 => (fo_if (fo_okZ (fo_some h_z14)) (fo_rdF (fun v17 => (fo_rdF (fun v18 => (fo_if (fo_rdF (fun v19 => (fo_rdF (fun v20 => (fo_if (hgo 3 _ _ _ _ z14 h_z14 (fun _ => by omega)) (fo_okZ (fo_some h_z14))))))) (hgo 3 _ _ _ _ z14 h_z14 (fun _ => by omega)))))))))))))))))))))))))))) (hgo 4 _ _ _ _ z5 h_z5 (fun _ => by omega)))))))))))
theorem fb_X10_gather_3 {K : Nat} {vl : Nat → Nat} {z0 z : ow_MS} {pr0 : Nat} {go : Nat → Int32 → Int32 → Int32 → Nat → ow_MS → Option (Int32 × ow_MS)} {x1 : Int32} {x2 : Int32} {x3 : Int32} {r0 : Nat} (hgo : ∀ (L : Nat) (x1 : Int32) (x2 : Int32) (x3 : Int32) (r0 : Nat) (z : ow_MS), fr (fun g => pr0 + 4 ≤ g ∧ g ≤ pr0 + 10 ∨ pr0 + 1002 ≤ g ∧ g ≤ pr0 + 1004) z0 z → (L = 0 ∨ L = 1 ∨ L = 2 ∨ L = 3 ∨ L = 4 ∨ L = 5 → r0 = pr0) → Fo Prod.snd (fun g => pr0 + 4 ≤ g ∧ g ≤ pr0 + 10 ∨ pr0 + 1002 ≤ g ∧ g ≤ pr0 + 1004) z0 (go L x1 x2 x3 r0 z)) (hz : fr (fun g => pr0 + 4 ≤ g ∧ g ≤ pr0 + 10 ∨ pr0 + 1002 ≤ g ∧ g ≤ pr0 + 1004) z0 z) (e_r0 : r0 = pr0) : Fo Prod.snd (fun g => pr0 + 4 ≤ g ∧ g ≤ pr0 + 10 ∨ pr0 + 1002 ≤ g ∧ g ≤ pr0 + 1004) z0 (cm_X10_gather_3 vl K go x1 x2 x3 r0 z) := by
  unfold cm_X10_gather_3
  exact (fo_rdF (fun v21 => (fo_rdF (fun v22 => (fo_if (fo_rdF (fun v23 => (fo_rdF (fun v24 => (fo_if (fo_cs0 ff_X10_add (fun g hg => by omega) hz (fun z25 h_z25 => (fc_crI (fun v26 => (fc_ctI (by omega) h_z25 (fun z27 h_z27 => (hgo 4 _ _ _ _ z27 h_z27 (fun _ => by omega)))))))) (hgo 4 _ _ _ _ z hz (fun _ => by omega))))))) (hgo 4 _ _ _ _ z hz (fun _ => by omega)))))))
theorem fb_X10_gather_4 {K : Nat} {vl : Nat → Nat} {z0 z : ow_MS} {pr0 : Nat} {go : Nat → Int32 → Int32 → Int32 → Nat → ow_MS → Option (Int32 × ow_MS)} {x1 : Int32} {x2 : Int32} {x3 : Int32} {r0 : Nat} (hgo : ∀ (L : Nat) (x1 : Int32) (x2 : Int32) (x3 : Int32) (r0 : Nat) (z : ow_MS), fr (fun g => pr0 + 4 ≤ g ∧ g ≤ pr0 + 10 ∨ pr0 + 1002 ≤ g ∧ g ≤ pr0 + 1004) z0 z → (L = 0 ∨ L = 1 ∨ L = 2 ∨ L = 3 ∨ L = 4 ∨ L = 5 → r0 = pr0) → Fo Prod.snd (fun g => pr0 + 4 ≤ g ∧ g ≤ pr0 + 10 ∨ pr0 + 1002 ≤ g ∧ g ≤ pr0 + 1004) z0 (go L x1 x2 x3 r0 z)) (hz : fr (fun g => pr0 + 4 ≤ g ∧ g ≤ pr0 + 10 ∨ pr0 + 1002 ≤ g ∧ g ≤ pr0 + 1004) z0 z) (e_r0 : r0 = pr0) : Fo Prod.snd (fun g => pr0 + 4 ≤ g ∧ g ≤ pr0 + 10 ∨ pr0 + 1002 ≤ g ∧ g ≤ pr0 + 1004) z0 (cm_X10_gather_4 vl K go x1 x2 x3 r0 z) := by
  unfold cm_X10_gather_4
  exact (hgo 2 _ _ _ _ z hz (fun _ => by omega))
theorem fb_X10_gather_5 {K : Nat} {vl : Nat → Nat} {z0 z : ow_MS} {pr0 : Nat} {go : Nat → Int32 → Int32 → Int32 → Nat → ow_MS → Option (Int32 × ow_MS)} {x1 : Int32} {x2 : Int32} {x3 : Int32} {r0 : Nat} (hgo : ∀ (L : Nat) (x1 : Int32) (x2 : Int32) (x3 : Int32) (r0 : Nat) (z : ow_MS), fr (fun g => pr0 + 4 ≤ g ∧ g ≤ pr0 + 10 ∨ pr0 + 1002 ≤ g ∧ g ≤ pr0 + 1004) z0 z → (L = 0 ∨ L = 1 ∨ L = 2 ∨ L = 3 ∨ L = 4 ∨ L = 5 → r0 = pr0) → Fo Prod.snd (fun g => pr0 + 4 ≤ g ∧ g ≤ pr0 + 10 ∨ pr0 + 1002 ≤ g ∧ g ≤ pr0 + 1004) z0 (go L x1 x2 x3 r0 z)) (hz : fr (fun g => pr0 + 4 ≤ g ∧ g ≤ pr0 + 10 ∨ pr0 + 1002 ≤ g ∧ g ≤ pr0 + 1004) z0 z) (e_r0 : r0 = pr0) : Fo Prod.snd (fun g => pr0 + 4 ≤ g ∧ g ≤ pr0 + 10 ∨ pr0 + 1002 ≤ g ∧ g ≤ pr0 + 1004) z0 (cm_X10_gather_5 vl K go x1 x2 x3 r0 z) := by
  unfold cm_X10_gather_5
  exact (hgo 1 _ _ _ _ z hz (fun _ => by omega))
theorem fq_X10_gather {K : Nat} {vl : Nat → Nat} {z0 : ow_MS} {pr0 : Nat} : ∀ (k L : Nat) (x1 : Int32) (x2 : Int32) (x3 : Int32) (r0 : Nat) (z : ow_MS), fr (fun g => pr0 + 4 ≤ g ∧ g ≤ pr0 + 10 ∨ pr0 + 1002 ≤ g ∧ g ≤ pr0 + 1004) z0 z → (L = 0 ∨ L = 1 ∨ L = 2 ∨ L = 3 ∨ L = 4 ∨ L = 5 → r0 = pr0) → Fo Prod.snd (fun g => pr0 + 4 ≤ g ∧ g ≤ pr0 + 10 ∨ pr0 + 1002 ≤ g ∧ g ≤ pr0 + 1004) z0 (c_X10_gather vl K k L x1 x2 x3 r0 z)
  | 0 => by
    intros
    exact fo_none
  | k + 1 => by
    intro L x1 x2 x3 r0 z hz h9_r0
    show Fo Prod.snd (fun g => pr0 + 4 ≤ g ∧ g ≤ pr0 + 10 ∨ pr0 + 1002 ≤ g ∧ g ≤ pr0 + 1004) z0 (cb_X10_gather vl K (c_X10_gather vl K k) L x1 x2 x3 r0 z)
    unfold cb_X10_gather
    split
    · exact fb_X10_gather_0 (fq_X10_gather k) hz (h9_r0 (by decide))
    · exact fb_X10_gather_1 (fq_X10_gather k) hz (h9_r0 (by decide))
    · exact fb_X10_gather_2 (fq_X10_gather k) hz (h9_r0 (by decide))
    · exact fb_X10_gather_3 (fq_X10_gather k) hz (h9_r0 (by decide))
    · exact fb_X10_gather_4 (fq_X10_gather k) hz (h9_r0 (by decide))
    · exact fb_X10_gather_5 (fq_X10_gather k) hz (h9_r0 (by decide))
    · exact fo_none
theorem ff_X10_gather {vl : Nat → Nat} {K : Nat} {r0 : Nat} {z : ow_MS} : Fo Prod.snd (fun g => r0 + 4 ≤ g ∧ g ≤ r0 + 10 ∨ r0 + 1002 ≤ g ∧ g ≤ r0 + 1004) z (ce_X10_gather vl K r0 z) := fq_X10_gather (pr0 := r0) K 0 _ _ _ _ z fr_rf (fun _ => rfl)
theorem fb_X10_find_0 {K : Nat} {vl : Nat → Nat} {z0 z : ow_MS} {pr0 : Nat} {pr1 : Nat} {go : Nat → Int32 → Nat → Nat → ow_MS → Option (Int32 × ow_MS)} {x2 : Int32} {r0 : Nat} {r1 : Nat} (hgo : ∀ (L : Nat) (x2 : Int32) (r0 : Nat) (r1 : Nat) (z : ow_MS), fr (fun g => pr0 + 1 ≤ g ∧ g ≤ pr0 + 11 ∨ pr0 + 1001 ≤ g ∧ g ≤ pr0 + 1006) z0 z → (L = 0 ∨ L = 1 → r0 = pr0) → (L = 0 ∨ L = 1 → r1 = pr1) → Fo Prod.snd (fun g => pr0 + 1 ≤ g ∧ g ≤ pr0 + 11 ∨ pr0 + 1001 ≤ g ∧ g ≤ pr0 + 1006) z0 (go L x2 r0 r1 z)) (hz : fr (fun g => pr0 + 1 ≤ g ∧ g ≤ pr0 + 11 ∨ pr0 + 1001 ≤ g ∧ g ≤ pr0 + 1006) z0 z) (e_r0 : r0 = pr0) (e_r1 : r1 = pr1) : Fo Prod.snd (fun g => pr0 + 1 ≤ g ∧ g ≤ pr0 + 11 ∨ pr0 + 1001 ≤ g ∧ g ≤ pr0 + 1006) z0 (cm_X10_find_0 vl K go x2 r0 r1 z) := by
  unfold cm_X10_find_0
  exact (fo_rdF (fun v1 => (fo_wrF (by omega) hz (fun z2 h_z2 => (fo_cs0 ff_X5_copy (fun g hg => by omega) h_z2 (fun z3 h_z3 => (fo_cs0 ff_X10_listSimples (fun g hg => by omega) h_z3 (fun z4 h_z4 => (hgo 1 _ _ _ z4 h_z4 (fun _ => by omega) (fun _ => by omega))))))))))
theorem fb_X10_find_1 {K : Nat} {vl : Nat → Nat} {z0 z : ow_MS} {pr0 : Nat} {pr1 : Nat} {go : Nat → Int32 → Nat → Nat → ow_MS → Option (Int32 × ow_MS)} {x2 : Int32} {r0 : Nat} {r1 : Nat} (hgo : ∀ (L : Nat) (x2 : Int32) (r0 : Nat) (r1 : Nat) (z : ow_MS), fr (fun g => pr0 + 1 ≤ g ∧ g ≤ pr0 + 11 ∨ pr0 + 1001 ≤ g ∧ g ≤ pr0 + 1006) z0 z → (L = 0 ∨ L = 1 → r0 = pr0) → (L = 0 ∨ L = 1 → r1 = pr1) → Fo Prod.snd (fun g => pr0 + 1 ≤ g ∧ g ≤ pr0 + 11 ∨ pr0 + 1001 ≤ g ∧ g ≤ pr0 + 1006) z0 (go L x2 r0 r1 z)) (hz : fr (fun g => pr0 + 1 ≤ g ∧ g ≤ pr0 + 11 ∨ pr0 + 1001 ≤ g ∧ g ≤ pr0 + 1006) z0 z) (e_r0 : r0 = pr0) (e_r1 : r1 = pr1) : Fo Prod.snd (fun g => pr0 + 1 ≤ g ∧ g ≤ pr0 + 11 ∨ pr0 + 1001 ≤ g ∧ g ≤ pr0 + 1006) z0 (cm_X10_find_1 vl K go x2 r0 r1 z) := by
  unfold cm_X10_find_1
  exact (fo_if (fo_some hz) (fo_cs0 ff_X10_climb (fun g hg => by omega) hz (fun z5 h_z5 => (fo_cs0 ff_X10_begin (fun g hg => by omega) h_z5 (fun z6 h_z6 => (fo_cs1 ff_X10_gather (fun g hg => by omega) h_z6 (fun v8 z7 h_z7 => (fo_if (hgo 1 _ _ _ z7 h_z7 (fun _ => by omega) (fun _ => by omega)) (fo_rdF (fun v9 => (fo_if (fo_rdF (fun v10 => (fo_some h_z7))) (fo_some h_z7))))))))))))
theorem fq_X10_find {K : Nat} {vl : Nat → Nat} {z0 : ow_MS} {pr0 : Nat} {pr1 : Nat} : ∀ (k L : Nat) (x2 : Int32) (r0 : Nat) (r1 : Nat) (z : ow_MS), fr (fun g => pr0 + 1 ≤ g ∧ g ≤ pr0 + 11 ∨ pr0 + 1001 ≤ g ∧ g ≤ pr0 + 1006) z0 z → (L = 0 ∨ L = 1 → r0 = pr0) → (L = 0 ∨ L = 1 → r1 = pr1) → Fo Prod.snd (fun g => pr0 + 1 ≤ g ∧ g ≤ pr0 + 11 ∨ pr0 + 1001 ≤ g ∧ g ≤ pr0 + 1006) z0 (c_X10_find vl K k L x2 r0 r1 z)
  | 0 => by
    intros
    exact fo_none
  | k + 1 => by
    intro L x2 r0 r1 z hz h9_r0 h9_r1
    show Fo Prod.snd (fun g => pr0 + 1 ≤ g ∧ g ≤ pr0 + 11 ∨ pr0 + 1001 ≤ g ∧ g ≤ pr0 + 1006) z0 (cb_X10_find vl K (c_X10_find vl K k) L x2 r0 r1 z)
    unfold cb_X10_find
    split
    · exact fb_X10_find_0 (fq_X10_find k) hz (h9_r0 (by decide)) (h9_r1 (by decide))
    · exact fb_X10_find_1 (fq_X10_find k) hz (h9_r0 (by decide)) (h9_r1 (by decide))
    · exact fo_none
theorem ff_X10_find {vl : Nat → Nat} {K : Nat} {r0 : Nat} {r1 : Nat} {z : ow_MS} : Fo Prod.snd (fun g => r0 + 1 ≤ g ∧ g ≤ r0 + 11 ∨ r0 + 1001 ≤ g ∧ g ≤ r0 + 1006) z (ce_X10_find vl K r0 r1 z) := fq_X10_find (pr0 := r0) (pr1 := r1) K 0 _ _ _ z fr_rf (fun _ => rfl) (fun _ => rfl)
theorem ff_X11_summit {vl : Nat → Nat} {K : Nat} {r0 : Nat} {x1 : Int32} {z : ow_MS} : Fo (fun r => r.2.2) (fun g => r0 + 46001 ≤ g ∧ g ≤ r0 + 46006 ∨ r0 + 48001 ≤ g ∧ g ≤ r0 + 48011 ∨ r0 + 49001 ≤ g ∧ g ≤ r0 + 49006) z (ce_X11_summit vl K r0 x1 z) := by
  unfold ce_X11_summit cm_X11_summit_0
  exact (fc_tc0 ff_X11_needBraid (fun g hg => hg.elim) fr_rf (fun k z h_e => (fo_some h_e)) (fun z1 h_z1 => (fc_tc0 ff_X11_needFewStrands (fun g hg => hg.elim) h_z1 (fun k z h_e => (fo_some h_e)) (fun z3 h_z3 => (fo_cs0 ff_X11_write (fun g hg => by omega) h_z3 (fun z5 h_z5 => (fo_cs1 ff_X10_find (fun g hg => by omega) h_z5 (fun v7 z6 h_z6 => (fo_some h_z6)))))))))
theorem fb_X10_sameAs_0 {K : Nat} {vl : Nat → Nat} {z0 z : ow_MS} {pr0 : Nat} {pr1 : Nat} {go : Nat → Int32 → Nat → Nat → ow_MS → Option (Int32 × ow_MS)} {x2 : Int32} {r0 : Nat} {r1 : Nat} (hgo : ∀ (L : Nat) (x2 : Int32) (r0 : Nat) (r1 : Nat) (z : ow_MS), fr (fun _ => False) z0 z → (L = 0 ∨ L = 1 → r0 = pr0) → (L = 0 ∨ L = 1 → r1 = pr1) → Fo Prod.snd (fun _ => False) z0 (go L x2 r0 r1 z)) (hz : fr (fun _ => False) z0 z) (e_r0 : r0 = pr0) (e_r1 : r1 = pr1) : Fo Prod.snd (fun _ => False) z0 (cm_X10_sameAs_0 vl K go x2 r0 r1 z) := by
  unfold cm_X10_sameAs_0
  exact (fo_rdF (fun v1 => (fo_rdF (fun v2 => (fo_if (fo_rdF (fun v3 => (fo_rdF (fun v4 => (fo_if (fo_rdF (fun v5 => (fo_rdF (fun v6 => (fo_if (fo_rdF (fun v7 => (fo_rdF (fun v8 => (fo_if (hgo 1 _ _ _ z hz (fun _ => by omega) (fun _ => by omega)) (fo_okZ (fo_some hz))))))) (fo_okZ (fo_some hz))))))) (fo_okZ (fo_some hz))))))) (fo_okZ (fo_some hz)))))))
theorem fb_X10_sameAs_1 {K : Nat} {vl : Nat → Nat} {z0 z : ow_MS} {pr0 : Nat} {pr1 : Nat} {go : Nat → Int32 → Nat → Nat → ow_MS → Option (Int32 × ow_MS)} {x2 : Int32} {r0 : Nat} {r1 : Nat} (hgo : ∀ (L : Nat) (x2 : Int32) (r0 : Nat) (r1 : Nat) (z : ow_MS), fr (fun _ => False) z0 z → (L = 0 ∨ L = 1 → r0 = pr0) → (L = 0 ∨ L = 1 → r1 = pr1) → Fo Prod.snd (fun _ => False) z0 (go L x2 r0 r1 z)) (hz : fr (fun _ => False) z0 z) (e_r0 : r0 = pr0) (e_r1 : r1 = pr1) : Fo Prod.snd (fun _ => False) z0 (cm_X10_sameAs_1 vl K go x2 r0 r1 z) := by
  unfold cm_X10_sameAs_1
  exact (fo_rdF (fun v9 => (fo_if (fo_okZ (fo_some hz)) (fc_crI (fun v10 => (fc_crI (fun v11 => (fo_cs1 ff_X10_compare (fun g hg => hg.elim) hz (fun v13 z12 h_z12 => (fo_if (hgo 1 _ _ _ z12 h_z12 (fun _ => by omega) (fun _ => by omega)) (fo_okZ (fo_some h_z12))))))))))))
theorem fq_X10_sameAs {K : Nat} {vl : Nat → Nat} {z0 : ow_MS} {pr0 : Nat} {pr1 : Nat} : ∀ (k L : Nat) (x2 : Int32) (r0 : Nat) (r1 : Nat) (z : ow_MS), fr (fun _ => False) z0 z → (L = 0 ∨ L = 1 → r0 = pr0) → (L = 0 ∨ L = 1 → r1 = pr1) → Fo Prod.snd (fun _ => False) z0 (c_X10_sameAs vl K k L x2 r0 r1 z)
  | 0 => by
    intros
    exact fo_none
  | k + 1 => by
    intro L x2 r0 r1 z hz h9_r0 h9_r1
    show Fo Prod.snd (fun _ => False) z0 (cb_X10_sameAs vl K (c_X10_sameAs vl K k) L x2 r0 r1 z)
    unfold cb_X10_sameAs
    split
    · exact fb_X10_sameAs_0 (fq_X10_sameAs k) hz (h9_r0 (by decide)) (h9_r1 (by decide))
    · exact fb_X10_sameAs_1 (fq_X10_sameAs k) hz (h9_r0 (by decide)) (h9_r1 (by decide))
    · exact fo_none
theorem ff_X10_sameAs {vl : Nat → Nat} {K : Nat} {r0 : Nat} {r1 : Nat} {z : ow_MS} : Fo Prod.snd (fun _ => False) z (ce_X10_sameAs vl K r0 r1 z) := fq_X10_sameAs (pr0 := r0) (pr1 := r1) K 0 _ _ _ z fr_rf (fun _ => rfl) (fun _ => rfl)
theorem ff_X11_conjugate {vl : Nat → Nat} {K : Nat} {r0 : Nat} {x1 : Int32} {x2 : Int32} {z : ow_MS} : Fo (fun r => r.2.2) (fun g => r0 + 46001 ≤ g ∧ g ≤ r0 + 46006 ∨ r0 + 48001 ≤ g ∧ g ≤ r0 + 48011 ∨ r0 + 49001 ≤ g ∧ g ≤ r0 + 49006 ∨ r0 + 50001 ≤ g ∧ g ≤ r0 + 50011 ∨ r0 + 51001 ≤ g ∧ g ≤ r0 + 51006) z (ce_X11_conjugate vl K r0 x1 x2 z) := by
  unfold ce_X11_conjugate cm_X11_conjugate_0
  exact (fc_tc0 ff_X11_needBraid (fun g hg => hg.elim) fr_rf (fun k z h_e => (fo_some h_e)) (fun z1 h_z1 => (fc_tc0 ff_X11_needBraid (fun g hg => hg.elim) h_z1 (fun k z h_e => (fo_some h_e)) (fun z3 h_z3 => (fc_crI (fun v5 => (fc_crI (fun v6 => (fo_if (fc_tc0 ff_X11_needFewStrands (fun g hg => hg.elim) h_z3 (fun k z h_e => (fo_some h_e)) (fun z7 h_z7 => (fo_cs0 ff_X11_write (fun g hg => by omega) h_z7 (fun z9 h_z9 => (fo_cs1 ff_X10_find (fun g hg => by omega) h_z9 (fun v11 z10 h_z10 => (fo_cs0 ff_X11_write (fun g hg => by omega) h_z10 (fun z12 h_z12 => (fo_cs1 ff_X10_find (fun g hg => by omega) h_z12 (fun v14 z13 h_z13 => (fo_if (fo_some h_z13) (fo_if (fo_some h_z13) (fo_cs1 ff_X10_sameAs (fun g hg => hg.elim) h_z13 (fun v16 z15 h_z15 => (fo_if (fo_some h_z15) (fo_some h_z15)))))))))))))))) (fo_some h_z3))))))))))
end
section
/-! 99zzzzzzzzzzzzn.xst1 -/
/-! the law's steps: both sides answer the same, and stay related -/
def ciH (g : Nat) : Prop := 24001 ≤ g ∧ g ≤ 25003 ∨ 39001 ≤ g ∧ g ≤ 40011 ∨ 41006 ≤ g ∧ g ≤ 41016 ∨ g = 43005 ∨ 45001 ≤ g ∧ g ≤ 45011
section XST
variable {vl : Nat → Nat} {y y1 z : ow_MS} {P P' : Nat → Prop}
theorem jnT_fr (hf : fr P y y1) (hP : ¬ P 40008 ∧ ¬ P 24009 ∧ ¬ P 24006) {A : rn_L} {sg : Nat → Bool} {c : Nat} (h : jnT y A sg c) : jnT y1 A sg c := by
  obtain ⟨S, G, h1, h2, h3, h4⟩ := h
  refine ⟨S, G, h1, by rw [(hf 40008 hP.1).1]; exact h2, by rw [(hf 24009 hP.2.1).1]; exact h3, fun k hk => by rw [(hf 24006 hP.2.2).2.1]; exact h4 k hk⟩
theorem jnC_fr (hf : fr P y y1) (hP : ∀ g, P g → ¬ ciH g) (h : jnC y) : jnC y1 := by
  have no : ∀ g, ciH g → ¬ P g := fun g g1 h9 => hP g h9 g1
  obtain ⟨C, h1, h2, h3⟩ := h
  refine ⟨C, slC_fr hf (fun q hq => no q (by unfold cW at hq; unfold ciH; omega)) h1, h2, h3.imp id ?_⟩
  rintro ⟨A, sg, c, e, hT⟩
  exact ⟨A, sg, c, e, jnT_fr hf ⟨no _ (by unfold ciH; omega), no _ (by unfold ciH; omega), no _ (by unfold ciH; omega)⟩ hT⟩
theorem CI_fr (hf : fr P y y1) (hP : ∀ g, P g → ¬ ciH g) (h : CI vl y) : CI vl y1 := by
  have no : ∀ g, ciH g → ¬ P g := fun g g1 h9 => hP g h9 g1
  obtain ⟨h1, h2, h3, h4, h5, h6, h7, h8⟩ := h
  refine ⟨knC_fr hf (fun g hg h9 => hP g hg (by unfold ciH; omega)) h1, jnC_fr hf hP h2, bnC_fr hf (fun m hm => no _ (by unfold ciH; omega)) h3, mpC_fr hf ⟨no _ (by unfold ciH; omega), no _ (by unfold ciH; omega), no _ (by unfold ciH; omega)⟩ h4, ?_, fun m hm => ?_, fun i k hi hk => ?_, h8⟩
  · obtain ⟨k, k1, k2, k3⟩ := h5
    refine ⟨k, k1, by rw [(hf 41010 (no _ (by unfold ciH; omega))).1]; exact k2, fun s hs => ?_⟩
    rw [(hf 41012 (no _ (by unfold ciH; omega))).2.1, (hf 41013 (no _ (by unfold ciH; omega))).2.1, (hf 41014 (no _ (by unfold ciH; omega))).2.1]
    exact k3 s hs
  · rw [(hf 43005 (no _ (by unfold ciH; omega))).2.1]
    exact h6 m hm
  · rw [(hf (45001 + i) (no _ (by unfold ciH; omega))).2.1]
    exact h7 i k hi hk
/-- the law's own row of one number -/
theorem REL_J {v : Int64} (h : REL (vl, y, z)) : REL (vl, usJ y 52001 0 v, z) := h
def lsV (vl : Nat → Nat) (fc : Nat → Option (Nat × Int32 × ow_MS)) (mp : Nat → ow_MS → Option (Int32 × ow_MS)) (fm : Nat → Option (Int32 × ow_MS)) (K : Nat) : Option ow_LwS := cs1 (tc1 (fc K) mp fun v3 z1 => ctJ (cX vl) z1 52001 0 v3.toInt64 fun z4 => some (0, z4)) fun v2 zc1 => cs1 (fm K) fun v4 zm3 => cs1 (qe_X13_thrown K zm3) fun v6 zm5 => (if v6 = v2 then (if v2 = 0 then crJ (cX vl) zc1 52001 0 fun v7 => (if (lg_cmp v7 v4.toInt64) = 0 then some (vl, zc1, zm5) else none) else some (vl, zc1, zm5)) else none)
theorem st_int {em : List (Nat × Nat)} {fc : Nat → Option (Nat × Int32 × ow_MS)} {mp : Nat → ow_MS → Option (Int32 × ow_MS)} {fm : Nat → Option (Int32 × ow_MS)} (h : Te fm (fun rr => Te fc (fun rc => REL (vl, rc.2.2, rr.2) ∧ ansI em rr rc))) (hmp : ∀ j k, (j, k) ∈ em → 0 < j ∧ j < 100 ∧ k ≠ 0 ∧ ∀ z, mp k z = some (nI j, z)) : Te (lsV vl fc mp fm) (fun S1 => REL S1 ∧ dPhi vl ≤ dPhi S1.1) := by
  obtain ⟨rr, ⟨b1, hb1⟩, rc, ⟨b2, hb2⟩, hR, ha⟩ := h
  obtain ⟨a, zm⟩ := rr
  obtain ⟨k, v, zc⟩ := rc
  have hR : REL (vl, zc, zm) := hR
  rcases ha with ⟨t0, k0, e⟩ | ⟨j, k', hm, t0, k0⟩
  · have k0 : k = 0 := k0
    have e : a = v := e
    have t0 : zm.1 1 = 0 := t0
    subst k0
    subst e
    refine ⟨(vl, usJ zc 52001 0 a.toInt64, zm), ⟨b1 + b2, fun K hK => ?_⟩, REL_J hR, Nat.le_refl _⟩
    unfold lsV
    rw [hb1 K (by omega), hb2 K (by omega)]
    show (if zm.1 1 = 0 then (if (0 : Int32) = 0 then _ else _) else none) = _
    rw [if_pos t0, if_pos rfl]
    show (if lg_cmp ((usJ zc 52001 0 a.toInt64).2.2 52001 0) a.toInt64 = 0 then some (vl, usJ zc 52001 0 a.toInt64, zm) else none) = _
    rw [if_pos ((lg_cmp_eq _ _).mpr usJ_at)]
  · have k0 : k = k' := k0
    have t0 : zm.1 1 = nI j := t0
    subst k0
    obtain ⟨m1, m2, m3, m4⟩ := hmp j k hm
    refine ⟨(vl, zc, zm), ⟨b1 + b2, fun K hK => ?_⟩, hR, Nat.le_refl _⟩
    unfold lsV
    rw [hb1 K (by omega), hb2 K (by omega)]
    have e1 : tc1 (some (k, v, zc)) mp (fun v3 z1 => ctJ (cX vl) z1 52001 0 v3.toInt64 fun z4 => some (0, z4)) = some (nI j, zc) := by
      show (if k = 0 then _ else mp k zc) = _
      rw [if_neg m3, m4]
    rw [e1]
    show (if zm.1 1 = nI j then (if nI j = 0 then _ else some (vl, zc, zm)) else none) = _
    have nj : nI j ≠ 0 := fun h9 => by
      have := nI_inj9 (a := j) (b := 0) (by omega) (by omega) h9
      omega
    rw [if_pos t0, if_neg nj]
/-- what a call keeps besides, by what it may change -/
theorem rel_of {em : List (Nat × Nat)} {fc : Nat → Option (Nat × Int32 × ow_MS)} {fm : Nat → Option (Int32 × ow_MS)} (h : REL (vl, y, z)) (hc : Te fm (fun rr => Te fc (fun rc => rel3 XR rr.2 rc.2.2 ∧ ansI em rr rc))) (hm : ∀ K, Fo Prod.snd P z (fm K)) (hf : ∀ K, Fo (fun r => r.2.2) P' y (fc K)) (hP : ¬ P 48 ∧ ¬ P 50) (hP' : ∀ g, P' g → ¬ ciH g) : Te fm (fun rr => Te fc (fun rc => REL (vl, rc.2.2, rr.2) ∧ ansI em rr rc)) := w_monoE (te_fo hc hm) (fun rr ⟨h1, f1⟩ => w_monoE (te_fo h1 hf) (fun rc ⟨⟨h2, h3⟩, f2⟩ => ⟨⟨h2, CI_fr f2 hP' h.2.1, jnR_fr f1 hP.1 hP.2 h.2.2⟩, h3⟩))
/-- calls that answer yes or no -/
theorem st_bool {fc fm : Nat → Option (Int32 × ow_MS)} (h : REL (vl, y, z)) (hc : Te fm (fun rr => Te fc (fun rc => rel3 XR rr.2 rc.2 ∧ rr.2.1 1 = 0 ∧ rr.1 = rc.1))) (hm : ∀ K, Fo Prod.snd P z (fm K)) (hf : ∀ K, Fo Prod.snd P' y (fc K)) (hP : ¬ P 48 ∧ ¬ P 50) (hP' : ∀ g, P' g → ¬ ciH g) : Te (fun K => cs1 (fc K) fun v2 zc1 => cs1 (fm K) fun v4 zm3 => (if v2 = v4 then some (vl, zc1, zm3) else none)) (fun S1 => REL S1 ∧ dPhi vl ≤ dPhi S1.1) := by
  obtain ⟨⟨a, zm⟩, ⟨b1, hb1⟩, ⟨⟨v, zc⟩, ⟨b2, hb2⟩, ⟨hR, -, e⟩, f2⟩, f1⟩ := te_fo (w_monoE hc (fun rr h1 => te_fo h1 hf)) hm
  have e : a = v := e
  subst e
  refine ⟨(vl, zc, zm), ⟨b1 + b2, fun K hK => ?_⟩, ⟨hR, CI_fr f2 hP' h.2.1, jnR_fr f1 hP.1 hP.2 h.2.2⟩, Nat.le_refl _⟩
  show cs1 (fc K) _ = _
  rw [hb2 K (by omega)]
  show (cs1 (fm K) fun v4 zm3 => if a = v4 then some (vl, zc, zm3) else none) = _
  rw [hb1 K (by omega)]
  exact if_pos rfl
end XST
/-- a case of the law: from related states it ends, and leaves related states -/
def stp (f : (Nat → Nat) → Nat → Int32 → Int32 → Int32 → Int32 → Int32 → ow_MS → ow_MS → Option ow_LwS) : Prop := ∀ (S : ow_LwS) (x1 x2 x3 x4 x5 : Int32), REL S → Te (fun K => f S.1 K x1 x2 x3 x4 x5 S.2.1 S.2.2) (fun S1 => REL S1 ∧ dPhi S.1 ≤ dPhi S1.1)
section XSS
theorem st_mirror : stp lst_mirror := by
  intro S x1 x2 x3 x4 x5 h
  have hc := rel_of (vl := S.1) (y := S.2.1) (z := S.2.2) (em := [(1, 1), (2, 3)]) (fc := fun K => ce_X11_mirror S.1 K 0 x1 S.2.1) (fm := fun K => qe_X13_mirror K x1 S.2.2) h (by
    obtain ⟨⟨St, k⟩, -⟩ := id h.1
    exact w_monoE (b_mirror k) (fun rr hr => w_monoE hr (fun rc hb => both_3 h.1 hb))) (fun K => ff_X13_mirror) (fun K => ff_X11_mirror) (by decide) (fun g hg h9 => by unfold ciH at h9; omega)
  refine st_int (mp := (fun k z => if k = 1 then some (1, z) else if k = 3 then some (2, z) else none)) hc (fun j k hm => ?_)
  simp only [List.mem_cons, List.not_mem_nil, or_false, Prod.mk.injEq] at hm
  rcases hm with ⟨rfl, rfl⟩ | ⟨rfl, rfl⟩ <;> exact ⟨by decide, by decide, by decide, fun _ => rfl⟩
theorem st_change : stp lst_change := by
  intro S x1 x2 x3 x4 x5 h
  have hc := rel_of (vl := S.1) (y := S.2.1) (z := S.2.2) (em := [(1, 1), (2, 3)]) (fc := fun K => ce_X11_change S.1 K 0 x1 x2 S.2.1) (fm := fun K => qe_X13_change K x1 x2 S.2.2) h (by
    obtain ⟨⟨St, k⟩, -⟩ := id h.1
    exact w_monoE (b_change k) (fun rr hr => w_monoE hr (fun rc hb => both_3 h.1 hb))) (fun K => ff_X13_change) (fun K => ff_X11_change) (by decide) (fun g hg h9 => by unfold ciH at h9; omega)
  refine st_int (mp := (fun k z => if k = 1 then some (1, z) else if k = 3 then some (2, z) else none)) hc (fun j k hm => ?_)
  simp only [List.mem_cons, List.not_mem_nil, or_false, Prod.mk.injEq] at hm
  rcases hm with ⟨rfl, rfl⟩ | ⟨rfl, rfl⟩ <;> exact ⟨by decide, by decide, by decide, fun _ => rfl⟩
theorem st_reverse : stp lst_reverse := by
  intro S x1 x2 x3 x4 x5 h
  have hc := rel_of (vl := S.1) (y := S.2.1) (z := S.2.2) (em := [(1, 1), (2, 3)]) (fc := fun K => ce_X11_reverse S.1 K 0 x1 x2 S.2.1) (fm := fun K => qe_X13_reverse K x1 x2 S.2.2) h (by
    obtain ⟨⟨St, k⟩, -⟩ := id h.1
    exact w_monoE (b_reverse k) (fun rr hr => w_monoE hr (fun rc hb => both_3 h.1 hb))) (fun K => ff_X13_reverse) (fun K => ff_X11_reverse) (by decide) (fun g hg h9 => by unfold ciH at h9; omega)
  refine st_int (mp := (fun k z => if k = 1 then some (1, z) else if k = 3 then some (2, z) else none)) hc (fun j k hm => ?_)
  simp only [List.mem_cons, List.not_mem_nil, or_false, Prod.mk.injEq] at hm
  rcases hm with ⟨rfl, rfl⟩ | ⟨rfl, rfl⟩ <;> exact ⟨by decide, by decide, by decide, fun _ => rfl⟩
theorem st_smooth : stp lst_smooth := by
  intro S x1 x2 x3 x4 x5 h
  have hc := rel_of (vl := S.1) (y := S.2.1) (z := S.2.2) (em := [(1, 1), (2, 4), (3, 3)]) (fc := fun K => ce_X11_smooth S.1 K 0 x1 x2 S.2.1) (fm := fun K => qe_X13_smooth K x1 x2 S.2.2) h (by
    obtain ⟨⟨St, k⟩, -⟩ := id h.1
    exact w_monoE (b_smooth k) (fun rr hr => w_monoE hr (fun rc hb => both_3 h.1 hb))) (fun K => ff_X13_smooth) (fun K => ff_X11_smooth) (by decide) (fun g hg h9 => by unfold ciH at h9; omega)
  refine st_int (mp := (fun k z => if k = 1 then some (1, z) else if k = 4 then some (2, z) else if k = 3 then some (3, z) else none)) hc (fun j k hm => ?_)
  simp only [List.mem_cons, List.not_mem_nil, or_false, Prod.mk.injEq] at hm
  rcases hm with ⟨rfl, rfl⟩ | ⟨rfl, rfl⟩ | ⟨rfl, rfl⟩ <;> exact ⟨by decide, by decide, by decide, fun _ => rfl⟩
theorem st_apart : stp lst_apart := by
  intro S x1 x2 x3 x4 x5 h
  have hc := rel_of (vl := S.1) (y := S.2.1) (z := S.2.2) (em := [(1, 1), (2, 4), (3, 3)]) (fc := fun K => ce_X11_apart S.1 K 0 x1 x2 S.2.1) (fm := fun K => qe_X13_apart K x1 x2 S.2.2) h (by
    obtain ⟨⟨St, k⟩, -⟩ := id h.1
    exact w_monoE (b_apart k) (fun rr hr => w_monoE hr (fun rc hb => both_3 h.1 hb))) (fun K => ff_X13_apart) (fun K => ff_X11_apart) (by decide) (fun g hg h9 => by unfold ciH at h9; omega)
  refine st_int (mp := (fun k z => if k = 1 then some (1, z) else if k = 4 then some (2, z) else if k = 3 then some (3, z) else none)) hc (fun j k hm => ?_)
  simp only [List.mem_cons, List.not_mem_nil, or_false, Prod.mk.injEq] at hm
  rcases hm with ⟨rfl, rfl⟩ | ⟨rfl, rfl⟩ | ⟨rfl, rfl⟩ <;> exact ⟨by decide, by decide, by decide, fun _ => rfl⟩
theorem st_join : stp lst_join := by
  intro S x1 x2 x3 x4 x5 h
  have hc := rel_of (vl := S.1) (y := S.2.1) (z := S.2.2) (em := [(1, 1), (2, 4), (3, 3)]) (fc := fun K => ce_X11_join S.1 K 0 x1 x2 x3 x4 S.2.1) (fm := fun K => qe_X13_join K x1 x2 x3 x4 S.2.2) h (by
    obtain ⟨⟨St, k⟩, -⟩ := id h.1
    exact w_monoE (b_join k) (fun rr hr => w_monoE hr (fun rc hb => both_3 h.1 hb))) (fun K => ff_X13_join) (fun K => ff_X11_join) (by decide) (fun g hg h9 => by unfold ciH at h9; omega)
  refine st_int (mp := (fun k z => if k = 1 then some (1, z) else if k = 4 then some (2, z) else if k = 3 then some (3, z) else none)) hc (fun j k hm => ?_)
  simp only [List.mem_cons, List.not_mem_nil, or_false, Prod.mk.injEq] at hm
  rcases hm with ⟨rfl, rfl⟩ | ⟨rfl, rfl⟩ | ⟨rfl, rfl⟩ <;> exact ⟨by decide, by decide, by decide, fun _ => rfl⟩
theorem st_figure : stp lst_figure := by
  intro S x1 x2 x3 x4 x5 h
  have hc := rel_of (vl := S.1) (y := S.2.1) (z := S.2.2) (em := [(1, 1), (2, 2)]) (fc := fun K => ce_X11_figure S.1 K 0 x1 x2 S.2.1) (fm := fun K => qe_X13_figure K x1 x2 S.2.2) h (by
    obtain ⟨⟨St, k⟩, -⟩ := id h.1
    exact w_monoE (b_figure k) (fun rr hr => w_monoE hr (fun rc hb => both_3 h.1 hb))) (fun K => ff_X13_figure) (fun K => ff_X11_figure) (by decide) (fun g hg h9 => by unfold ciH at h9; omega)
  refine st_int (mp := (fun k z => if k = 1 then some (1, z) else if k = 2 then some (2, z) else none)) hc (fun j k hm => ?_)
  simp only [List.mem_cons, List.not_mem_nil, or_false, Prod.mk.injEq] at hm
  rcases hm with ⟨rfl, rfl⟩ | ⟨rfl, rfl⟩ <;> exact ⟨by decide, by decide, by decide, fun _ => rfl⟩
theorem st_visit : stp lst_visit := by
  intro S x1 x2 x3 x4 x5 h
  have hc := rel_of (vl := S.1) (y := S.2.1) (z := S.2.2) (em := [(1, 1), (2, 2)]) (fc := fun K => ce_X11_visit S.1 K 0 x1 x2 x3 S.2.1) (fm := fun K => qe_X13_visit K x1 x2 x3 S.2.2) h (by
    obtain ⟨⟨St, k⟩, -⟩ := id h.1
    exact w_monoE (b_visit k) (fun rr hr => w_monoE hr (fun rc hb => both_3 h.1 hb))) (fun K => ff_X13_visit) (fun K => ff_X11_visit) (by decide) (fun g hg h9 => by unfold ciH at h9; omega)
  refine st_int (mp := (fun k z => if k = 1 then some (1, z) else if k = 2 then some (2, z) else none)) hc (fun j k hm => ?_)
  simp only [List.mem_cons, List.not_mem_nil, or_false, Prod.mk.injEq] at hm
  rcases hm with ⟨rfl, rfl⟩ | ⟨rfl, rfl⟩ <;> exact ⟨by decide, by decide, by decide, fun _ => rfl⟩
theorem st_linking : stp lst_linking := by
  intro S x1 x2 x3 x4 x5 h
  have hc := rel_of (vl := S.1) (y := S.2.1) (z := S.2.2) (em := [(1, 1), (2, 2)]) (fc := fun K => ce_X11_linking S.1 K 0 x1 x2 x3 S.2.1) (fm := fun K => qe_X13_linking K x1 x2 x3 S.2.2) h (by
    obtain ⟨⟨St, k⟩, -⟩ := id h.1
    exact w_monoE (b_linking k) (fun rr hr => w_monoE hr (fun rc hb => both_3 h.1 hb))) (fun K => ff_X13_linking) (fun K => ff_X11_linking) (by decide) (fun g hg h9 => by unfold ciH at h9; omega)
  refine st_int (mp := (fun k z => if k = 1 then some (1, z) else if k = 2 then some (2, z) else none)) hc (fun j k hm => ?_)
  simp only [List.mem_cons, List.not_mem_nil, or_false, Prod.mk.injEq] at hm
  rcases hm with ⟨rfl, rfl⟩ | ⟨rfl, rfl⟩ <;> exact ⟨by decide, by decide, by decide, fun _ => rfl⟩
theorem st_moves : stp lst_moves := by
  intro S x1 x2 x3 x4 x5 h
  have hc := rel_of (vl := S.1) (y := S.2.1) (z := S.2.2) (em := [(1, 1), (2, 2)]) (fc := fun K => ce_X11_moves S.1 K 0 x1 x2 S.2.1) (fm := fun K => qe_X13_moves K x1 x2 S.2.2) h (c_moves h.1) (fun K => ff_X13_moves) (fun K => ff_X11_moves) (by decide) (fun g hg h9 => by unfold ciH at h9; omega)
  refine st_int (mp := (fun k z => if k = 1 then some (1, z) else if k = 2 then some (2, z) else none)) hc (fun j k hm => ?_)
  simp only [List.mem_cons, List.not_mem_nil, or_false, Prod.mk.injEq] at hm
  rcases hm with ⟨rfl, rfl⟩ | ⟨rfl, rfl⟩ <;> exact ⟨by decide, by decide, by decide, fun _ => rfl⟩
theorem st_moved : stp lst_moved := by
  intro S x1 x2 x3 x4 x5 h
  have hc := rel_of (vl := S.1) (y := S.2.1) (z := S.2.2) (em := [(1, 1), (2, 3)]) (fc := fun K => ce_X11_moved S.1 K 0 x1 S.2.1) (fm := fun K => qe_X13_moved K x1 S.2.2) h (c_moved h.1) (fun K => ff_X13_moved) (fun K => ff_X11_moved) (by decide) (fun g hg h9 => by unfold ciH at h9; omega)
  refine st_int (mp := (fun k z => if k = 1 then some (1, z) else if k = 3 then some (2, z) else none)) hc (fun j k hm => ?_)
  simp only [List.mem_cons, List.not_mem_nil, or_false, Prod.mk.injEq] at hm
  rcases hm with ⟨rfl, rfl⟩ | ⟨rfl, rfl⟩ <;> exact ⟨by decide, by decide, by decide, fun _ => rfl⟩
theorem st_simplify : stp lst_simplify := by
  intro S x1 x2 x3 x4 x5 h
  have hc := rel_of (vl := S.1) (y := S.2.1) (z := S.2.2) (em := [(1, 1), (2, 3)]) (fc := fun K => ce_X11_simplify S.1 K 0 x1 S.2.1) (fm := fun K => qe_X13_simplify K x1 S.2.2) h (c_simplify h.1) (fun K => ff_X13_simplify) (fun K => ff_X11_simplify) (by decide) (fun g hg h9 => by unfold ciH at h9; omega)
  refine st_int (mp := (fun k z => if k = 1 then some (1, z) else if k = 3 then some (2, z) else none)) hc (fun j k hm => ?_)
  simp only [List.mem_cons, List.not_mem_nil, or_false, Prod.mk.injEq] at hm
  rcases hm with ⟨rfl, rfl⟩ | ⟨rfl, rfl⟩ <;> exact ⟨by decide, by decide, by decide, fun _ => rfl⟩
theorem st_summand : stp lst_summand := by
  intro S x1 x2 x3 x4 x5 h
  have hc := rel_of (vl := S.1) (y := S.2.1) (z := S.2.2) (em := [(1, 1), (2, 3)]) (fc := fun K => ce_X11_summand S.1 K 0 x1 S.2.1) (fm := fun K => qe_X13_summand K x1 S.2.2) h (c_summand h.1) (fun K => ff_X13_summand) (fun K => ff_X11_summand) (by decide) (fun g hg h9 => by unfold ciH at h9; omega)
  refine st_int (mp := (fun k z => if k = 1 then some (1, z) else if k = 3 then some (2, z) else none)) hc (fun j k hm => ?_)
  simp only [List.mem_cons, List.not_mem_nil, or_false, Prod.mk.injEq] at hm
  rcases hm with ⟨rfl, rfl⟩ | ⟨rfl, rfl⟩ <;> exact ⟨by decide, by decide, by decide, fun _ => rfl⟩
theorem st_diagram : stp lst_diagram := by
  intro S x1 x2 x3 x4 x5 h
  have hc := rel_of (vl := S.1) (y := S.2.1) (z := S.2.2) (em := [(1, 3)]) (fc := fun K => ce_X11_diagram S.1 K 0  S.2.1) (fm := fun K => qe_X13_diagram K  S.2.2) h (c_diagram h.1) (fun K => ff_X13_diagram) (fun K => ff_X11_diagram) (by decide) (fun g hg h9 => by unfold ciH at h9; omega)
  refine st_int (mp := (fun k z => if k = 3 then some (1, z) else none)) hc (fun j k hm => ?_)
  simp only [List.mem_cons, List.not_mem_nil, or_false, Prod.mk.injEq] at hm
  rcases hm with ⟨rfl, rfl⟩ <;> exact ⟨by decide, by decide, by decide, fun _ => rfl⟩
theorem st_feed : stp lst_feed := by
  intro S x1 x2 x3 x4 x5 h
  have hc := rel_of (vl := S.1) (y := S.2.1) (z := S.2.2) (em := [(1, 3)]) (fc := fun K => ce_X11_feed S.1 K 0 x1 x2 x3 x4 x5 S.2.1) (fm := fun K => qe_X13_feed K x1 x2 x3 x4 x5 S.2.2) h (c_feed h.1) (fun K => ff_X13_feed) (fun K => ff_X11_feed) (by decide) (fun g hg h9 => by unfold ciH at h9; omega)
  refine st_int (mp := (fun k z => if k = 3 then some (1, z) else none)) hc (fun j k hm => ?_)
  simp only [List.mem_cons, List.not_mem_nil, or_false, Prod.mk.injEq] at hm
  rcases hm with ⟨rfl, rfl⟩ <;> exact ⟨by decide, by decide, by decide, fun _ => rfl⟩
theorem st_braid : stp lst_braid := by
  intro S x1 x2 x3 x4 x5 h
  have hc := rel_of (vl := S.1) (y := S.2.1) (z := S.2.2) (em := [(1, 2), (2, 3)]) (fc := fun K => ce_X11_braid S.1 K 0 x1 S.2.1) (fm := fun K => qe_X13_braid K x1 S.2.2) h (c_braid h.1) (fun K => ff_X13_braid) (fun K => ff_X11_braid) (by decide) (fun g hg h9 => by unfold ciH at h9; omega)
  refine st_int (mp := (fun k z => if k = 2 then some (1, z) else if k = 3 then some (2, z) else none)) hc (fun j k hm => ?_)
  simp only [List.mem_cons, List.not_mem_nil, or_false, Prod.mk.injEq] at hm
  rcases hm with ⟨rfl, rfl⟩ | ⟨rfl, rfl⟩ <;> exact ⟨by decide, by decide, by decide, fun _ => rfl⟩
theorem st_closure : stp lst_closure := by
  intro S x1 x2 x3 x4 x5 h
  have hc := rel_of (vl := S.1) (y := S.2.1) (z := S.2.2) (em := [(1, 1), (2, 4), (3, 3)]) (fc := fun K => ce_X11_closure S.1 K 0 x1 S.2.1) (fm := fun K => qe_X13_closure K x1 S.2.2) h (c_closure h.1) (fun K => ff_X13_closure) (fun K => ff_X11_closure) (by decide) (fun g hg h9 => by unfold ciH at h9; omega)
  refine st_int (mp := (fun k z => if k = 1 then some (1, z) else if k = 4 then some (2, z) else if k = 3 then some (3, z) else none)) hc (fun j k hm => ?_)
  simp only [List.mem_cons, List.not_mem_nil, or_false, Prod.mk.injEq] at hm
  rcases hm with ⟨rfl, rfl⟩ | ⟨rfl, rfl⟩ | ⟨rfl, rfl⟩ <;> exact ⟨by decide, by decide, by decide, fun _ => rfl⟩
theorem st_product : stp lst_product := by
  intro S x1 x2 x3 x4 x5 h
  have hc := rel_of (vl := S.1) (y := S.2.1) (z := S.2.2) (em := [(1, 1), (2, 2), (3, 4), (4, 3)]) (fc := fun K => ce_X11_product S.1 K 0 x1 x2 S.2.1) (fm := fun K => qe_X13_product K x1 x2 S.2.2) h (c_product h.1) (fun K => ff_X13_product) (fun K => ff_X11_product) (by decide) (fun g hg h9 => by unfold ciH at h9; omega)
  refine st_int (mp := (fun k z => if k = 1 then some (1, z) else if k = 2 then some (2, z) else if k = 4 then some (3, z) else if k = 3 then some (4, z) else none)) hc (fun j k hm => ?_)
  simp only [List.mem_cons, List.not_mem_nil, or_false, Prod.mk.injEq] at hm
  rcases hm with ⟨rfl, rfl⟩ | ⟨rfl, rfl⟩ | ⟨rfl, rfl⟩ | ⟨rfl, rfl⟩ <;> exact ⟨by decide, by decide, by decide, fun _ => rfl⟩
theorem st_inverse : stp lst_inverse := by
  intro S x1 x2 x3 x4 x5 h
  have hc := rel_of (vl := S.1) (y := S.2.1) (z := S.2.2) (em := [(1, 1), (2, 3)]) (fc := fun K => ce_X11_inverse S.1 K 0 x1 S.2.1) (fm := fun K => qe_X13_inverse K x1 S.2.2) h (c_inverse h.1) (fun K => ff_X13_inverse) (fun K => ff_X11_inverse) (by decide) (fun g hg h9 => by unfold ciH at h9; omega)
  refine st_int (mp := (fun k z => if k = 1 then some (1, z) else if k = 3 then some (2, z) else none)) hc (fun j k hm => ?_)
  simp only [List.mem_cons, List.not_mem_nil, or_false, Prod.mk.injEq] at hm
  rcases hm with ⟨rfl, rfl⟩ | ⟨rfl, rfl⟩ <;> exact ⟨by decide, by decide, by decide, fun _ => rfl⟩
theorem st_alike : stp lst_alike := fun S x1 x2 x3 x4 x5 h => st_bool (vl := S.1) (y := S.2.1) (z := S.2.2) (fc := fun K => ce_X11_alike S.1 K 0 x1 x2 S.2.1) (fm := fun K => qe_X13_alike K x1 x2 S.2.2) h (by
    obtain ⟨⟨St, k⟩, -⟩ := id h.1
    exact w_monoE (b_alike k) (fun rr hr => w_monoE hr (fun rc hb => both_Z h.1 hb))) (fun K => ff_X13_alike) (fun K => ff_X11_alike) (by decide) (fun g hg h9 => by unfold ciH at h9; exact hg)
theorem st_drop : stp lst_drop := fun S x1 x2 x3 x4 x5 h => st_bool (vl := S.1) (y := S.2.1) (z := S.2.2) (fc := fun K => ce_X11_drop S.1 K 0 x1 S.2.1) (fm := fun K => qe_X13_drop K x1 S.2.2) h (by
    obtain ⟨⟨St, k⟩, hM, -⟩ := id h.1
    exact w_monoE (b_drop k hM) (fun rr hr => w_monoE hr (fun rc hb => both_Z h.1 hb.1))) (fun K => ff_X13_drop) (fun K => ff_X11_drop) (by decide) (fun g hg h9 => by unfold ciH at h9; omega)
theorem st_dropBraid : stp lst_dropBraid := fun S x1 x2 x3 x4 x5 h => st_bool (vl := S.1) (y := S.2.1) (z := S.2.2) (fc := fun K => ce_X11_dropBraid S.1 K 0 x1 S.2.1) (fm := fun K => qe_X13_dropBraid K x1 S.2.2) h (c_dropBraid h.1) (fun K => ff_X13_dropBraid) (fun K => ff_X11_dropBraid) (by decide) (fun g hg h9 => by unfold ciH at h9; omega)
end XSS
section XSJ
variable {vl : Nat → Nat} {y : ow_MS}
theorem tc_jonesK {x x' : Int32} (hM : gM y) (hk : jnC y) (hn : knC y) : Te (fun K => ce_X11_jones vl K 0 x x' y) (fun r => knC r.2.2) := by
  refine e_X11_jones ?_; unfold cm_X11_jones_0
  refine w_tc0 (tc_need hM.1.1) ?_ ?_
  · rintro y1 ⟨h1, rfl⟩
    rcases h1 with ⟨-, d, A, sg, c, hd, rfl, hs, hA, hne⟩ | h1
    · obtain ⟨T, hT, hT2⟩ := hM.1.2.1 40000 nH40
      refine w_cs0 (tc_countStates ch_1000 (by omega) hd hs hA hM.1.1.1 hk hT hT2) ?_
      rintro y2 ⟨g1, g2, g3, g4, g5, g6⟩
      obtain ⟨S, G, q1, q2, q3⟩ := id g2
      refine w_cs1 (tc_jonesAt hA.2.2.2.1 q2) ?_
      rintro v z ⟨e1, e2⟩
      dsimp only at e1 e2
      rw [e2]
      refine w_some ⟨g5 hn.1, fun s hs => ?_, c, hA.2.2.2.1, q2⟩
      rcases (show s = 0 ∨ s = 1 by omega) with e | e
      · obtain ⟨C, c1, c2⟩ := hn.2.1 0 (by omega)
        rw [e]
        exact ⟨C, g4 C c2 c1, c2⟩
      · rw [e]
        exact ⟨_, g1, (okL_c hA).2⟩
    · exact absurd (show (0 : Nat) = 1 from h1.1) (by decide)
  · rintro a y1 ha ⟨h1, rfl⟩
    rcases h1 with ⟨h1, -⟩ | ⟨h1, h2⟩
    · exact absurd h1 ha
    · exact w_some hn
theorem st_jones : stp lst_jones := by
  intro S x1 x2 x3 x4 x5 h
  have hc : Te (fun K => qe_X13_jones K x1 x2 S.2.2) (fun rr => Te (fun K => ce_X11_jones S.1 K 0 x1 x2 S.2.1) (fun rc => REL (S.1, rc.2.2, rr.2) ∧ ansI [(1, 1)] rr rc)) := by
    obtain ⟨h1, ⟨i1, i2, i3, i4, i5, i6, i7, i8⟩, h3⟩ := id h
    refine w_monoE (c_jones (vl := S.1) (x := x1) (x' := x2) h1 ⟨h3, i2, i3⟩) (fun rr hr => w_monoE (te_and hr (tc_jonesK (vl := S.1) (x := x1) (x' := x2) h1.2.1 i2 i1)) (fun rc ⟨⟨⟨q1, q2⟩, ⟨j1, j2, j3⟩, f1, f2⟩, q3⟩ => ⟨⟨q1, ⟨q3, j2, j3, ?_, ?_, ?_, ?_, i8⟩, j1⟩, q2⟩))
    · exact mpC_fr f2 (by unfold jnP; omega) i4
    · obtain ⟨k, k1, k2, k3⟩ := i5
      refine ⟨k, k1, by rw [(f2 41010 (by unfold jnP; omega)).1]; exact k2, fun s hs => ?_⟩
      rw [(f2 41012 (by unfold jnP; omega)).2.1, (f2 41013 (by unfold jnP; omega)).2.1, (f2 41014 (by unfold jnP; omega)).2.1]
      exact k3 s hs
    · intro m hm
      rw [(f2 43005 (by unfold jnP; omega)).2.1]
      exact i6 m hm
    · intro i k hi hk
      rw [(f2 (45001 + i) (by unfold jnP; omega)).2.1]
      exact i7 i k hi hk
  refine st_int (mp := (fun k z => if k = 1 then some (1, z) else none)) hc (fun j k hm => ?_)
  simp only [List.mem_cons, List.not_mem_nil, or_false, Prod.mk.injEq] at hm
  obtain ⟨rfl, rfl⟩ := hm
  exact ⟨by decide, by decide, by decide, fun _ => rfl⟩
end XSJ
end
section
/-! 99zzzzzzzzzzzzo.xst2 -/
/-! the law's loop: what is left of the whole -/
section XLP
theorem te_if {O : Type} {c : Prop} [Decidable c] {f g : Nat → Option O} {Q : O → Prop} (h1 : c → Te f Q) (h2 : ¬ c → Te g Q) : Te (fun K => if c then f K else g K) Q := by
  by_cases h : c
  · obtain ⟨r, ⟨b, hb⟩, hQ⟩ := h1 h
    exact ⟨r, ⟨b, fun K hK => (if_pos h).trans (hb K hK)⟩, hQ⟩
  · obtain ⟨r, ⟨b, hb⟩, hQ⟩ := h2 h
    exact ⟨r, ⟨b, fun K hK => (if_neg h).trans (hb K hK)⟩, hQ⟩
theorem rel_phi {S : ow_LwS} (h : REL S) : dPhi S.1 ≤ 2800000 := by
  obtain ⟨-, ⟨-, -, -, -, -, -, -, W, C, hv⟩, -⟩ := h
  have := vI_phi hv
  obtain ⟨-, -, -, -, -, -, h1, h2, h3, h4⟩ := hv
  omega
theorem x63 {x : Int32} (h : ¬ (x.toInt < 0 ∨ 38 < x.toInt)) : ∃ i, i < 39 ∧ x = nI i := by
  refine ⟨x.toInt.toNat, by omega, ?_⟩
  refine Int32.toInt_inj.mp ?_
  rw [nI_toInt (by omega)]
  omega
end XLP
end
section
/-! 99zzzzzzzzzzzzp.xnm -/
/-! what the class keeps are codes of their own lists -/
def cdNm (C : cdT) : Prop := ∃ A sg c, okL A c ∧ C = clC sg A ∧ nrm A sg
def NM (y : ow_MS) : Prop := nmC y ∧ (∀ Cs os, tbO y 2000 1848 Cs os → ∀ C, C ∈ Cs → cdNm C) ∧ ∀ Cs os, tbO y 3000 12 Cs os → ∀ C, C ∈ Cs → cdNm C
section XNM
variable {vl : Nat → Nat} {y y1 y3 : ow_MS} {St : plT} {P : Nat → Prop} {x x' : Int32} {e : Nat} {A A2 : rn_L} {sg sg' sg2 : Nat → Bool} {c : Nat}
theorem fr_sym (h : fr P y y1) : fr P y1 y := fun g hg => ⟨(h g hg).1.symm, (h g hg).2.1.symm, (h g hg).2.2.symm⟩
theorem nrm_sg (h : nrm A sg) (hA : okL A c) (e : clC sg' A = clC sg A) : nrm A sg' := by
  obtain ⟨T, g, Ds, qs, h1, h2, h3, h4, h5⟩ := h
  obtain ⟨-, -, q⟩ := clC_inj hA hA e
  exact ⟨T, g, Ds, qs, h1, h2, isoV_sg h3 (fun p hp => q p.1 ((hA.1.2 p).mp hp).1), h4, h5.trans e.symm⟩
theorem len_cl (hne : A ≠ []) : 0 < (clC sg A).2.length := by
  show 0 < (ucd sg 0 [] A).length
  rw [ucd_len]
  have := List.length_pos_iff.mpr hne
  omega
/-- a place of the class by the table of places -/
theorem pl_of9 (hC : relC y St) (hS : okS St) {d : Nat} (hd : d < 40) (hs : slC y 1000 d (clC sg A)) (hA : okL A c) (hne : A ≠ []) : ∃ sg2, St d = some (A, sg2) ∧ clC sg A = clC sg2 A := by
  have ok := (okL_c (sg := sg) hA).2
  have hl := len_cl (sg := sg) hne
  cases e : St d with
  | none =>
    have h9 := (hC d hd).1 e
    have h8 : y.2.1 1002 d = nI (clC sg A).2.length := hs.2.1
    rw [h8] at h9
    have := nI_inj9 (a := (clC sg A).2.length) (b := 0) (by have := ok.2.1; omega) (by omega) h9
    omega
  | some P =>
    obtain ⟨k1, k2, c', k3⟩ := hS d P.1 P.2 hd e
    have eC := slC_uni ok (okL_c k3).2 hs ((hC d hd).2 P.1 P.2 e)
    obtain ⟨q1, q2, q3⟩ := clC_inj hA k3 eC
    exact ⟨P.2, by rw [q1], by rw [eC, q1]⟩
/-- the same places -/
theorem nm_same (hC : relC y St) (hC1 : relC y1 St) (hS : okS St) (h : nmC y) : nmC y1 := by
  intro d A sg c hd hs hA hne
  obtain ⟨sg2, h1, h2⟩ := pl_of9 hC1 hS hd hs hA hne
  exact nrm_sg (h d A sg2 c hd ((hC d hd).2 A sg2 h1) hA hne) hA h2
/-- one place more -/
theorem nm_put (hC : relC y St) (hC1 : relC y1 (upP St e (some (A2, sg2)))) (hS : okS St) (hS1 : okS (upP St e (some (A2, sg2)))) (hn : nrm A2 sg2) (h : nmC y) : nmC y1 := by
  intro d A sg c hd hs hA hne
  obtain ⟨sg3, h1, h2⟩ := pl_of9 hC1 hS1 hd hs hA hne
  by_cases ed : d = e
  · subst ed
    rw [show upP St d (some (A2, sg2)) d = some (A2, sg2) from if_pos rfl] at h1
    cases h1
    exact nrm_sg hn hA h2
  · rw [show upP St e (some (A2, sg2)) d = St d from if_neg ed] at h1
    exact nrm_sg (h d A sg3 c hd ((hC d hd).2 A sg3 h1) hA hne) hA h2
theorem nm_kp {r : Int32 × ow_MS} (hN : dgC y) (hC : relC y St) (hS : okS St) (h : nmC y) (hk : cKp y e A2 sg2 r) : nmC r.2 := by
  obtain ⟨c1, c2, c3, ⟨T, f, Cs, os, t1, t2, t3, t4, t5, t6⟩, c4⟩ := hk
  have h6 : A2.length ≤ 6 := by
    have := iso_rge (isoS_iff.mp t3.1) t1.1
    have := t1.2.2.2
    omega
  obtain ⟨m, P, m1⟩ := mk_ex A2
  obtain ⟨A', sg', p1, p2, p3, p4, f', p5⟩ := enc_iso (isoS_iff.mp t3.1) h6 t1 m1 t5
  have hn : nrm A' sg' := ⟨T, f', Cs, os, t1, t2, p5, t5, p3⟩
  have hC1 : relC r.2 (upP St e (some (A', sg'))) := relC_put hN hC hS (by rw [← p3]; exact t6) c4
  intro d A sg c hd hs hA hne
  have ok := (okL_c (sg := sg) hA).2
  have hl := len_cl (sg := sg) hne
  by_cases ed : d = e
  · subst ed
    have hs2 := (hC1 d hd).2 A' sg' (if_pos rfl)
    have eC := slC_uni ok (okL_c p2).2 hs hs2
    obtain ⟨q1, q2, q3⟩ := clC_inj hA p2 eC
    subst q1
    exact nrm_sg hn hA eC
  · have eu : upP St e (some (A', sg')) d = St d := if_neg ed
    cases e9 : St d with
    | none =>
      have h9 := (hC1 d hd).1 (by rw [eu]; exact e9)
      have h8 : r.2.2.1 1002 d = nI (clC sg A).2.length := hs.2.1
      rw [h8] at h9
      have := nI_inj9 (a := (clC sg A).2.length) (b := 0) (by have := ok.2.1; omega) (by omega) h9
      omega
    | some Q =>
      obtain ⟨k1, k2, c', k3⟩ := hS d Q.1 Q.2 hd e9
      have hs2 := (hC1 d hd).2 Q.1 Q.2 (by rw [eu]; exact e9)
      have eC := slC_uni ok (okL_c k3).2 hs hs2
      obtain ⟨q1, q2, q3⟩ := clC_inj hA k3 eC
      subst q1
      exact nrm_sg (h d Q.1 Q.2 c' hd ((hC d hd).2 Q.1 Q.2 e9) k3 k1) hA eC
theorem NM_fr (hf : fr P y y1) (hP : ∀ g, P g → ¬ (1001 ≤ g ∧ g ≤ 1003 ∨ 2001 ≤ g ∧ g ≤ 2005 ∨ 3001 ≤ g ∧ g ≤ 3005)) (h : NM y) : NM y1 := by
  have hb := fr_sym hf
  obtain ⟨h1, h2, h3⟩ := h
  refine ⟨fun d A sg c hd hs hA hne => h1 d A sg c hd (slC_fr hb (fun q hq h9 => hP q h9 (by unfold cW at hq; omega)) hs) hA hne, fun Cs os ht => h2 Cs os (tbO_fr hb (fun q hq h9 => hP q h9 (by unfold cV at hq; omega)) ht), fun Cs os ht => h3 Cs os (tbO_fr hb (fun q hq h9 => hP q h9 (by unfold cV at hq; omega)) ht)⟩
/-- the lists, where a call changes the places alone -/
theorem NM_pl (hf : fr P y y1) (hP : ∀ g, P g → ¬ (2001 ≤ g ∧ g ≤ 2005 ∨ 3001 ≤ g ∧ g ≤ 3005)) (hn : nmC y1) (h : NM y) : NM y1 := by
  have hb := fr_sym hf
  exact ⟨hn, fun Cs os ht => h.2.1 Cs os (tbO_fr hb (fun q hq h9 => hP q h9 (by unfold cV at hq; omega)) ht), fun Cs os ht => h.2.2 Cs os (tbO_fr hb (fun q hq h9 => hP q h9 (by unfold cV at hq; omega)) ht)⟩
theorem tab_uni {g : Nat} {Cs Ds : List cdT} {os qs : List Nat} (h1 : tabC y g Cs os) (h2 : tabC y g Ds qs) (l1 : os.length < 2 ^ 31) (l2 : qs.length < 2 ^ 31) : Cs = Ds := by
  have hl : os.length = qs.length := nI_inj9 l1 l2 (h1.1.symm.trans h2.1)
  refine List.ext_getElem? (fun i => ?_)
  by_cases hi : i < Cs.length
  · have hi2 : i < Ds.length := by have := h1.2.1; have := h2.2.1; omega
    obtain ⟨a1, a2⟩ := h1.2.2.1 i _ (List.getElem?_eq_getElem hi)
    obtain ⟨b1, b2⟩ := h2.2.2.1 i _ (List.getElem?_eq_getElem hi2)
    rw [List.getElem?_eq_getElem hi, List.getElem?_eq_getElem hi2, slC_uni a2 b2 a1 b1]
  · rw [List.getElem?_eq_none (by omega), List.getElem?_eq_none (by have := h1.2.1; have := h2.2.1; omega)]
theorem mv_cdNm {R : ow_NT} {kd j : Nat} {C : cdT} (hR : nxC A sg c R) (hpl : plnA A sg) (hne : A ≠ []) (hk : kd < 5) (hj : j < mv_cnt R.1 kd) (hD : mvD kd R j C) : cdNm C := by
  obtain ⟨hV, hp, hpn, ec⟩ := nx_iso hR hpl
  have h6 := hR.1.2.2.2.2
  have mb := mb_all hV hp h6 hpn hk
  obtain ⟨F, P, Q, Ds, qs, d1, d2, d3, d4, rfl⟩ := hD
  obtain ⟨A', sg', hO, hall⟩ := mb.1 j hj ⟨F, P, Q, d1, d2, d3⟩
  obtain ⟨-, f, hf⟩ := hall F P Q d1 d2
  obtain ⟨m, Pp, hmk⟩ := mk_ex A'
  obtain ⟨B, sB, cB, o1, o2, -, -, -, o6⟩ := jnN9 hR.2.2.1 hp hpn h6 hne hk hO hj d1 d2 d3 hf d4 ⟨m, Pp, hmk, rfl⟩
  exact ⟨B, sB, cB, o1, o2, o6⟩
end XNM
section XNC
variable {X : (Nat → Nat → Int32) → Prop} {vl : Nat → Nat} {z y : ow_MS} {x x' : Int32}
theorem nm_mirror (h : rel3 X z y) (hm : nmC y) : Te (fun K => ce_X11_mirror vl K 0 x y) (fun r => nmC r.2.2) := by
  obtain ⟨⟨St, k⟩, -⟩ := id h
  refine w_monoE (xc_mirror k.2.1 k.2.2.2.1 k.2.2.2.2) (fun r hr => ?_)
  rcases hr with ⟨-, -, -, q, -⟩ | ⟨d, A, sg, hd, -, hSt, hr⟩
  · exact nm_same k.2.2.2.1 q k.2.2.2.2 hm
  · rcases hr with ⟨-, -, -, q, -⟩ | ⟨-, e, he, q⟩
    · exact nm_same k.2.2.2.1 q k.2.2.2.2 hm
    · exact nm_kp k.2.1.1 k.2.2.2.1 k.2.2.2.2 hm q
theorem nm_change (h : rel3 X z y) (hm : nmC y) : Te (fun K => ce_X11_change vl K 0 x x' y) (fun r => nmC r.2.2) := by
  obtain ⟨⟨St, k⟩, -⟩ := id h
  refine w_monoE (xc_change k.2.1 k.2.2.2.1 k.2.2.2.2) (fun r hr => ?_)
  rcases hr with ⟨-, -, -, q, -⟩ | ⟨d, A, sg, hd, -, hSt, hr⟩
  · exact nm_same k.2.2.2.1 q k.2.2.2.2 hm
  · rcases hr with ⟨-, -, -, q, -⟩ | ⟨k9, -, -, hr⟩
    · exact nm_same k.2.2.2.1 q k.2.2.2.2 hm
    · rcases hr with ⟨-, -, -, q, -⟩ | ⟨-, e, he, q⟩
      · exact nm_same k.2.2.2.1 q k.2.2.2.2 hm
      · exact nm_kp k.2.1.1 k.2.2.2.1 k.2.2.2.2 hm q
theorem nm_reverse (h : rel3 X z y) (hm : nmC y) : Te (fun K => ce_X11_reverse vl K 0 x x' y) (fun r => nmC r.2.2) := by
  obtain ⟨⟨St, k⟩, -⟩ := id h
  refine w_monoE (xc_reverse k.2.1 k.2.2.2.1 k.2.2.2.2) (fun r hr => ?_)
  rcases hr with ⟨-, -, -, q, -⟩ | ⟨d, A, sg, hd, -, hSt, hr⟩
  · exact nm_same k.2.2.2.1 q k.2.2.2.2 hm
  · rcases hr with ⟨-, -, -, q, -⟩ | ⟨-, hr⟩
    · exact nm_same k.2.2.2.1 q k.2.2.2.2 hm
    · rcases hr with ⟨-, -, -, q, -⟩ | ⟨-, e, he, q⟩
      · exact nm_same k.2.2.2.1 q k.2.2.2.2 hm
      · exact nm_kp k.2.1.1 k.2.2.2.1 k.2.2.2.2 hm q
theorem nm_apart (h : rel3 X z y) (hm : nmC y) : Te (fun K => ce_X11_apart vl K 0 x x' y) (fun r => nmC r.2.2) := by
  obtain ⟨⟨St, k⟩, -⟩ := id h
  refine w_monoE (xc_apart k.2.1 k.2.2.2.1 k.2.2.2.2) (fun r hr => ?_)
  rcases hr with ⟨-, -, -, q, -⟩ | ⟨d, A, sg, e, B, sg', hd, -, hSt, -, -, -, hr⟩
  · exact nm_same k.2.2.2.1 q k.2.2.2.2 hm
  · rcases hr with ⟨-, -, -, q, -⟩ | ⟨-, -, hr⟩
    · exact nm_same k.2.2.2.1 q k.2.2.2.2 hm
    · rcases hr with ⟨-, -, -, q, -⟩ | ⟨-, f, hf, q⟩
      · exact nm_same k.2.2.2.1 q k.2.2.2.2 hm
      · exact nm_kp k.2.1.1 k.2.2.2.1 k.2.2.2.2 hm q
theorem nm_smooth (h : rel3 X z y) (hm : nmC y) : Te (fun K => ce_X11_smooth vl K 0 x x' y) (fun r => nmC r.2.2) := by
  obtain ⟨⟨St, k⟩, -⟩ := id h
  refine w_monoE (xc_smooth k.2.1 k.2.2.2.1 k.2.2.2.2) (fun r hr => ?_)
  rcases hr with ⟨-, -, -, q, -⟩ | ⟨d, A, sg, hd, -, hSt, hr⟩
  · exact nm_same k.2.2.2.1 q k.2.2.2.2 hm
  · rcases hr with ⟨-, -, -, q, -⟩ | ⟨k9, v, w, -, -, -, hr⟩
    · exact nm_same k.2.2.2.1 q k.2.2.2.2 hm
    · rcases hr with ⟨-, -, -, q, -⟩ | ⟨-, hr⟩
      · exact nm_same k.2.2.2.1 q k.2.2.2.2 hm
      · rcases hr with ⟨-, -, -, q, -⟩ | ⟨-, e, he, q⟩
        · exact nm_same k.2.2.2.1 q k.2.2.2.2 hm
        · exact nm_kp k.2.1.1 k.2.2.2.1 k.2.2.2.2 hm q
theorem nm_join {v0 w0 : Int32} (h : rel3 X z y) (hm : nmC y) : Te (fun K => ce_X11_join vl K 0 x v0 x' w0 y) (fun r => nmC r.2.2) := by
  obtain ⟨⟨St, k⟩, -⟩ := id h
  refine w_monoE (xc_join k.2.1 k.2.2.2.1 k.2.2.2.2) (fun r hr => ?_)
  rcases hr with ⟨-, -, -, q, -⟩ | ⟨A, sg, B, sg', v, w, -, hr⟩
  · exact nm_same k.2.2.2.1 q k.2.2.2.2 hm
  · rcases hr with ⟨-, -, -, q, -⟩ | ⟨-, -, hr⟩
    · exact nm_same k.2.2.2.1 q k.2.2.2.2 hm
    · rcases hr with ⟨-, -, -, q, -⟩ | ⟨-, f, hf, q⟩
      · exact nm_same k.2.2.2.1 q k.2.2.2.2 hm
      · exact nm_kp k.2.1.1 k.2.2.2.1 k.2.2.2.2 hm q
theorem nm_eq {y1 : ow_MS} (e : y1 = y) (hm : nmC y) : nmC y1 := by
  rw [e]
  exact hm
theorem nm_closure (h : rel3 X z y) (hm : nmC y) : Te (fun K => ce_X11_closure vl K 0 x y) (fun r => nmC r.2.2) := by
  obtain ⟨⟨St, k⟩, -, h2⟩ := id h
  have hB := h2.2.2.1
  have hb := h2.2.1
  rcases br_cs k.1 x with hn | ⟨b, n, l, hb20, rfl, hh⟩
  · exact w_monoE (xc_closure0 (St := St) k.2.1 k.2.2.2.1 hB (noB_iff hb hn)) (fun r hr => nm_eq hr.2 hm)
  · obtain ⟨w, lp, w1, w2, w3, w4⟩ := ltX_of hh hb20 hb
    obtain ⟨rr, -, hr⟩ := xq_closure k.1 k.2.2.1 hb20 hh w1
    have p1 := hh.1
    have p2 := hh.2.1
    have p3 := hh.2.2.1
    have lo : ∀ {Rs : List (List Nat)}, (∀ e, lstF St e → clQ w n l Rs ∧ ∀ s, s < n → s ∈ Rs.flatten) ∨ 12 < l → Te (fun K => ce_X11_closure vl K 0 (nI b) y) (fun r => nmC r.2.2) := by
      intro Rs hq
      refine w_monoE (xc_closure (Rs := Rs) k.2.1 k.2.2.2.1 k.2.2.2.2 hB hb20 p1 p2 w3 p3 w4 w2) (fun rc hc => ?_)
      rcases hc with ⟨-, c2, -⟩ | ⟨c3, hc⟩
      · exact nm_eq c2 hm
      · rcases hc with ⟨-, c2, -⟩ | ⟨c0, f, c1, c2⟩
        · exact nm_eq c2 hm
        · rcases hq with hq | hq
          · exact nm_kp k.2.1.1 k.2.2.2.1 k.2.2.2.2 hm (c2 (hq f c1).1 (hq f c1).2)
          · omega
    rcases hr with ⟨-, r2⟩ | ⟨r0, hr⟩
    · exact lo (Rs := []) (Or.inr r2)
    · rcases hr with ⟨-, r2⟩ | ⟨e, Rs, z4, r1, r2, r3, r4, r5, r6⟩
      · exact lo (Rs := []) (Or.inl (fun e he => (all_lst r2 he).elim))
      · exact lo (Rs := Rs) (Or.inl (fun e he => ⟨r2, r4⟩))
theorem nm_diagram (h : rel3 X z y) (hm : nmC y) : Te (fun K => ce_X11_diagram vl K 0 y) (fun r => nmC r.2.2) := by
  obtain ⟨⟨St, k⟩, hM, h2⟩ := id h
  obtain ⟨t, t1, t2, t3, t4⟩ := id h2.1
  obtain ⟨R, hR⟩ : ∃ R, rdF9 (fun k => z.2.1 10 k) t (t + 1) 0 [] [] [] = R := ⟨_, rfl⟩
  have hbc : ∀ k, k < t → y.2.1 11002 k = (fun k => z.2.1 10 k) k := fun k hk => (t4 k hk).symm
  refine w_monoE (xc_diagram (St := St) hM k.2.2.2.1 k.2.2.2.2 t1 t3 hbc hR) (fun r hr => ?_)
  rcases hr with ⟨-, c2, -⟩ | ⟨-, -, e, he, hc⟩
  · exact nm_eq c2 hm
  · cases hRR : R with
    | inl j =>
      rw [hRR] at hc
      exact nm_same k.2.2.2.1 hc.2 k.2.2.2.2 hm
    | inr q =>
      obtain ⟨nm, A⟩ := q
      rw [hRR] at hc
      rcases hc with ⟨a, -, -, c4⟩ | ⟨-, T, -, -, -, hc⟩
      · exact nm_same k.2.2.2.1 c4 k.2.2.2.2 hm
      · rcases hc with ⟨-, -, c4⟩ | ⟨-, y3, d3, c3, c4⟩
        · exact nm_same k.2.2.2.1 c4 k.2.2.2.2 hm
        · exact nm_kp d3 c3 k.2.2.2.2 (nm_same k.2.2.2.1 c3 k.2.2.2.2 hm) c4
theorem nm_drop (h : rel3 X z y) (hm : nmC y) : Te (fun K => ce_X11_drop vl K 0 x y) (fun r => nmC r.2) := by
  refine w_monoE (tc_drop2 h.2.1) (fun r hr => ?_)
  rcases hr.2 with ⟨-, d, A, sg, c, hd, -, -, -, -, e⟩ | ⟨-, -, e⟩
  · rw [e]
    intro d' A' sg' c' hd' hs hA hne
    have ok := (okL_c (sg := sg') hA).2
    have hl := len_cl (sg := sg') hne
    by_cases ed : d' = d
    · have h8 : (usI y 1002 d 0).2.1 1002 d' = nI (clC sg' A').2.length := hs.2.1
      rw [ed, po_usI_at] at h8
      have := nI_inj9 (a := 0) (b := (clC sg' A').2.length) (by omega) (by have := ok.2.1; omega) h8
      omega
    · refine hm d' A' sg' c' hd' ⟨?_, ?_, fun i a hi => ?_⟩ hA hne
      · have := hs.1
        exact (rd_ot (show (1000 + 3 : Nat) ≠ 1002 by omega) rfl).symm.trans this
      · have := hs.2.1
        exact (rd_ne ed rfl).symm.trans this
      · have := hs.2.2 i a hi
        exact (rd_ot (show (1000 + 1 : Nat) ≠ 1002 by omega) rfl).symm.trans this
  · exact nm_eq e hm
/-- moved, summand: copied out of a list -/
theorem nm_copy {g p : Nat} {Ms : List (rn_L × (Nat → Bool))} (h : rel3 X z y) (hm : nmC y) (hg : tH g p) (hg2 : g = 2000 ∨ g = 3000) (hM : rlC g p y Ms) (hO : okM Ms) (hL : ∀ Cs os, tbO y g p Cs os → ∀ C, C ∈ Cs → cdNm C) : Te (fun K => ce_X11_copyOut vl K 0 g x y) (fun r => nmC r.2.2) := by
  obtain ⟨⟨St, k⟩, hG, h2⟩ := id h
  refine w_monoE (xc_copyOut hg hg2 hM hO hG k.2.2.2.1 k.2.2.2.2) (fun r hr => ?_)
  rcases hr.2 with ⟨-, e, -⟩ | ⟨j, A, sg, hj, -, hr⟩
  · exact nm_eq e hm
  · rcases hr with ⟨-, e, -⟩ | ⟨-, e, he, -, -, hC1⟩
    · exact nm_eq e hm
    · obtain ⟨Cs, os, t1, t2, t3⟩ := hM
      have hjl := (List.getElem?_eq_some_iff.mp hj).1
      obtain ⟨A3, s3, c3, o1, o2, o3⟩ := hL Cs os t1 _ (at_in t1.1.2.1 (tabC_os t1.1) (k := j) (by omega))
      obtain ⟨k1, k2, c, k3⟩ := hO j A sg hj
      have eC : clC sg A = clC s3 A3 := (t3 j A sg hj).symm.trans o2
      obtain ⟨q1, q2, q3⟩ := clC_inj k3 o1 eC
      subst q1
      exact nm_put k.2.2.2.1 hC1 k.2.2.2.2 (okS_put k.2.2.2.2 ⟨k1, k2, c, k3⟩) (nrm_sg o3 k3 eC) hm
theorem nm_simplify (h : rel3 X z y) (hm : nmC y) : Te (fun K => ce_X11_simplify vl K 0 x y) (fun r => nmC r.2.2) := by
  obtain ⟨⟨St, k⟩, hM, h2⟩ := id h
  refine w_monoE (xc_simplify hM k.2.2.2.1 k.2.2.2.2) (fun r hr => ?_)
  rcases hr with ⟨-, e, -⟩ | ⟨d, A, sg, c, hd, -, hSt, hA, hne, hpl, hr⟩
  · exact nm_eq e hm
  · rcases hr with ⟨-, e, -⟩ | ⟨e, he, -, Cs, os, l1, l2, l3, l4, hg, hcl, hr⟩
    · exact nm_eq e hm
    · rcases hr with ⟨-, -, hf⟩ | ⟨l5, -, hf, hC1⟩
      · exact nm_same k.2.2.2.1 (relC_fr hf (fun q hq h9 => by unfold cW at hq; unfold coP cV at h9; omega) k.2.2.2.1) k.2.2.2.2 hm
      · have hn0 : nrm A sg := hm d A sg c hd ((k.2.2.2.1 d hd).2 A sg hSt) hA hne
        have key : ∀ (n i : Nat) C, i ≤ n → Cs[i]? = some C → ∃ B sB cB, okL B cB ∧ C = clC sB B ∧ nrm B sB ∧ B ≠ [] ∧ plnA B sB := by
          intro n
          induction n with
          | zero =>
            intro i C hi hC
            have e0 : i = 0 := by omega
            rw [e0, hg.1] at hC
            cases hC
            exact ⟨A, sg, c, hA, rfl, hn0, hne, hpl⟩
          | succ n ih =>
            intro i C hi hC
            rcases hg.2 i C hC with e0 | ⟨i', A1, sg1, c1, R, kd, j, q1, q2, q3, q4, q5, q6⟩
            · exact ih i C (by omega) hC
            · obtain ⟨B, sB, cB, b1, b2, b3, b4, b5⟩ := ih i' _ (by omega) q2
              obtain ⟨e1, e2, e3⟩ := clC_inj q3.1 b1 b2
              subst e1
              have hpl1 : plnA A1 sg1 := fun f9 T9 h9 hp9 => b5 f9 T9 (isoV_sg h9 (fun p hp => (e3 p.1 ((q3.1.1.2 p).mp hp).1).symm)) hp9
              have hk := k024_5 q4
              obtain ⟨hV, hp, hpn, ec⟩ := nx_iso q3 hpl1
              have mb := mb_all hV hp q3.1.2.2.2.2 hpn hk
              obtain ⟨F, P, Q, Ds, qs, d1, d2, d3, d4, rfl⟩ := q6
              obtain ⟨A', sg', hO, hall⟩ := mb.1 j q5 ⟨F, P, Q, d1, d2, d3⟩
              obtain ⟨-, f, hf9⟩ := hall F P Q d1 d2
              obtain ⟨m, Pp, hmk⟩ := mk_ex A'
              obtain ⟨B2, sB2, cB2, o1, o2, -, o4, o5, o6⟩ := jnN9 q3.2.2.1 hp hpn q3.1.2.2.2.2 b4 hk hO q5 d1 d2 d3 hf9 d4 ⟨m, Pp, hmk, rfl⟩
              exact ⟨B2, sB2, cB2, o1, o2, o6, o4, o5⟩
        obtain ⟨i, hi, ei⟩ := List.getElem_of_mem (at_in l1 l2 l4)
        obtain ⟨B, sB, cB, b1, b2, b3, b4, b5⟩ := key i i _ (Nat.le_refl _) (by rw [List.getElem?_eq_getElem hi, ei])
        exact nm_put k.2.2.2.1 (hC1 B sB b2.symm) k.2.2.2.2 (okS_put k.2.2.2.2 ⟨b4, b5, cB, b1⟩) b3 hm
end XNC
end
