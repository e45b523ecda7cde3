section
/-! 99zzzzzzzzzzzzmd.foc3 -/
/-! frames of the class, on -/
theorem fb_X5_identityOf_0 {K : Nat} {vl : Nat → Nat} {z0 z : ow_MS}  {go : Nat → Int32 → Int32 → Int32 → ow_MS → Option (Int32 × ow_MS)} {x0 : Int32} {x1 : Int32} {x2 : Int32} (hgo : ∀ (L : Nat) (x0 : Int32) (x1 : Int32) (x2 : Int32) (z : ow_MS), fr (fun _ => False) z0 z → Fo Prod.snd (fun _ => False) z0 (go L x0 x1 x2 z)) (hz : fr (fun _ => False) z0 z)  : Fo Prod.snd (fun _ => False) z0 (cm_X5_identityOf_0 vl K go x0 x1 x2 z) := by
  unfold cm_X5_identityOf_0
  exact (hgo 1 _ _ _ z hz)
theorem fb_X5_identityOf_1 {K : Nat} {vl : Nat → Nat} {z0 z : ow_MS}  {go : Nat → Int32 → Int32 → Int32 → ow_MS → Option (Int32 × ow_MS)} {x0 : Int32} {x1 : Int32} {x2 : Int32} (hgo : ∀ (L : Nat) (x0 : Int32) (x1 : Int32) (x2 : Int32) (z : ow_MS), fr (fun _ => False) z0 z → Fo Prod.snd (fun _ => False) z0 (go L x0 x1 x2 z)) (hz : fr (fun _ => False) z0 z)  : Fo Prod.snd (fun _ => False) z0 (cm_X5_identityOf_1 vl K go x0 x1 x2 z) := by
  unfold cm_X5_identityOf_1
  exact (fo_if (fo_some hz) (hgo 1 _ _ _ z hz))
theorem fq_X5_identityOf {K : Nat} {vl : Nat → Nat} {z0 : ow_MS}  : ∀ (k L : Nat) (x0 : Int32) (x1 : Int32) (x2 : Int32) (z : ow_MS), fr (fun _ => False) z0 z → Fo Prod.snd (fun _ => False) z0 (c_X5_identityOf vl K k L x0 x1 x2 z)
  | 0 => by
    intros
    exact fo_none
  | k + 1 => by
    intro L x0 x1 x2 z hz 
    show Fo Prod.snd (fun _ => False) z0 (cb_X5_identityOf vl K (c_X5_identityOf vl K k) L x0 x1 x2 z)
    unfold cb_X5_identityOf
    split
    · exact fb_X5_identityOf_0 (fq_X5_identityOf k) hz 
    · exact fb_X5_identityOf_1 (fq_X5_identityOf k) hz 
    · exact fo_none
theorem ff_X5_identityOf {vl : Nat → Nat} {K : Nat} {x0 : Int32} {z : ow_MS} : Fo Prod.snd (fun _ => False) z (ce_X5_identityOf vl K x0 z) := fq_X5_identityOf K 0 _ _ _ z fr_rf 
theorem fb_X5_deltaOf_0 {K : Nat} {vl : Nat → Nat} {z0 z : ow_MS}  {go : Nat → Int32 → Int32 → Int32 → ow_MS → Option (Int32 × ow_MS)} {x0 : Int32} {x1 : Int32} {x2 : Int32} (hgo : ∀ (L : Nat) (x0 : Int32) (x1 : Int32) (x2 : Int32) (z : ow_MS), fr (fun _ => False) z0 z → Fo Prod.snd (fun _ => False) z0 (go L x0 x1 x2 z)) (hz : fr (fun _ => False) z0 z)  : Fo Prod.snd (fun _ => False) z0 (cm_X5_deltaOf_0 vl K go x0 x1 x2 z) := by
  unfold cm_X5_deltaOf_0
  exact (hgo 1 _ _ _ z hz)
theorem fb_X5_deltaOf_1 {K : Nat} {vl : Nat → Nat} {z0 z : ow_MS}  {go : Nat → Int32 → Int32 → Int32 → ow_MS → Option (Int32 × ow_MS)} {x0 : Int32} {x1 : Int32} {x2 : Int32} (hgo : ∀ (L : Nat) (x0 : Int32) (x1 : Int32) (x2 : Int32) (z : ow_MS), fr (fun _ => False) z0 z → Fo Prod.snd (fun _ => False) z0 (go L x0 x1 x2 z)) (hz : fr (fun _ => False) z0 z)  : Fo Prod.snd (fun _ => False) z0 (cm_X5_deltaOf_1 vl K go x0 x1 x2 z) := by
  unfold cm_X5_deltaOf_1
  exact (fo_if (fo_some hz) (hgo 1 _ _ _ z hz))
theorem fq_X5_deltaOf {K : Nat} {vl : Nat → Nat} {z0 : ow_MS}  : ∀ (k L : Nat) (x0 : Int32) (x1 : Int32) (x2 : Int32) (z : ow_MS), fr (fun _ => False) z0 z → Fo Prod.snd (fun _ => False) z0 (c_X5_deltaOf vl K k L x0 x1 x2 z)
  | 0 => by
    intros
    exact fo_none
  | k + 1 => by
    intro L x0 x1 x2 z hz 
    show Fo Prod.snd (fun _ => False) z0 (cb_X5_deltaOf vl K (c_X5_deltaOf vl K k) L x0 x1 x2 z)
    unfold cb_X5_deltaOf
    split
    · exact fb_X5_deltaOf_0 (fq_X5_deltaOf k) hz 
    · exact fb_X5_deltaOf_1 (fq_X5_deltaOf k) hz 
    · exact fo_none
theorem ff_X5_deltaOf {vl : Nat → Nat} {K : Nat} {x0 : Int32} {z : ow_MS} : Fo Prod.snd (fun _ => False) z (ce_X5_deltaOf vl K x0 z) := fq_X5_deltaOf K 0 _ _ _ z fr_rf 
theorem ff_X5_begin {vl : Nat → Nat} {K : Nat} {r0 : Nat} {x1 : Int32} {z : ow_MS} : Fo id (fun g => r0 + 1 ≤ g ∧ g ≤ r0 + 6) z (ce_X5_begin vl K r0 x1 z) := by
  unfold ce_X5_begin cm_X5_begin_0
  exact (fo_wrF (by omega) fr_rf (fun z1 h_z1 => (fo_wrF (by omega) h_z1 (fun z2 h_z2 => (fo_wrF (by omega) h_z2 (fun z3 h_z3 => (fo_cs1 ff_X5_identityOf (fun g hg => hg.elim) h_z3 (fun v5 z4 h_z4 => (fo_wrF (by omega) h_z4 (fun z6 h_z6 => (fo_cs1 ff_X5_deltaOf (fun g hg => hg.elim) h_z6 (fun v8 z7 h_z7 => (fo_wrF (by omega) h_z7 (fun z9 h_z9 => (fo_some h_z9)))))))))))))))
theorem ff_X5_image {vl : Nat → Nat} {K : Nat} {x0 : Int32} {x1 : Int32} {z : ow_MS} : Fo Prod.snd (fun _ => False) z (ce_X5_image vl K x0 x1 z) := by
  unfold ce_X5_image cm_X5_image_0
  exact (fo_some fr_rf)
theorem ff_X5_exchanged {vl : Nat → Nat} {K : Nat} {x0 : Int32} {x1 : Int32} {z : ow_MS} : Fo Prod.snd (fun _ => False) z (ce_X5_exchanged vl K x0 x1 z) := by
  unfold ce_X5_exchanged cm_X5_exchanged_0
  exact (fo_cs1 ff_X5_image (fun g hg => hg.elim) fr_rf (fun v2 z1 h_z1 => (fo_cs1 ff_X5_image (fun g hg => hg.elim) h_z1 (fun v4 z3 h_z3 => (fo_some h_z3)))))
theorem fb_X5_invert_0 {K : Nat} {vl : Nat → Nat} {z0 z : ow_MS}  {go : Nat → Int32 → Int32 → Int32 → Int32 → ow_MS → Option (Int32 × ow_MS)} {x0 : Int32} {x1 : Int32} {x2 : Int32} {x3 : Int32} (hgo : ∀ (L : Nat) (x0 : Int32) (x1 : Int32) (x2 : Int32) (x3 : Int32) (z : ow_MS), fr (fun _ => False) z0 z → Fo Prod.snd (fun _ => False) z0 (go L x0 x1 x2 x3 z)) (hz : fr (fun _ => False) z0 z)  : Fo Prod.snd (fun _ => False) z0 (cm_X5_invert_0 vl K go x0 x1 x2 x3 z) := by
  unfold cm_X5_invert_0
  exact (hgo 1 _ _ _ _ z hz)
theorem fb_X5_invert_1 {K : Nat} {vl : Nat → Nat} {z0 z : ow_MS}  {go : Nat → Int32 → Int32 → Int32 → Int32 → ow_MS → Option (Int32 × ow_MS)} {x0 : Int32} {x1 : Int32} {x2 : Int32} {x3 : Int32} (hgo : ∀ (L : Nat) (x0 : Int32) (x1 : Int32) (x2 : Int32) (x3 : Int32) (z : ow_MS), fr (fun _ => False) z0 z → Fo Prod.snd (fun _ => False) z0 (go L x0 x1 x2 x3 z)) (hz : fr (fun _ => False) z0 z)  : Fo Prod.snd (fun _ => False) z0 (cm_X5_invert_1 vl K go x0 x1 x2 x3 z) := by
  unfold cm_X5_invert_1
  exact (fo_if (fo_some hz) (fo_cs1 ff_X5_image (fun g hg => hg.elim) hz (fun v2 z1 h_z1 => (hgo 1 _ _ _ _ z1 h_z1))))
theorem fq_X5_invert {K : Nat} {vl : Nat → Nat} {z0 : ow_MS}  : ∀ (k L : Nat) (x0 : Int32) (x1 : Int32) (x2 : Int32) (x3 : Int32) (z : ow_MS), fr (fun _ => False) z0 z → Fo Prod.snd (fun _ => False) z0 (c_X5_invert vl K k L x0 x1 x2 x3 z)
  | 0 => by
    intros
    exact fo_none
  | k + 1 => by
    intro L x0 x1 x2 x3 z hz 
    show Fo Prod.snd (fun _ => False) z0 (cb_X5_invert vl K (c_X5_invert vl K k) L x0 x1 x2 x3 z)
    unfold cb_X5_invert
    split
    · exact fb_X5_invert_0 (fq_X5_invert k) hz 
    · exact fb_X5_invert_1 (fq_X5_invert k) hz 
    · exact fo_none
theorem ff_X5_invert {vl : Nat → Nat} {K : Nat} {x0 : Int32} {x1 : Int32} {z : ow_MS} : Fo Prod.snd (fun _ => False) z (ce_X5_invert vl K x0 x1 z) := fq_X5_invert K 0 _ _ _ _ z fr_rf 
theorem fb_X5_movable_0 {K : Nat} {vl : Nat → Nat} {z0 z : ow_MS} {pr0 : Nat} {go : Nat → Int32 → Int32 → Int32 → Nat → ow_MS → Option (Int32 × ow_MS)} {x1 : Int32} {x2 : Int32} {x3 : Int32} {r0 : Nat} (hgo : ∀ (L : Nat) (x1 : Int32) (x2 : Int32) (x3 : Int32) (r0 : Nat) (z : ow_MS), fr (fun _ => False) z0 z → (L = 0 ∨ L = 1 ∨ L = 2 → r0 = pr0) → Fo Prod.snd (fun _ => False) z0 (go L x1 x2 x3 r0 z)) (hz : fr (fun _ => False) z0 z) (e_r0 : r0 = pr0) : Fo Prod.snd (fun _ => False) z0 (cm_X5_movable_0 vl K go x1 x2 x3 r0 z) := by
  unfold cm_X5_movable_0
  exact (hgo 1 _ _ _ _ z hz (fun _ => by omega))
theorem fb_X5_movable_1 {K : Nat} {vl : Nat → Nat} {z0 z : ow_MS} {pr0 : Nat} {go : Nat → Int32 → Int32 → Int32 → Nat → ow_MS → Option (Int32 × ow_MS)} {x1 : Int32} {x2 : Int32} {x3 : Int32} {r0 : Nat} (hgo : ∀ (L : Nat) (x1 : Int32) (x2 : Int32) (x3 : Int32) (r0 : Nat) (z : ow_MS), fr (fun _ => False) z0 z → (L = 0 ∨ L = 1 ∨ L = 2 → r0 = pr0) → Fo Prod.snd (fun _ => False) z0 (go L x1 x2 x3 r0 z)) (hz : fr (fun _ => False) z0 z) (e_r0 : r0 = pr0) : Fo Prod.snd (fun _ => False) z0 (cm_X5_movable_1 vl K go x1 x2 x3 r0 z) := by
  unfold cm_X5_movable_1
  exact (fo_rdF (fun v1 => (fo_if (fo_some hz) (fo_cs1 ff_X5_image (fun g hg => hg.elim) hz (fun v3 z2 h_z2 => (fo_cs1 ff_X5_image (fun g hg => hg.elim) h_z2 (fun v5 z4 h_z4 => (fo_if (hgo 2 _ _ _ _ z4 h_z4 (fun _ => by omega)) (fo_cs1 ff_X5_image (fun g hg => hg.elim) h_z4 (fun v7 z6 h_z6 => (fo_cs1 ff_X5_image (fun g hg => hg.elim) h_z6 (fun v9 z8 h_z8 => (fo_if (hgo 2 _ _ _ _ z8 h_z8 (fun _ => by omega)) (fo_some h_z8))))))))))))))
theorem fb_X5_movable_2 {K : Nat} {vl : Nat → Nat} {z0 z : ow_MS} {pr0 : Nat} {go : Nat → Int32 → Int32 → Int32 → Nat → ow_MS → Option (Int32 × ow_MS)} {x1 : Int32} {x2 : Int32} {x3 : Int32} {r0 : Nat} (hgo : ∀ (L : Nat) (x1 : Int32) (x2 : Int32) (x3 : Int32) (r0 : Nat) (z : ow_MS), fr (fun _ => False) z0 z → (L = 0 ∨ L = 1 ∨ L = 2 → r0 = pr0) → Fo Prod.snd (fun _ => False) z0 (go L x1 x2 x3 r0 z)) (hz : fr (fun _ => False) z0 z) (e_r0 : r0 = pr0) : Fo Prod.snd (fun _ => False) z0 (cm_X5_movable_2 vl K go x1 x2 x3 r0 z) := by
  unfold cm_X5_movable_2
  exact (hgo 1 _ _ _ _ z hz (fun _ => by omega))
theorem fq_X5_movable {K : Nat} {vl : Nat → Nat} {z0 : ow_MS} {pr0 : Nat} : ∀ (k L : Nat) (x1 : Int32) (x2 : Int32) (x3 : Int32) (r0 : Nat) (z : ow_MS), fr (fun _ => False) z0 z → (L = 0 ∨ L = 1 ∨ L = 2 → r0 = pr0) → Fo Prod.snd (fun _ => False) z0 (c_X5_movable vl K k L x1 x2 x3 r0 z)
  | 0 => by
    intros
    exact fo_none
  | k + 1 => by
    intro L x1 x2 x3 r0 z hz h9_r0
    show Fo Prod.snd (fun _ => False) z0 (cb_X5_movable vl K (c_X5_movable vl K k) L x1 x2 x3 r0 z)
    unfold cb_X5_movable
    split
    · exact fb_X5_movable_0 (fq_X5_movable k) hz (h9_r0 (by decide))
    · exact fb_X5_movable_1 (fq_X5_movable k) hz (h9_r0 (by decide))
    · exact fb_X5_movable_2 (fq_X5_movable k) hz (h9_r0 (by decide))
    · exact fo_none
theorem ff_X5_movable {vl : Nat → Nat} {K : Nat} {r0 : Nat} {x1 : Int32} {x2 : Int32} {z : ow_MS} : Fo Prod.snd (fun _ => False) z (ce_X5_movable vl K r0 x1 x2 z) := fq_X5_movable (pr0 := r0) K 0 _ _ _ _ z fr_rf (fun _ => rfl)
theorem fb_X5_weigh_0 {K : Nat} {vl : Nat → Nat} {z0 z : ow_MS} {pr0 : Nat} {go : Nat → Int32 → Int32 → Int32 → Int32 → Int32 → Nat → ow_MS → Option (Int32 × ow_MS)} {x1 : Int32} {x2 : Int32} {x3 : Int32} {x4 : Int32} {x5 : Int32} {r0 : Nat} (hgo : ∀ (L : Nat) (x1 : Int32) (x2 : Int32) (x3 : Int32) (x4 : Int32) (x5 : Int32) (r0 : Nat) (z : ow_MS), fr (fun g => g = pr0 + 4) z0 z → (L = 0 ∨ L = 1 ∨ L = 2 → r0 = pr0) → Fo Prod.snd (fun g => g = pr0 + 4) z0 (go L x1 x2 x3 x4 x5 r0 z)) (hz : fr (fun g => g = pr0 + 4) z0 z) (e_r0 : r0 = pr0) : Fo Prod.snd (fun g => g = pr0 + 4) z0 (cm_X5_weigh_0 vl K go x1 x2 x3 x4 x5 r0 z) := by
  unfold cm_X5_weigh_0
  exact (fc_crI (fun v1 => (fo_rdF (fun v2 => (fo_cs1 ff_X5_invert (fun g hg => hg.elim) hz (fun v4 z3 h_z3 => (fc_crI (fun v5 => (fo_cs1 ff_X5_movable (fun g hg => hg.elim) h_z3 (fun v7 z6 h_z6 => (fo_if (fo_okZ (fo_some h_z6)) (hgo 1 _ _ _ _ _ _ z6 h_z6 (fun _ => by omega)))))))))))))
theorem fb_X5_weigh_1 {K : Nat} {vl : Nat → Nat} {z0 z : ow_MS} {pr0 : Nat} {go : Nat → Int32 → Int32 → Int32 → Int32 → Int32 → Nat → ow_MS → Option (Int32 × ow_MS)} {x1 : Int32} {x2 : Int32} {x3 : Int32} {x4 : Int32} {x5 : Int32} {r0 : Nat} (hgo : ∀ (L : Nat) (x1 : Int32) (x2 : Int32) (x3 : Int32) (x4 : Int32) (x5 : Int32) (r0 : Nat) (z : ow_MS), fr (fun g => g = pr0 + 4) z0 z → (L = 0 ∨ L = 1 ∨ L = 2 → r0 = pr0) → Fo Prod.snd (fun g => g = pr0 + 4) z0 (go L x1 x2 x3 x4 x5 r0 z)) (hz : fr (fun g => g = pr0 + 4) z0 z) (e_r0 : r0 = pr0) : Fo Prod.snd (fun g => g = pr0 + 4) z0 (cm_X5_weigh_1 vl K go x1 x2 x3 x4 x5 r0 z) := by
  unfold cm_X5_weigh_1
  exact (fo_if (hgo 2 _ _ _ _ _ _ z hz (fun _ => by omega)) (fo_if (hgo 2 _ _ _ _ _ _ z hz (fun _ => by omega)) (fo_cs1 ff_X5_exchanged (fun g hg => hg.elim) hz (fun v9 z8 h_z8 => (fo_cs1 ff_X5_exchanged (fun g hg => hg.elim) h_z8 (fun v11 z10 h_z10 => (fo_cs1 ff_X5_movable (fun g hg => hg.elim) h_z10 (fun v13 z12 h_z12 => (hgo 1 _ _ _ _ _ _ z12 h_z12 (fun _ => by omega))))))))))
theorem fb_X5_weigh_2 {K : Nat} {vl : Nat → Nat} {z0 z : ow_MS} {pr0 : Nat} {go : Nat → Int32 → Int32 → Int32 → Int32 → Int32 → Nat → ow_MS → Option (Int32 × ow_MS)} {x1 : Int32} {x2 : Int32} {x3 : Int32} {x4 : Int32} {x5 : Int32} {r0 : Nat} (hgo : ∀ (L : Nat) (x1 : Int32) (x2 : Int32) (x3 : Int32) (x4 : Int32) (x5 : Int32) (r0 : Nat) (z : ow_MS), fr (fun g => g = pr0 + 4) z0 z → (L = 0 ∨ L = 1 ∨ L = 2 → r0 = pr0) → Fo Prod.snd (fun g => g = pr0 + 4) z0 (go L x1 x2 x3 x4 x5 r0 z)) (hz : fr (fun g => g = pr0 + 4) z0 z) (e_r0 : r0 = pr0) : Fo Prod.snd (fun g => g = pr0 + 4) z0 (cm_X5_weigh_2 vl K go x1 x2 x3 x4 x5 r0 z) := by
  unfold cm_X5_weigh_2
  exact (fo_rdF (fun v14 => (fo_cs1 ff_X5_invert (fun g hg => hg.elim) hz (fun v16 z15 h_z15 => (fc_ctI (by omega) h_z15 (fun z17 h_z17 => (fc_ctI (by omega) h_z17 (fun z18 h_z18 => (fo_okZ (fo_some h_z18))))))))))
theorem fq_X5_weigh {K : Nat} {vl : Nat → Nat} {z0 : ow_MS} {pr0 : Nat} : ∀ (k L : Nat) (x1 : Int32) (x2 : Int32) (x3 : Int32) (x4 : Int32) (x5 : Int32) (r0 : Nat) (z : ow_MS), fr (fun g => g = pr0 + 4) z0 z → (L = 0 ∨ L = 1 ∨ L = 2 → r0 = pr0) → Fo Prod.snd (fun g => g = pr0 + 4) z0 (c_X5_weigh vl K k L x1 x2 x3 x4 x5 r0 z)
  | 0 => by
    intros
    exact fo_none
  | k + 1 => by
    intro L x1 x2 x3 x4 x5 r0 z hz h9_r0
    show Fo Prod.snd (fun g => g = pr0 + 4) z0 (cb_X5_weigh vl K (c_X5_weigh vl K k) L x1 x2 x3 x4 x5 r0 z)
    unfold cb_X5_weigh
    split
    · exact fb_X5_weigh_0 (fq_X5_weigh k) hz (h9_r0 (by decide))
    · exact fb_X5_weigh_1 (fq_X5_weigh k) hz (h9_r0 (by decide))
    · exact fb_X5_weigh_2 (fq_X5_weigh k) hz (h9_r0 (by decide))
    · exact fo_none
theorem ff_X5_weigh {vl : Nat → Nat} {K : Nat} {r0 : Nat} {x1 : Int32} {z : ow_MS} : Fo Prod.snd (fun g => g = r0 + 4) z (ce_X5_weigh vl K r0 x1 z) := fq_X5_weigh (pr0 := r0) K 0 _ _ _ _ _ _ z fr_rf (fun _ => rfl)
theorem fb_X5_strip_0 {K : Nat} {vl : Nat → Nat} {z0 z : ow_MS} {pr0 : Nat} {go : Nat → Int32 → Nat → ow_MS → Option ow_MS} {x1 : Int32} {r0 : Nat} (hgo : ∀ (L : Nat) (x1 : Int32) (r0 : Nat) (z : ow_MS), fr (fun g => pr0 + 2 ≤ g ∧ g ≤ pr0 + 4) z0 z → (L = 0 ∨ L = 1 ∨ L = 2 ∨ L = 3 → r0 = pr0) → Fo id (fun g => pr0 + 2 ≤ g ∧ g ≤ pr0 + 4) z0 (go L x1 r0 z)) (hz : fr (fun g => pr0 + 2 ≤ g ∧ g ≤ pr0 + 4) z0 z) (e_r0 : r0 = pr0) : Fo id (fun g => pr0 + 2 ≤ g ∧ g ≤ pr0 + 4) z0 (cm_X5_strip_0 vl K go x1 r0 z) := by
  unfold cm_X5_strip_0
  exact (hgo 1 _ _ z hz (fun _ => by omega))
theorem fb_X5_strip_1 {K : Nat} {vl : Nat → Nat} {z0 z : ow_MS} {pr0 : Nat} {go : Nat → Int32 → Nat → ow_MS → Option ow_MS} {x1 : Int32} {r0 : Nat} (hgo : ∀ (L : Nat) (x1 : Int32) (r0 : Nat) (z : ow_MS), fr (fun g => pr0 + 2 ≤ g ∧ g ≤ pr0 + 4) z0 z → (L = 0 ∨ L = 1 ∨ L = 2 ∨ L = 3 → r0 = pr0) → Fo id (fun g => pr0 + 2 ≤ g ∧ g ≤ pr0 + 4) z0 (go L x1 r0 z)) (hz : fr (fun g => pr0 + 2 ≤ g ∧ g ≤ pr0 + 4) z0 z) (e_r0 : r0 = pr0) : Fo id (fun g => pr0 + 2 ≤ g ∧ g ≤ pr0 + 4) z0 (cm_X5_strip_1 vl K go x1 r0 z) := by
  unfold cm_X5_strip_1
  exact (fo_rdF (fun v1 => (fo_if (hgo 2 _ _ z hz (fun _ => by omega)) (fc_crI (fun v2 => (fo_rdF (fun v3 => (fo_if (hgo 1 _ _ z hz (fun _ => by omega)) (hgo 2 _ _ z hz (fun _ => by omega))))))))))
theorem fb_X5_strip_2 {K : Nat} {vl : Nat → Nat} {z0 z : ow_MS} {pr0 : Nat} {go : Nat → Int32 → Nat → ow_MS → Option ow_MS} {x1 : Int32} {r0 : Nat} (hgo : ∀ (L : Nat) (x1 : Int32) (r0 : Nat) (z : ow_MS), fr (fun g => pr0 + 2 ≤ g ∧ g ≤ pr0 + 4) z0 z → (L = 0 ∨ L = 1 ∨ L = 2 ∨ L = 3 → r0 = pr0) → Fo id (fun g => pr0 + 2 ≤ g ∧ g ≤ pr0 + 4) z0 (go L x1 r0 z)) (hz : fr (fun g => pr0 + 2 ≤ g ∧ g ≤ pr0 + 4) z0 z) (e_r0 : r0 = pr0) : Fo id (fun g => pr0 + 2 ≤ g ∧ g ≤ pr0 + 4) z0 (cm_X5_strip_2 vl K go x1 r0 z) := by
  unfold cm_X5_strip_2
  exact (fo_rdF (fun v4 => (fo_wrF (by omega) hz (fun z5 h_z5 => (fo_rdF (fun v6 => (fo_wrF (by omega) h_z5 (fun z7 h_z7 => (fo_rdF (fun v8 => (fc_cpI (by omega) h_z7 (fun z9 h_z9 => (hgo 3 _ _ z9 h_z9 (fun _ => by omega))))))))))))))
theorem fb_X5_strip_3 {K : Nat} {vl : Nat → Nat} {z0 z : ow_MS} {pr0 : Nat} {go : Nat → Int32 → Nat → ow_MS → Option ow_MS} {x1 : Int32} {r0 : Nat} (hgo : ∀ (L : Nat) (x1 : Int32) (r0 : Nat) (z : ow_MS), fr (fun g => pr0 + 2 ≤ g ∧ g ≤ pr0 + 4) z0 z → (L = 0 ∨ L = 1 ∨ L = 2 ∨ L = 3 → r0 = pr0) → Fo id (fun g => pr0 + 2 ≤ g ∧ g ≤ pr0 + 4) z0 (go L x1 r0 z)) (hz : fr (fun g => pr0 + 2 ≤ g ∧ g ≤ pr0 + 4) z0 z) (e_r0 : r0 = pr0) : Fo id (fun g => pr0 + 2 ≤ g ∧ g ≤ pr0 + 4) z0 (cm_X5_strip_3 vl K go x1 r0 z) := by
  unfold cm_X5_strip_3
  exact (fo_rdF (fun v10 => (fo_if (fo_some hz) (fo_rdF (fun v11 => (fc_crI (fun v12 => (fo_rdF (fun v13 => (fo_if (fo_rdF (fun v14 => (fo_wrF (by omega) hz (fun z15 h_z15 => (hgo 3 _ _ z15 h_z15 (fun _ => by omega)))))) (fo_some hz)))))))))))
theorem fq_X5_strip {K : Nat} {vl : Nat → Nat} {z0 : ow_MS} {pr0 : Nat} : ∀ (k L : Nat) (x1 : Int32) (r0 : Nat) (z : ow_MS), fr (fun g => pr0 + 2 ≤ g ∧ g ≤ pr0 + 4) z0 z → (L = 0 ∨ L = 1 ∨ L = 2 ∨ L = 3 → r0 = pr0) → Fo id (fun g => pr0 + 2 ≤ g ∧ g ≤ pr0 + 4) z0 (c_X5_strip vl K k L x1 r0 z)
  | 0 => by
    intros
    exact fo_none
  | k + 1 => by
    intro L x1 r0 z hz h9_r0
    show Fo id (fun g => pr0 + 2 ≤ g ∧ g ≤ pr0 + 4) z0 (cb_X5_strip vl K (c_X5_strip vl K k) L x1 r0 z)
    unfold cb_X5_strip
    split
    · exact fb_X5_strip_0 (fq_X5_strip k) hz (h9_r0 (by decide))
    · exact fb_X5_strip_1 (fq_X5_strip k) hz (h9_r0 (by decide))
    · exact fb_X5_strip_2 (fq_X5_strip k) hz (h9_r0 (by decide))
    · exact fb_X5_strip_3 (fq_X5_strip k) hz (h9_r0 (by decide))
    · exact fo_none
theorem ff_X5_strip {vl : Nat → Nat} {K : Nat} {r0 : Nat} {z : ow_MS} : Fo id (fun g => r0 + 2 ≤ g ∧ g ≤ r0 + 4) z (ce_X5_strip vl K r0 z) := fq_X5_strip (pr0 := r0) K 0 _ _ z fr_rf (fun _ => rfl)
theorem fb_X5_putBehind_0 {K : Nat} {vl : Nat → Nat} {z0 z : ow_MS} {pr0 : Nat} {go : Nat → Int32 → Int32 → Int32 → Nat → ow_MS → Option ow_MS} {x1 : Int32} {x2 : Int32} {x3 : Int32} {r0 : Nat} (hgo : ∀ (L : Nat) (x1 : Int32) (x2 : Int32) (x3 : Int32) (r0 : Nat) (z : ow_MS), fr (fun g => pr0 + 2 ≤ g ∧ g ≤ pr0 + 4) z0 z → (L = 0 ∨ L = 1 ∨ L = 2 → r0 = pr0) → Fo id (fun g => pr0 + 2 ≤ g ∧ g ≤ pr0 + 4) z0 (go L x1 x2 x3 r0 z)) (hz : fr (fun g => pr0 + 2 ≤ g ∧ g ≤ pr0 + 4) z0 z) (e_r0 : r0 = pr0) : Fo id (fun g => pr0 + 2 ≤ g ∧ g ≤ pr0 + 4) z0 (cm_X5_putBehind_0 vl K go x1 x2 x3 r0 z) := by
  unfold cm_X5_putBehind_0
  exact (fo_rdF (fun v1 => (fo_if (fo_rdF (fun v2 => (fc_ctI (by omega) hz (fun z3 h_z3 => (fo_rdF (fun v4 => (fo_wrF (by omega) h_z3 (fun z5 h_z5 => (fo_rdF (fun v6 => (hgo 1 _ _ _ _ z5 h_z5 (fun _ => by omega)))))))))))) (fo_some hz))))
theorem fb_X5_putBehind_1 {K : Nat} {vl : Nat → Nat} {z0 z : ow_MS} {pr0 : Nat} {go : Nat → Int32 → Int32 → Int32 → Nat → ow_MS → Option ow_MS} {x1 : Int32} {x2 : Int32} {x3 : Int32} {r0 : Nat} (hgo : ∀ (L : Nat) (x1 : Int32) (x2 : Int32) (x3 : Int32) (r0 : Nat) (z : ow_MS), fr (fun g => pr0 + 2 ≤ g ∧ g ≤ pr0 + 4) z0 z → (L = 0 ∨ L = 1 ∨ L = 2 → r0 = pr0) → Fo id (fun g => pr0 + 2 ≤ g ∧ g ≤ pr0 + 4) z0 (go L x1 x2 x3 r0 z)) (hz : fr (fun g => pr0 + 2 ≤ g ∧ g ≤ pr0 + 4) z0 z) (e_r0 : r0 = pr0) : Fo id (fun g => pr0 + 2 ≤ g ∧ g ≤ pr0 + 4) z0 (cm_X5_putBehind_1 vl K go x1 x2 x3 r0 z) := by
  unfold cm_X5_putBehind_1
  exact (fo_if (hgo 2 _ _ _ _ z hz (fun _ => by omega)) (fo_if (hgo 2 _ _ _ _ z hz (fun _ => by omega)) (fo_cs1 ff_X5_weigh (fun g hg => by omega) hz (fun v8 z7 h_z7 => (hgo 1 _ _ _ _ z7 h_z7 (fun _ => by omega))))))
theorem fb_X5_putBehind_2 {K : Nat} {vl : Nat → Nat} {z0 z : ow_MS} {pr0 : Nat} {go : Nat → Int32 → Int32 → Int32 → Nat → ow_MS → Option ow_MS} {x1 : Int32} {x2 : Int32} {x3 : Int32} {r0 : Nat} (hgo : ∀ (L : Nat) (x1 : Int32) (x2 : Int32) (x3 : Int32) (r0 : Nat) (z : ow_MS), fr (fun g => pr0 + 2 ≤ g ∧ g ≤ pr0 + 4) z0 z → (L = 0 ∨ L = 1 ∨ L = 2 → r0 = pr0) → Fo id (fun g => pr0 + 2 ≤ g ∧ g ≤ pr0 + 4) z0 (go L x1 x2 x3 r0 z)) (hz : fr (fun g => pr0 + 2 ≤ g ∧ g ≤ pr0 + 4) z0 z) (e_r0 : r0 = pr0) : Fo id (fun g => pr0 + 2 ≤ g ∧ g ≤ pr0 + 4) z0 (cm_X5_putBehind_2 vl K go x1 x2 x3 r0 z) := by
  unfold cm_X5_putBehind_2
  exact (fo_cs0 ff_X5_strip (fun g hg => by omega) hz (fun z9 h_z9 => (fo_some h_z9)))
theorem fq_X5_putBehind {K : Nat} {vl : Nat → Nat} {z0 : ow_MS} {pr0 : Nat} : ∀ (k L : Nat) (x1 : Int32) (x2 : Int32) (x3 : Int32) (r0 : Nat) (z : ow_MS), fr (fun g => pr0 + 2 ≤ g ∧ g ≤ pr0 + 4) z0 z → (L = 0 ∨ L = 1 ∨ L = 2 → r0 = pr0) → Fo id (fun g => pr0 + 2 ≤ g ∧ g ≤ pr0 + 4) z0 (c_X5_putBehind vl K k L x1 x2 x3 r0 z)
  | 0 => by
    intros
    exact fo_none
  | k + 1 => by
    intro L x1 x2 x3 r0 z hz h9_r0
    show Fo id (fun g => pr0 + 2 ≤ g ∧ g ≤ pr0 + 4) z0 (cb_X5_putBehind vl K (c_X5_putBehind vl K k) L x1 x2 x3 r0 z)
    unfold cb_X5_putBehind
    split
    · exact fb_X5_putBehind_0 (fq_X5_putBehind k) hz (h9_r0 (by decide))
    · exact fb_X5_putBehind_1 (fq_X5_putBehind k) hz (h9_r0 (by decide))
    · exact fb_X5_putBehind_2 (fq_X5_putBehind k) hz (h9_r0 (by decide))
    · exact fo_none
theorem ff_X5_putBehind {vl : Nat → Nat} {K : Nat} {r0 : Nat} {x1 : Int32} {z : ow_MS} : Fo id (fun g => r0 + 2 ≤ g ∧ g ≤ r0 + 4) z (ce_X5_putBehind vl K r0 x1 z) := fq_X5_putBehind (pr0 := r0) K 0 _ _ _ _ z fr_rf (fun _ => rfl)
theorem ff_X5_exchangedBehind {vl : Nat → Nat} {K : Nat} {x0 : Int32} {x1 : Int32} {x2 : Int32} {z : ow_MS} : Fo Prod.snd (fun _ => False) z (ce_X5_exchangedBehind vl K x0 x1 x2 z) := by
  unfold ce_X5_exchangedBehind cm_X5_exchangedBehind_0
  exact (fo_cs1 ff_X5_invert (fun g hg => hg.elim) fr_rf (fun v2 z1 h_z1 => (fo_cs1 ff_X5_exchanged (fun g hg => hg.elim) h_z1 (fun v4 z3 h_z3 => (fo_cs1 ff_X5_invert (fun g hg => hg.elim) h_z3 (fun v6 z5 h_z5 => (fo_some h_z5)))))))
theorem fb_X5_turned_0 {K : Nat} {vl : Nat → Nat} {z0 z : ow_MS}  {go : Nat → Int32 → Int32 → Int32 → Int32 → ow_MS → Option (Int32 × ow_MS)} {x0 : Int32} {x1 : Int32} {x2 : Int32} {x3 : Int32} (hgo : ∀ (L : Nat) (x0 : Int32) (x1 : Int32) (x2 : Int32) (x3 : Int32) (z : ow_MS), fr (fun _ => False) z0 z → Fo Prod.snd (fun _ => False) z0 (go L x0 x1 x2 x3 z)) (hz : fr (fun _ => False) z0 z)  : Fo Prod.snd (fun _ => False) z0 (cm_X5_turned_0 vl K go x0 x1 x2 x3 z) := by
  unfold cm_X5_turned_0
  exact (hgo 1 _ _ _ _ z hz)
theorem fb_X5_turned_1 {K : Nat} {vl : Nat → Nat} {z0 z : ow_MS}  {go : Nat → Int32 → Int32 → Int32 → Int32 → ow_MS → Option (Int32 × ow_MS)} {x0 : Int32} {x1 : Int32} {x2 : Int32} {x3 : Int32} (hgo : ∀ (L : Nat) (x0 : Int32) (x1 : Int32) (x2 : Int32) (x3 : Int32) (z : ow_MS), fr (fun _ => False) z0 z → Fo Prod.snd (fun _ => False) z0 (go L x0 x1 x2 x3 z)) (hz : fr (fun _ => False) z0 z)  : Fo Prod.snd (fun _ => False) z0 (cm_X5_turned_1 vl K go x0 x1 x2 x3 z) := by
  unfold cm_X5_turned_1
  exact (fo_if (fo_some hz) (fo_cs1 ff_X5_image (fun g hg => hg.elim) hz (fun v2 z1 h_z1 => (hgo 1 _ _ _ _ z1 h_z1))))
theorem fq_X5_turned {K : Nat} {vl : Nat → Nat} {z0 : ow_MS}  : ∀ (k L : Nat) (x0 : Int32) (x1 : Int32) (x2 : Int32) (x3 : Int32) (z : ow_MS), fr (fun _ => False) z0 z → Fo Prod.snd (fun _ => False) z0 (c_X5_turned vl K k L x0 x1 x2 x3 z)
  | 0 => by
    intros
    exact fo_none
  | k + 1 => by
    intro L x0 x1 x2 x3 z hz 
    show Fo Prod.snd (fun _ => False) z0 (cb_X5_turned vl K (c_X5_turned vl K k) L x0 x1 x2 x3 z)
    unfold cb_X5_turned
    split
    · exact fb_X5_turned_0 (fq_X5_turned k) hz 
    · exact fb_X5_turned_1 (fq_X5_turned k) hz 
    · exact fo_none
theorem ff_X5_turned {vl : Nat → Nat} {K : Nat} {x0 : Int32} {x1 : Int32} {z : ow_MS} : Fo Prod.snd (fun _ => False) z (ce_X5_turned vl K x0 x1 z) := fq_X5_turned K 0 _ _ _ _ z fr_rf 
theorem fb_X5_takeLetter_0 {K : Nat} {vl : Nat → Nat} {z0 z : ow_MS} {pr0 : Nat} {go : Nat → Int32 → Int32 → Int32 → Nat → ow_MS → Option ow_MS} {x1 : Int32} {x2 : Int32} {x3 : Int32} {r0 : Nat} (hgo : ∀ (L : Nat) (x1 : Int32) (x2 : Int32) (x3 : Int32) (r0 : Nat) (z : ow_MS), fr (fun g => pr0 + 2 ≤ g ∧ g ≤ pr0 + 4) z0 z → (L = 0 ∨ L = 1 → r0 = pr0) → Fo id (fun g => pr0 + 2 ≤ g ∧ g ≤ pr0 + 4) z0 (go L x1 x2 x3 r0 z)) (hz : fr (fun g => pr0 + 2 ≤ g ∧ g ≤ pr0 + 4) z0 z) (e_r0 : r0 = pr0) : Fo id (fun g => pr0 + 2 ≤ g ∧ g ≤ pr0 + 4) z0 (cm_X5_takeLetter_0 vl K go x1 x2 x3 r0 z) := by
  unfold cm_X5_takeLetter_0
  exact (fo_if (hgo 1 _ _ _ _ z hz (fun _ => by omega)) (fo_rdF (fun v1 => (fo_cs1 ff_X5_exchanged (fun g hg => hg.elim) hz (fun v3 z2 h_z2 => (fo_cs0 ff_X5_putBehind (fun g hg => by omega) h_z2 (fun z4 h_z4 => (fo_some h_z4))))))))
theorem fb_X5_takeLetter_1 {K : Nat} {vl : Nat → Nat} {z0 z : ow_MS} {pr0 : Nat} {go : Nat → Int32 → Int32 → Int32 → Nat → ow_MS → Option ow_MS} {x1 : Int32} {x2 : Int32} {x3 : Int32} {r0 : Nat} (hgo : ∀ (L : Nat) (x1 : Int32) (x2 : Int32) (x3 : Int32) (r0 : Nat) (z : ow_MS), fr (fun g => pr0 + 2 ≤ g ∧ g ≤ pr0 + 4) z0 z → (L = 0 ∨ L = 1 → r0 = pr0) → Fo id (fun g => pr0 + 2 ≤ g ∧ g ≤ pr0 + 4) z0 (go L x1 x2 x3 r0 z)) (hz : fr (fun g => pr0 + 2 ≤ g ∧ g ≤ pr0 + 4) z0 z) (e_r0 : r0 = pr0) : Fo id (fun g => pr0 + 2 ≤ g ∧ g ≤ pr0 + 4) z0 (cm_X5_takeLetter_1 vl K go x1 x2 x3 r0 z) := by
  unfold cm_X5_takeLetter_1
  exact (fo_rdF (fun v5 => (fo_if (fo_rdF (fun v6 => (fo_wrF (by omega) hz (fun z7 h_z7 => (fo_rdF (fun v8 => (fo_rdF (fun v9 => (fo_cs1 ff_X5_exchangedBehind (fun g hg => hg.elim) h_z7 (fun v11 z10 h_z10 => (fo_cs0 ff_X5_putBehind (fun g hg => by omega) h_z10 (fun z12 h_z12 => (fo_some h_z12))))))))))))) (fc_crI (fun v13 => (fo_rdF (fun v14 => (fo_cs1 ff_X5_turned (fun g hg => hg.elim) hz (fun v16 z15 h_z15 => (fc_ctI (by omega) h_z15 (fun z17 h_z17 => (hgo 1 _ _ _ _ z17 h_z17 (fun _ => by omega)))))))))))))
theorem fq_X5_takeLetter {K : Nat} {vl : Nat → Nat} {z0 : ow_MS} {pr0 : Nat} : ∀ (k L : Nat) (x1 : Int32) (x2 : Int32) (x3 : Int32) (r0 : Nat) (z : ow_MS), fr (fun g => pr0 + 2 ≤ g ∧ g ≤ pr0 + 4) z0 z → (L = 0 ∨ L = 1 → r0 = pr0) → Fo id (fun g => pr0 + 2 ≤ g ∧ g ≤ pr0 + 4) z0 (c_X5_takeLetter vl K k L x1 x2 x3 r0 z)
  | 0 => by
    intros
    exact fo_none
  | k + 1 => by
    intro L x1 x2 x3 r0 z hz h9_r0
    show Fo id (fun g => pr0 + 2 ≤ g ∧ g ≤ pr0 + 4) z0 (cb_X5_takeLetter vl K (c_X5_takeLetter vl K k) L x1 x2 x3 r0 z)
    unfold cb_X5_takeLetter
    split
    · exact fb_X5_takeLetter_0 (fq_X5_takeLetter k) hz (h9_r0 (by decide))
    · exact fb_X5_takeLetter_1 (fq_X5_takeLetter k) hz (h9_r0 (by decide))
    · exact fo_none
theorem ff_X5_takeLetter {vl : Nat → Nat} {K : Nat} {r0 : Nat} {x1 : Int32} {z : ow_MS} : Fo id (fun g => r0 + 2 ≤ g ∧ g ≤ r0 + 4) z (ce_X5_takeLetter vl K r0 x1 z) := fq_X5_takeLetter (pr0 := r0) K 0 _ _ _ _ z fr_rf (fun _ => rfl)
theorem fb_X11_write_0 {K : Nat} {vl : Nat → Nat} {z0 z : ow_MS} {pr0 : Nat} {pr1 : Nat} {go : Nat → Int32 → Int32 → Nat → Nat → ow_MS → Option ow_MS} {x2 : Int32} {x3 : Int32} {r0 : Nat} {r1 : Nat} (hgo : ∀ (L : Nat) (x2 : Int32) (x3 : Int32) (r0 : Nat) (r1 : Nat) (z : ow_MS), fr (fun g => pr1 + 1 ≤ g ∧ g ≤ pr1 + 6) z0 z → (L = 0 ∨ L = 1 → r0 = pr0) → (L = 0 ∨ L = 1 → r1 = pr1) → Fo id (fun g => pr1 + 1 ≤ g ∧ g ≤ pr1 + 6) z0 (go L x2 x3 r0 r1 z)) (hz : fr (fun g => pr1 + 1 ≤ g ∧ g ≤ pr1 + 6) z0 z) (e_r0 : r0 = pr0) (e_r1 : r1 = pr1) : Fo id (fun g => pr1 + 1 ≤ g ∧ g ≤ pr1 + 6) z0 (cm_X11_write_0 vl K go x2 x3 r0 r1 z) := by
  unfold cm_X11_write_0
  exact (fc_crI (fun v1 => (fo_cs0 ff_X5_begin (fun g hg => by omega) hz (fun z2 h_z2 => (hgo 1 _ _ _ _ z2 h_z2 (fun _ => by omega) (fun _ => by omega))))))
theorem fb_X11_write_1 {K : Nat} {vl : Nat → Nat} {z0 z : ow_MS} {pr0 : Nat} {pr1 : Nat} {go : Nat → Int32 → Int32 → Nat → Nat → ow_MS → Option ow_MS} {x2 : Int32} {x3 : Int32} {r0 : Nat} {r1 : Nat} (hgo : ∀ (L : Nat) (x2 : Int32) (x3 : Int32) (r0 : Nat) (r1 : Nat) (z : ow_MS), fr (fun g => pr1 + 1 ≤ g ∧ g ≤ pr1 + 6) z0 z → (L = 0 ∨ L = 1 → r0 = pr0) → (L = 0 ∨ L = 1 → r1 = pr1) → Fo id (fun g => pr1 + 1 ≤ g ∧ g ≤ pr1 + 6) z0 (go L x2 x3 r0 r1 z)) (hz : fr (fun g => pr1 + 1 ≤ g ∧ g ≤ pr1 + 6) z0 z) (e_r0 : r0 = pr0) (e_r1 : r1 = pr1) : Fo id (fun g => pr1 + 1 ≤ g ∧ g ≤ pr1 + 6) z0 (cm_X11_write_1 vl K go x2 x3 r0 r1 z) := by
  unfold cm_X11_write_1
  exact (fc_crI (fun v3 => (fo_if (fo_some hz) (fc_crI (fun v4 => (fo_cs0 ff_X5_takeLetter (fun g hg => by omega) hz (fun z5 h_z5 => (hgo 1 _ _ _ _ z5 h_z5 (fun _ => by omega) (fun _ => by omega)))))))))
theorem fq_X11_write {K : Nat} {vl : Nat → Nat} {z0 : ow_MS} {pr0 : Nat} {pr1 : Nat} : ∀ (k L : Nat) (x2 : Int32) (x3 : Int32) (r0 : Nat) (r1 : Nat) (z : ow_MS), fr (fun g => pr1 + 1 ≤ g ∧ g ≤ pr1 + 6) z0 z → (L = 0 ∨ L = 1 → r0 = pr0) → (L = 0 ∨ L = 1 → r1 = pr1) → Fo id (fun g => pr1 + 1 ≤ g ∧ g ≤ pr1 + 6) z0 (c_X11_write vl K k L x2 x3 r0 r1 z)
  | 0 => by
    intros
    exact fo_none
  | k + 1 => by
    intro L x2 x3 r0 r1 z hz h9_r0 h9_r1
    show Fo id (fun g => pr1 + 1 ≤ g ∧ g ≤ pr1 + 6) z0 (cb_X11_write vl K (c_X11_write vl K k) L x2 x3 r0 r1 z)
    unfold cb_X11_write
    split
    · exact fb_X11_write_0 (fq_X11_write k) hz (h9_r0 (by decide)) (h9_r1 (by decide))
    · exact fb_X11_write_1 (fq_X11_write k) hz (h9_r0 (by decide)) (h9_r1 (by decide))
    · exact fo_none
theorem ff_X11_write {vl : Nat → Nat} {K : Nat} {r0 : Nat} {r1 : Nat} {x2 : Int32} {z : ow_MS} : Fo id (fun g => r1 + 1 ≤ g ∧ g ≤ r1 + 6) z (ce_X11_write vl K r0 r1 x2 z) := fq_X11_write (pr0 := r0) (pr1 := r1) K 0 _ _ _ _ z fr_rf (fun _ => rfl) (fun _ => rfl)
theorem ff_X11_normal {vl : Nat → Nat} {K : Nat} {r0 : Nat} {x1 : Int32} {x2 : Int32} {z : ow_MS} : Fo (fun r => r.2.2) (fun g => r0 + 46001 ≤ g ∧ g ≤ r0 + 46006) z (ce_X11_normal vl K r0 x1 x2 z) := by
  unfold ce_X11_normal cm_X11_normal_0
  exact (fc_tc0 ff_X11_needBraid (fun g hg => hg.elim) fr_rf (fun k z h_e => (fo_some h_e)) (fun z1 h_z1 => (fo_if (fo_some h_z1) (fo_if (fo_cs0 ff_X11_write (fun g hg => by omega) h_z1 (fun z3 h_z3 => (fo_if (fc_crI (fun v4 => (fo_some h_z3))) (fo_if (fo_rdF (fun v5 => (fo_some h_z3))) (fo_if (fo_rdF (fun v6 => (fo_some h_z3))) (fo_if (fc_crI (fun v7 => (fo_some h_z3))) fo_none)))))) (fo_some h_z1)))))
theorem ff_X11_factor {vl : Nat → Nat} {K : Nat} {r0 : Nat} {x1 : Int32} {x2 : Int32} {x3 : Int32} {z : ow_MS} : Fo (fun r => r.2.2) (fun g => r0 + 46001 ≤ g ∧ g ≤ r0 + 46006) z (ce_X11_factor vl K r0 x1 x2 x3 z) := by
  unfold ce_X11_factor cm_X11_factor_0
  exact (fc_tc0 ff_X11_needBraid (fun g hg => hg.elim) fr_rf (fun k z h_e => (fo_some h_e)) (fun z1 h_z1 => (fo_cs0 ff_X11_write (fun g hg => by omega) h_z1 (fun z3 h_z3 => (fo_if (fo_some h_z3) (fo_rdF (fun v4 => (fo_if (fo_some h_z3) (fo_if (fo_some h_z3) (fc_crI (fun v5 => (fo_if (fc_crI (fun v6 => (fo_cs1 ff_X5_image (fun g hg => hg.elim) h_z3 (fun v8 z7 h_z7 => (fo_some h_z7))))) (fo_some h_z3)))))))))))))
theorem fb_X5_sameAs_0 {K : Nat} {vl : Nat → Nat} {z0 z : ow_MS} {pr0 : Nat} {pr1 : Nat} {go : Nat → Int32 → Nat → Nat → ow_MS → Option (Int32 × ow_MS)} {x2 : Int32} {r0 : Nat} {r1 : Nat} (hgo : ∀ (L : Nat) (x2 : Int32) (r0 : Nat) (r1 : Nat) (z : ow_MS), fr (fun _ => False) z0 z → (L = 0 ∨ L = 1 → r0 = pr0) → (L = 0 ∨ L = 1 → r1 = pr1) → Fo Prod.snd (fun _ => False) z0 (go L x2 r0 r1 z)) (hz : fr (fun _ => False) z0 z) (e_r0 : r0 = pr0) (e_r1 : r1 = pr1) : Fo Prod.snd (fun _ => False) z0 (cm_X5_sameAs_0 vl K go x2 r0 r1 z) := by
  unfold cm_X5_sameAs_0
  exact (fo_rdF (fun v1 => (fo_rdF (fun v2 => (fo_if (fo_rdF (fun v3 => (fo_rdF (fun v4 => (fo_if (fo_rdF (fun v5 => (fo_rdF (fun v6 => (fo_if (hgo 1 _ _ _ z hz (fun _ => by omega) (fun _ => by omega)) (fo_okZ (fo_some hz))))))) (fo_okZ (fo_some hz))))))) (fo_okZ (fo_some hz)))))))
theorem fb_X5_sameAs_1 {K : Nat} {vl : Nat → Nat} {z0 z : ow_MS} {pr0 : Nat} {pr1 : Nat} {go : Nat → Int32 → Nat → Nat → ow_MS → Option (Int32 × ow_MS)} {x2 : Int32} {r0 : Nat} {r1 : Nat} (hgo : ∀ (L : Nat) (x2 : Int32) (r0 : Nat) (r1 : Nat) (z : ow_MS), fr (fun _ => False) z0 z → (L = 0 ∨ L = 1 → r0 = pr0) → (L = 0 ∨ L = 1 → r1 = pr1) → Fo Prod.snd (fun _ => False) z0 (go L x2 r0 r1 z)) (hz : fr (fun _ => False) z0 z) (e_r0 : r0 = pr0) (e_r1 : r1 = pr1) : Fo Prod.snd (fun _ => False) z0 (cm_X5_sameAs_1 vl K go x2 r0 r1 z) := by
  unfold cm_X5_sameAs_1
  exact (fo_rdF (fun v7 => (fo_if (fo_okZ (fo_some hz)) (fc_crI (fun v8 => (fc_crI (fun v9 => (fo_if (hgo 1 _ _ _ z hz (fun _ => by omega) (fun _ => by omega)) (fo_okZ (fo_some hz))))))))))
theorem fq_X5_sameAs {K : Nat} {vl : Nat → Nat} {z0 : ow_MS} {pr0 : Nat} {pr1 : Nat} : ∀ (k L : Nat) (x2 : Int32) (r0 : Nat) (r1 : Nat) (z : ow_MS), fr (fun _ => False) z0 z → (L = 0 ∨ L = 1 → r0 = pr0) → (L = 0 ∨ L = 1 → r1 = pr1) → Fo Prod.snd (fun _ => False) z0 (c_X5_sameAs vl K k L x2 r0 r1 z)
  | 0 => by
    intros
    exact fo_none
  | k + 1 => by
    intro L x2 r0 r1 z hz h9_r0 h9_r1
    show Fo Prod.snd (fun _ => False) z0 (cb_X5_sameAs vl K (c_X5_sameAs vl K k) L x2 r0 r1 z)
    unfold cb_X5_sameAs
    split
    · exact fb_X5_sameAs_0 (fq_X5_sameAs k) hz (h9_r0 (by decide)) (h9_r1 (by decide))
    · exact fb_X5_sameAs_1 (fq_X5_sameAs k) hz (h9_r0 (by decide)) (h9_r1 (by decide))
    · exact fo_none
theorem ff_X5_sameAs {vl : Nat → Nat} {K : Nat} {r0 : Nat} {r1 : Nat} {z : ow_MS} : Fo Prod.snd (fun _ => False) z (ce_X5_sameAs vl K r0 r1 z) := fq_X5_sameAs (pr0 := r0) (pr1 := r1) K 0 _ _ _ z fr_rf (fun _ => rfl) (fun _ => rfl)
theorem ff_X11_equal {vl : Nat → Nat} {K : Nat} {r0 : Nat} {x1 : Int32} {x2 : Int32} {z : ow_MS} : Fo Prod.snd (fun g => r0 + 46001 ≤ g ∧ g ≤ r0 + 46006 ∨ r0 + 47001 ≤ g ∧ g ≤ r0 + 47006) z (ce_X11_equal vl K r0 x1 x2 z) := by
  unfold ce_X11_equal cm_X11_equal_0
  exact (fo_cs1 ff_X11_hasBraid (fun g hg => hg.elim) fr_rf (fun v2 z1 h_z1 => (fo_if (fo_okZ (fo_some h_z1)) (fo_cs1 ff_X11_hasBraid (fun g hg => hg.elim) h_z1 (fun v4 z3 h_z3 => (fo_if (fo_okZ (fo_some h_z3)) (fc_crI (fun v5 => (fc_crI (fun v6 => (fo_if (fo_cs0 ff_X11_write (fun g hg => by omega) h_z3 (fun z7 h_z7 => (fo_cs0 ff_X11_write (fun g hg => by omega) h_z7 (fun z8 h_z8 => (fo_cs1 ff_X5_sameAs (fun g hg => hg.elim) h_z8 (fun v10 z9 h_z9 => (fo_okZ (fo_some h_z9)))))))) (fo_okZ (fo_some h_z3)))))))))))))
theorem fb_X1_rankAt_0 {K : Nat} {vl : Nat → Nat} {z0 z : ow_MS} {pr0 : Nat} {go : Nat → Int32 → Int32 → Int64 → Int64 → Nat → ow_MS → Option (Int32 × ow_MS)} {x1 : Int32} {x2 : Int32} {w3 : Int64} {w5 : Int64} {r0 : Nat} (hgo : ∀ (L : Nat) (x1 : Int32) (x2 : Int32) (w3 : Int64) (w5 : Int64) (r0 : Nat) (z : ow_MS), fr (fun _ => False) z0 z → (L = 0 ∨ L = 1 → r0 = pr0) → Fo Prod.snd (fun _ => False) z0 (go L x1 x2 w3 w5 r0 z)) (hz : fr (fun _ => False) z0 z) (e_r0 : r0 = pr0) : Fo Prod.snd (fun _ => False) z0 (cm_X1_rankAt_0 vl K go x1 x2 w3 w5 r0 z) := by
  unfold cm_X1_rankAt_0
  exact (fo_rdF (fun v1 => (fo_rdF (fun v2 => (fo_rdF (fun v3 => (fo_if (hgo 1 _ _ _ _ _ z hz (fun _ => by omega)) (fo_if (hgo 1 _ _ _ _ _ z hz (fun _ => by omega)) (fo_if (hgo 1 _ _ _ _ _ z hz (fun _ => by omega)) (fo_if (fc_crI (fun v4 => (fo_some hz))) (hgo 1 _ _ _ _ _ z hz (fun _ => by omega))))))))))))
theorem fb_X1_rankAt_1 {K : Nat} {vl : Nat → Nat} {z0 z : ow_MS} {pr0 : Nat} {go : Nat → Int32 → Int32 → Int64 → Int64 → Nat → ow_MS → Option (Int32 × ow_MS)} {x1 : Int32} {x2 : Int32} {w3 : Int64} {w5 : Int64} {r0 : Nat} (hgo : ∀ (L : Nat) (x1 : Int32) (x2 : Int32) (w3 : Int64) (w5 : Int64) (r0 : Nat) (z : ow_MS), fr (fun _ => False) z0 z → (L = 0 ∨ L = 1 → r0 = pr0) → Fo Prod.snd (fun _ => False) z0 (go L x1 x2 w3 w5 r0 z)) (hz : fr (fun _ => False) z0 z) (e_r0 : r0 = pr0) : Fo Prod.snd (fun _ => False) z0 (cm_X1_rankAt_1 vl K go x1 x2 w3 w5 r0 z) := by
  unfold cm_X1_rankAt_1
  exact (fo_some hz)
theorem fq_X1_rankAt {K : Nat} {vl : Nat → Nat} {z0 : ow_MS} {pr0 : Nat} : ∀ (k L : Nat) (x1 : Int32) (x2 : Int32) (w3 : Int64) (w5 : Int64) (r0 : Nat) (z : ow_MS), fr (fun _ => False) z0 z → (L = 0 ∨ L = 1 → r0 = pr0) → Fo Prod.snd (fun _ => False) z0 (c_X1_rankAt vl K k L x1 x2 w3 w5 r0 z)
  | 0 => by
    intros
    exact fo_none
  | k + 1 => by
    intro L x1 x2 w3 w5 r0 z hz h9_r0
    show Fo Prod.snd (fun _ => False) z0 (cb_X1_rankAt vl K (c_X1_rankAt vl K k) L x1 x2 w3 w5 r0 z)
    unfold cb_X1_rankAt
    split
    · exact fb_X1_rankAt_0 (fq_X1_rankAt k) hz (h9_r0 (by decide))
    · exact fb_X1_rankAt_1 (fq_X1_rankAt k) hz (h9_r0 (by decide))
    · exact fo_none
theorem ff_X1_rankAt {vl : Nat → Nat} {K : Nat} {r0 : Nat} {x1 : Int32} {x2 : Int32} {z : ow_MS} : Fo Prod.snd (fun _ => False) z (ce_X1_rankAt vl K r0 x1 x2 z) := fq_X1_rankAt (pr0 := r0) K 0 _ _ _ _ _ z fr_rf (fun _ => rfl)
theorem ff_X11_rank {vl : Nat → Nat} {K : Nat} {r0 : Nat} {x1 : Int32} {x2 : Int32} {z : ow_MS} : Fo Prod.snd (fun _ => False) z (ce_X11_rank vl K r0 x1 x2 z) := by
  unfold ce_X11_rank cm_X11_rank_0
  exact (fo_cs1 ff_X1_rankAt (fun g hg => hg.elim) fr_rf (fun v2 z1 h_z1 => (fo_some h_z1)))
theorem ff_X11_needFewStrands {vl : Nat → Nat} {K : Nat} {r0 : Nat} {x1 : Int32} {z : ow_MS} : Fo Prod.snd (fun _ => False) z (ce_X11_needFewStrands vl K r0 x1 z) := by
  unfold ce_X11_needFewStrands cm_X11_needFewStrands_0
  exact (fc_crI (fun v1 => (fo_if (fo_some fr_rf) (fo_some fr_rf))))
theorem ff_X5_copy {vl : Nat → Nat} {K : Nat} {r0 : Nat} {r1 : Nat} {z : ow_MS} : Fo id (fun g => r0 + 1 ≤ g ∧ g ≤ r0 + 6) z (ce_X5_copy vl K r0 r1 z) := by
  unfold ce_X5_copy cm_X5_copy_0
  exact (fo_rdF (fun v1 => (fo_cs0 ff_X5_begin (fun g hg => by omega) fr_rf (fun z2 h_z2 => (fo_rdF (fun v3 => (fo_wrF (by omega) h_z2 (fun z4 h_z4 => (fo_rdF (fun v5 => (fo_wrF (by omega) h_z4 (fun z6 h_z6 => (fo_rdF (fun v7 => (fc_cpI (by omega) h_z6 (fun z8 h_z8 => (fo_some h_z8)))))))))))))))))
theorem fb_X10_changesOf_0 {K : Nat} {vl : Nat → Nat} {z0 z : ow_MS} {pr0 : Nat} {go : Nat → Int32 → Int32 → Int32 → Int32 → Nat → Int32 → Int32 → ow_MS → Option (Int32 × ow_MS)} {x1 : Int32} {x2 : Int32} {x3 : Int32} {x4 : Int32} {r0 : Nat} {t0 : Int32} {t1 : Int32} (hgo : ∀ (L : Nat) (x1 : Int32) (x2 : Int32) (x3 : Int32) (x4 : Int32) (r0 : Nat) (t0 : Int32) (t1 : Int32) (z : ow_MS), fr (fun _ => False) z0 z → (L = 0 ∨ L = 1 ∨ L = 2 ∨ L = 3 → r0 = pr0) → Fo Prod.snd (fun _ => False) z0 (go L x1 x2 x3 x4 r0 t0 t1 z)) (hz : fr (fun _ => False) z0 z) (e_r0 : r0 = pr0) : Fo Prod.snd (fun _ => False) z0 (cm_X10_changesOf_0 vl K go x1 x2 x3 x4 r0 t0 t1 z) := by
  unfold cm_X10_changesOf_0
  exact (hgo 1 _ _ _ _ _ _ _ z hz (fun _ => by omega))
theorem fb_X10_changesOf_1 {K : Nat} {vl : Nat → Nat} {z0 z : ow_MS} {pr0 : Nat} {go : Nat → Int32 → Int32 → Int32 → Int32 → Nat → Int32 → Int32 → ow_MS → Option (Int32 × ow_MS)} {x1 : Int32} {x2 : Int32} {x3 : Int32} {x4 : Int32} {r0 : Nat} {t0 : Int32} {t1 : Int32} (hgo : ∀ (L : Nat) (x1 : Int32) (x2 : Int32) (x3 : Int32) (x4 : Int32) (r0 : Nat) (t0 : Int32) (t1 : Int32) (z : ow_MS), fr (fun _ => False) z0 z → (L = 0 ∨ L = 1 ∨ L = 2 ∨ L = 3 → r0 = pr0) → Fo Prod.snd (fun _ => False) z0 (go L x1 x2 x3 x4 r0 t0 t1 z)) (hz : fr (fun _ => False) z0 z) (e_r0 : r0 = pr0) : Fo Prod.snd (fun _ => False) z0 (cm_X10_changesOf_1 vl K go x1 x2 x3 x4 r0 t0 t1 z) := by
  unfold cm_X10_changesOf_1
  exact (fo_rdF (fun v1 => (fo_if (fo_some hz) (hgo 2 _ _ _ _ _ _ _ z hz (fun _ => by omega)))))
theorem fb_X10_changesOf_2 {K : Nat} {vl : Nat → Nat} {z0 z : ow_MS} {pr0 : Nat} {go : Nat → Int32 → Int32 → Int32 → Int32 → Nat → Int32 → Int32 → ow_MS → Option (Int32 × ow_MS)} {x1 : Int32} {x2 : Int32} {x3 : Int32} {x4 : Int32} {r0 : Nat} {t0 : Int32} {t1 : Int32} (hgo : ∀ (L : Nat) (x1 : Int32) (x2 : Int32) (x3 : Int32) (x4 : Int32) (r0 : Nat) (t0 : Int32) (t1 : Int32) (z : ow_MS), fr (fun _ => False) z0 z → (L = 0 ∨ L = 1 ∨ L = 2 ∨ L = 3 → r0 = pr0) → Fo Prod.snd (fun _ => False) z0 (go L x1 x2 x3 x4 r0 t0 t1 z)) (hz : fr (fun _ => False) z0 z) (e_r0 : r0 = pr0) : Fo Prod.snd (fun _ => False) z0 (cm_X10_changesOf_2 vl K go x1 x2 x3 x4 r0 t0 t1 z) := by
  unfold cm_X10_changesOf_2
  exact (fo_rdF (fun v2 => (fo_if (hgo 1 _ _ _ _ _ _ _ z hz (fun _ => by omega)) (fo_cs1 ff_X5_image (fun g hg => hg.elim) hz (fun v4 z3 h_z3 => (fo_cs1 ff_X5_image (fun g hg => hg.elim) h_z3 (fun v6 z5 h_z5 => (fo_if (hgo 3 _ _ _ _ _ _ _ z5 h_z5 (fun _ => by omega)) (hgo 3 _ _ _ _ _ _ _ z5 h_z5 (fun _ => by omega))))))))))
theorem fb_X10_changesOf_3 {K : Nat} {vl : Nat → Nat} {z0 z : ow_MS} {pr0 : Nat} {go : Nat → Int32 → Int32 → Int32 → Int32 → Nat → Int32 → Int32 → ow_MS → Option (Int32 × ow_MS)} {x1 : Int32} {x2 : Int32} {x3 : Int32} {x4 : Int32} {r0 : Nat} {t0 : Int32} {t1 : Int32} (hgo : ∀ (L : Nat) (x1 : Int32) (x2 : Int32) (x3 : Int32) (x4 : Int32) (r0 : Nat) (t0 : Int32) (t1 : Int32) (z : ow_MS), fr (fun _ => False) z0 z → (L = 0 ∨ L = 1 ∨ L = 2 ∨ L = 3 → r0 = pr0) → Fo Prod.snd (fun _ => False) z0 (go L x1 x2 x3 x4 r0 t0 t1 z)) (hz : fr (fun _ => False) z0 z) (e_r0 : r0 = pr0) : Fo Prod.snd (fun _ => False) z0 (cm_X10_changesOf_3 vl K go x1 x2 x3 x4 r0 t0 t1 z) := by
  unfold cm_X10_changesOf_3
  exact (hgo 2 _ _ _ _ _ _ _ z hz (fun _ => by omega))
theorem fq_X10_changesOf {K : Nat} {vl : Nat → Nat} {z0 : ow_MS} {pr0 : Nat} : ∀ (k L : Nat) (x1 : Int32) (x2 : Int32) (x3 : Int32) (x4 : Int32) (r0 : Nat) (t0 : Int32) (t1 : Int32) (z : ow_MS), fr (fun _ => False) z0 z → (L = 0 ∨ L = 1 ∨ L = 2 ∨ L = 3 → r0 = pr0) → Fo Prod.snd (fun _ => False) z0 (c_X10_changesOf vl K k L x1 x2 x3 x4 r0 t0 t1 z)
  | 0 => by
    intros
    exact fo_none
  | k + 1 => by
    intro L x1 x2 x3 x4 r0 t0 t1 z hz h9_r0
    show Fo Prod.snd (fun _ => False) z0 (cb_X10_changesOf vl K (c_X10_changesOf vl K k) L x1 x2 x3 x4 r0 t0 t1 z)
    unfold cb_X10_changesOf
    split
    · exact fb_X10_changesOf_0 (fq_X10_changesOf k) hz (h9_r0 (by decide))
    · exact fb_X10_changesOf_1 (fq_X10_changesOf k) hz (h9_r0 (by decide))
    · exact fb_X10_changesOf_2 (fq_X10_changesOf k) hz (h9_r0 (by decide))
    · exact fb_X10_changesOf_3 (fq_X10_changesOf k) hz (h9_r0 (by decide))
    · exact fo_none
theorem ff_X10_changesOf {vl : Nat → Nat} {K : Nat} {r0 : Nat} {x1 : Int32} {z : ow_MS} : Fo Prod.snd (fun _ => False) z (ce_X10_changesOf vl K r0 x1 z) := fq_X10_changesOf (pr0 := r0) K 0 _ _ _ _ _ _ _ z fr_rf (fun _ => rfl)
theorem fb_X10_listSimples_0 {K : Nat} {vl : Nat → Nat} {z0 z : ow_MS} {pr0 : Nat} {go : Nat → Int32 → Int32 → Int32 → Int32 → Int32 → Nat → Int32 → ow_MS → Option ow_MS} {x1 : Int32} {x2 : Int32} {x3 : Int32} {x4 : Int32} {x5 : Int32} {r0 : Nat} {t0 : Int32} (hgo : ∀ (L : Nat) (x1 : Int32) (x2 : Int32) (x3 : Int32) (x4 : Int32) (x5 : Int32) (r0 : Nat) (t0 : Int32) (z : ow_MS), fr (fun g => pr0 + 8 ≤ g ∧ g ≤ pr0 + 11) z0 z → (L = 0 ∨ L = 1 ∨ L = 2 ∨ L = 3 ∨ L = 4 ∨ L = 5 ∨ L = 6 → r0 = pr0) → Fo id (fun g => pr0 + 8 ≤ g ∧ g ≤ pr0 + 11) z0 (go L x1 x2 x3 x4 x5 r0 t0 z)) (hz : fr (fun g => pr0 + 8 ≤ g ∧ g ≤ pr0 + 11) z0 z) (e_r0 : r0 = pr0) : Fo id (fun g => pr0 + 8 ≤ g ∧ g ≤ pr0 + 11) z0 (cm_X10_listSimples_0 vl K go x1 x2 x3 x4 x5 r0 t0 z) := by
  unfold cm_X10_listSimples_0
  exact (fo_wrF (by omega) hz (fun z1 h_z1 => (hgo 1 _ _ _ _ _ _ _ z1 h_z1 (fun _ => by omega))))
theorem fb_X10_listSimples_1 {K : Nat} {vl : Nat → Nat} {z0 z : ow_MS} {pr0 : Nat} {go : Nat → Int32 → Int32 → Int32 → Int32 → Int32 → Nat → Int32 → ow_MS → Option ow_MS} {x1 : Int32} {x2 : Int32} {x3 : Int32} {x4 : Int32} {x5 : Int32} {r0 : Nat} {t0 : Int32} (hgo : ∀ (L : Nat) (x1 : Int32) (x2 : Int32) (x3 : Int32) (x4 : Int32) (x5 : Int32) (r0 : Nat) (t0 : Int32) (z : ow_MS), fr (fun g => pr0 + 8 ≤ g ∧ g ≤ pr0 + 11) z0 z → (L = 0 ∨ L = 1 ∨ L = 2 ∨ L = 3 ∨ L = 4 ∨ L = 5 ∨ L = 6 → r0 = pr0) → Fo id (fun g => pr0 + 8 ≤ g ∧ g ≤ pr0 + 11) z0 (go L x1 x2 x3 x4 x5 r0 t0 z)) (hz : fr (fun g => pr0 + 8 ≤ g ∧ g ≤ pr0 + 11) z0 z) (e_r0 : r0 = pr0) : Fo id (fun g => pr0 + 8 ≤ g ∧ g ≤ pr0 + 11) z0 (cm_X10_listSimples_1 vl K go x1 x2 x3 x4 x5 r0 t0 z) := by
  unfold cm_X10_listSimples_1
  exact (fo_if (fo_some hz) (hgo 2 _ _ _ _ _ _ _ z hz (fun _ => by omega)))
theorem fb_X10_listSimples_2 {K : Nat} {vl : Nat → Nat} {z0 z : ow_MS} {pr0 : Nat} {go : Nat → Int32 → Int32 → Int32 → Int32 → Int32 → Nat → Int32 → ow_MS → Option ow_MS} {x1 : Int32} {x2 : Int32} {x3 : Int32} {x4 : Int32} {x5 : Int32} {r0 : Nat} {t0 : Int32} (hgo : ∀ (L : Nat) (x1 : Int32) (x2 : Int32) (x3 : Int32) (x4 : Int32) (x5 : Int32) (r0 : Nat) (t0 : Int32) (z : ow_MS), fr (fun g => pr0 + 8 ≤ g ∧ g ≤ pr0 + 11) z0 z → (L = 0 ∨ L = 1 ∨ L = 2 ∨ L = 3 ∨ L = 4 ∨ L = 5 ∨ L = 6 → r0 = pr0) → Fo id (fun g => pr0 + 8 ≤ g ∧ g ≤ pr0 + 11) z0 (go L x1 x2 x3 x4 x5 r0 t0 z)) (hz : fr (fun g => pr0 + 8 ≤ g ∧ g ≤ pr0 + 11) z0 z) (e_r0 : r0 = pr0) : Fo id (fun g => pr0 + 8 ≤ g ∧ g ≤ pr0 + 11) z0 (cm_X10_listSimples_2 vl K go x1 x2 x3 x4 x5 r0 t0 z) := by
  unfold cm_X10_listSimples_2
  exact (fo_rdF (fun v2 => (fo_if (hgo 1 _ _ _ _ _ _ _ z hz (fun _ => by omega)) (hgo 3 _ _ _ _ _ _ _ z hz (fun _ => by omega)))))
theorem fb_X10_listSimples_3 {K : Nat} {vl : Nat → Nat} {z0 z : ow_MS} {pr0 : Nat} {go : Nat → Int32 → Int32 → Int32 → Int32 → Int32 → Nat → Int32 → ow_MS → Option ow_MS} {x1 : Int32} {x2 : Int32} {x3 : Int32} {x4 : Int32} {x5 : Int32} {r0 : Nat} {t0 : Int32} (hgo : ∀ (L : Nat) (x1 : Int32) (x2 : Int32) (x3 : Int32) (x4 : Int32) (x5 : Int32) (r0 : Nat) (t0 : Int32) (z : ow_MS), fr (fun g => pr0 + 8 ≤ g ∧ g ≤ pr0 + 11) z0 z → (L = 0 ∨ L = 1 ∨ L = 2 ∨ L = 3 ∨ L = 4 ∨ L = 5 ∨ L = 6 → r0 = pr0) → Fo id (fun g => pr0 + 8 ≤ g ∧ g ≤ pr0 + 11) z0 (go L x1 x2 x3 x4 x5 r0 t0 z)) (hz : fr (fun g => pr0 + 8 ≤ g ∧ g ≤ pr0 + 11) z0 z) (e_r0 : r0 = pr0) : Fo id (fun g => pr0 + 8 ≤ g ∧ g ≤ pr0 + 11) z0 (cm_X10_listSimples_3 vl K go x1 x2 x3 x4 x5 r0 t0 z) := by
  unfold cm_X10_listSimples_3
  exact (fo_rdF (fun v3 => (fo_if (fo_rdF (fun v4 => (fo_if (fo_rdF (fun v5 => (fo_if (hgo 4 _ _ _ _ _ _ _ z hz (fun _ => by omega)) (hgo 5 _ _ _ _ _ _ _ z hz (fun _ => by omega))))) (hgo 4 _ _ _ _ _ _ _ z hz (fun _ => by omega))))) (hgo 3 _ _ _ _ _ _ _ z hz (fun _ => by omega)))))
theorem fb_X10_listSimples_4 {K : Nat} {vl : Nat → Nat} {z0 z : ow_MS} {pr0 : Nat} {go : Nat → Int32 → Int32 → Int32 → Int32 → Int32 → Nat → Int32 → ow_MS → Option ow_MS} {x1 : Int32} {x2 : Int32} {x3 : Int32} {x4 : Int32} {x5 : Int32} {r0 : Nat} {t0 : Int32} (hgo : ∀ (L : Nat) (x1 : Int32) (x2 : Int32) (x3 : Int32) (x4 : Int32) (x5 : Int32) (r0 : Nat) (t0 : Int32) (z : ow_MS), fr (fun g => pr0 + 8 ≤ g ∧ g ≤ pr0 + 11) z0 z → (L = 0 ∨ L = 1 ∨ L = 2 ∨ L = 3 ∨ L = 4 ∨ L = 5 ∨ L = 6 → r0 = pr0) → Fo id (fun g => pr0 + 8 ≤ g ∧ g ≤ pr0 + 11) z0 (go L x1 x2 x3 x4 x5 r0 t0 z)) (hz : fr (fun g => pr0 + 8 ≤ g ∧ g ≤ pr0 + 11) z0 z) (e_r0 : r0 = pr0) : Fo id (fun g => pr0 + 8 ≤ g ∧ g ≤ pr0 + 11) z0 (cm_X10_listSimples_4 vl K go x1 x2 x3 x4 x5 r0 t0 z) := by
  unfold cm_X10_listSimples_4
  exact (hgo 5 _ _ _ _ _ _ _ z hz (fun _ => by omega))
theorem fb_X10_listSimples_5 {K : Nat} {vl : Nat → Nat} {z0 z : ow_MS} {pr0 : Nat} {go : Nat → Int32 → Int32 → Int32 → Int32 → Int32 → Nat → Int32 → ow_MS → Option ow_MS} {x1 : Int32} {x2 : Int32} {x3 : Int32} {x4 : Int32} {x5 : Int32} {r0 : Nat} {t0 : Int32} (hgo : ∀ (L : Nat) (x1 : Int32) (x2 : Int32) (x3 : Int32) (x4 : Int32) (x5 : Int32) (r0 : Nat) (t0 : Int32) (z : ow_MS), fr (fun g => pr0 + 8 ≤ g ∧ g ≤ pr0 + 11) z0 z → (L = 0 ∨ L = 1 ∨ L = 2 ∨ L = 3 ∨ L = 4 ∨ L = 5 ∨ L = 6 → r0 = pr0) → Fo id (fun g => pr0 + 8 ≤ g ∧ g ≤ pr0 + 11) z0 (go L x1 x2 x3 x4 x5 r0 t0 z)) (hz : fr (fun g => pr0 + 8 ≤ g ∧ g ≤ pr0 + 11) z0 z) (e_r0 : r0 = pr0) : Fo id (fun g => pr0 + 8 ≤ g ∧ g ≤ pr0 + 11) z0 (cm_X10_listSimples_5 vl K go x1 x2 x3 x4 x5 r0 t0 z) := by
  unfold cm_X10_listSimples_5
  exact (fo_if (hgo 6 _ _ _ _ _ _ _ z hz (fun _ => by omega)) (fo_cs1 ff_X10_changesOf (fun g hg => hg.elim) hz (fun v7 z6 h_z6 => (fo_if (fo_rdF (fun v9 => (fc_ctI (by omega) h_z6 (fun z10 h_z10 => (fo_rdF (fun v11 => (fo_cs1 ff_X10_changesOf (fun g hg => hg.elim) h_z10 (fun v13 z12 h_z12 => (fc_ctI (by omega) h_z12 (fun z14 h_z14 => (fo_rdF (fun v15 => (fo_wrF (by omega) h_z14 (fun z16 h_z16 => (hgo 6 _ _ _ _ _ _ _ z16 h_z16 (fun _ => by omega)))))))))))))))) (hgo 6 _ _ _ _ _ _ _ z6 h_z6 (fun _ => by omega))))))
theorem fb_X10_listSimples_6 {K : Nat} {vl : Nat → Nat} {z0 z : ow_MS} {pr0 : Nat} {go : Nat → Int32 → Int32 → Int32 → Int32 → Int32 → Nat → Int32 → ow_MS → Option ow_MS} {x1 : Int32} {x2 : Int32} {x3 : Int32} {x4 : Int32} {x5 : Int32} {r0 : Nat} {t0 : Int32} (hgo : ∀ (L : Nat) (x1 : Int32) (x2 : Int32) (x3 : Int32) (x4 : Int32) (x5 : Int32) (r0 : Nat) (t0 : Int32) (z : ow_MS), fr (fun g => pr0 + 8 ≤ g ∧ g ≤ pr0 + 11) z0 z → (L = 0 ∨ L = 1 ∨ L = 2 ∨ L = 3 ∨ L = 4 ∨ L = 5 ∨ L = 6 → r0 = pr0) → Fo id (fun g => pr0 + 8 ≤ g ∧ g ≤ pr0 + 11) z0 (go L x1 x2 x3 x4 x5 r0 t0 z)) (hz : fr (fun g => pr0 + 8 ≤ g ∧ g ≤ pr0 + 11) z0 z) (e_r0 : r0 = pr0) : Fo id (fun g => pr0 + 8 ≤ g ∧ g ≤ pr0 + 11) z0 (cm_X10_listSimples_6 vl K go x1 x2 x3 x4 x5 r0 t0 z) := by
  unfold cm_X10_listSimples_6
  exact (hgo 2 _ _ _ _ _ _ _ z hz (fun _ => by omega))
theorem fq_X10_listSimples {K : Nat} {vl : Nat → Nat} {z0 : ow_MS} {pr0 : Nat} : ∀ (k L : Nat) (x1 : Int32) (x2 : Int32) (x3 : Int32) (x4 : Int32) (x5 : Int32) (r0 : Nat) (t0 : Int32) (z : ow_MS), fr (fun g => pr0 + 8 ≤ g ∧ g ≤ pr0 + 11) z0 z → (L = 0 ∨ L = 1 ∨ L = 2 ∨ L = 3 ∨ L = 4 ∨ L = 5 ∨ L = 6 → r0 = pr0) → Fo id (fun g => pr0 + 8 ≤ g ∧ g ≤ pr0 + 11) z0 (c_X10_listSimples vl K k L x1 x2 x3 x4 x5 r0 t0 z)
  | 0 => by
    intros
    exact fo_none
  | k + 1 => by
    intro L x1 x2 x3 x4 x5 r0 t0 z hz h9_r0
    show Fo id (fun g => pr0 + 8 ≤ g ∧ g ≤ pr0 + 11) z0 (cb_X10_listSimples vl K (c_X10_listSimples vl K k) L x1 x2 x3 x4 x5 r0 t0 z)
    unfold cb_X10_listSimples
    split
    · exact fb_X10_listSimples_0 (fq_X10_listSimples k) hz (h9_r0 (by decide))
    · exact fb_X10_listSimples_1 (fq_X10_listSimples k) hz (h9_r0 (by decide))
    · exact fb_X10_listSimples_2 (fq_X10_listSimples k) hz (h9_r0 (by decide))
    · exact fb_X10_listSimples_3 (fq_X10_listSimples k) hz (h9_r0 (by decide))
    · exact fb_X10_listSimples_4 (fq_X10_listSimples k) hz (h9_r0 (by decide))
    · exact fb_X10_listSimples_5 (fq_X10_listSimples k) hz (h9_r0 (by decide))
    · exact fb_X10_listSimples_6 (fq_X10_listSimples k) hz (h9_r0 (by decide))
    · exact fo_none
theorem ff_X10_listSimples {vl : Nat → Nat} {K : Nat} {r0 : Nat} {z : ow_MS} : Fo id (fun g => r0 + 8 ≤ g ∧ g ≤ r0 + 11) z (ce_X10_listSimples vl K r0 z) := fq_X10_listSimples (pr0 := r0) K 0 _ _ _ _ _ _ _ z fr_rf (fun _ => rfl)
theorem fb_X5_cycle_0 {K : Nat} {vl : Nat → Nat} {z0 z : ow_MS} {pr0 : Nat} {go : Nat → Nat → Int32 → ow_MS → Option ow_MS} {r0 : Nat} {t0 : Int32} (hgo : ∀ (L : Nat) (r0 : Nat) (t0 : Int32) (z : ow_MS), fr (fun g => pr0 + 2 ≤ g ∧ g ≤ pr0 + 4) z0 z → (L = 0 ∨ L = 1 → r0 = pr0) → Fo id (fun g => pr0 + 2 ≤ g ∧ g ≤ pr0 + 4) z0 (go L r0 t0 z)) (hz : fr (fun g => pr0 + 2 ≤ g ∧ g ≤ pr0 + 4) z0 z) (e_r0 : r0 = pr0) : Fo id (fun g => pr0 + 2 ≤ g ∧ g ≤ pr0 + 4) z0 (cm_X5_cycle_0 vl K go r0 t0 z) := by
  unfold cm_X5_cycle_0
  exact (fo_rdF (fun v1 => (fo_if (fo_some hz) (fo_rdF (fun v2 => (fo_if (fc_crI (fun v7 => (hgo 1 _ _ z hz (fun _ => by omega)))) (fc_crI (fun v3 => (fo_rdF (fun v4 => (fo_cs1 ff_X5_turned (fun g hg => hg.elim) hz (fun v6 z5 h_z5 => (hgo 1 _ _ z5 h_z5 (fun _ => by omega))))))))))))))
theorem fb_X5_cycle_1 {K : Nat} {vl : Nat → Nat} {z0 z : ow_MS} {pr0 : Nat} {go : Nat → Nat → Int32 → ow_MS → Option ow_MS} {r0 : Nat} {t0 : Int32} (hgo : ∀ (L : Nat) (r0 : Nat) (t0 : Int32) (z : ow_MS), fr (fun g => pr0 + 2 ≤ g ∧ g ≤ pr0 + 4) z0 z → (L = 0 ∨ L = 1 → r0 = pr0) → Fo id (fun g => pr0 + 2 ≤ g ∧ g ≤ pr0 + 4) z0 (go L r0 t0 z)) (hz : fr (fun g => pr0 + 2 ≤ g ∧ g ≤ pr0 + 4) z0 z) (e_r0 : r0 = pr0) : Fo id (fun g => pr0 + 2 ≤ g ∧ g ≤ pr0 + 4) z0 (cm_X5_cycle_1 vl K go r0 t0 z) := by
  unfold cm_X5_cycle_1
  exact (fo_rdF (fun v8 => (fo_wrF (by omega) hz (fun z9 h_z9 => (fo_rdF (fun v10 => (fc_cpI (by omega) h_z9 (fun z11 h_z11 => (fo_cs0 ff_X5_putBehind (fun g hg => by omega) h_z11 (fun z12 h_z12 => (fo_some h_z12)))))))))))
theorem fq_X5_cycle {K : Nat} {vl : Nat → Nat} {z0 : ow_MS} {pr0 : Nat} : ∀ (k L : Nat) (r0 : Nat) (t0 : Int32) (z : ow_MS), fr (fun g => pr0 + 2 ≤ g ∧ g ≤ pr0 + 4) z0 z → (L = 0 ∨ L = 1 → r0 = pr0) → Fo id (fun g => pr0 + 2 ≤ g ∧ g ≤ pr0 + 4) z0 (c_X5_cycle vl K k L r0 t0 z)
  | 0 => by
    intros
    exact fo_none
  | k + 1 => by
    intro L r0 t0 z hz h9_r0
    show Fo id (fun g => pr0 + 2 ≤ g ∧ g ≤ pr0 + 4) z0 (cb_X5_cycle vl K (c_X5_cycle vl K k) L r0 t0 z)
    unfold cb_X5_cycle
    split
    · exact fb_X5_cycle_0 (fq_X5_cycle k) hz (h9_r0 (by decide))
    · exact fb_X5_cycle_1 (fq_X5_cycle k) hz (h9_r0 (by decide))
    · exact fo_none
theorem ff_X5_cycle {vl : Nat → Nat} {K : Nat} {r0 : Nat} {z : ow_MS} : Fo id (fun g => r0 + 2 ≤ g ∧ g ≤ r0 + 4) z (ce_X5_cycle vl K r0 z) := fq_X5_cycle (pr0 := r0) K 0 _ _ z fr_rf (fun _ => rfl)
theorem fb_X5_putBefore_0 {K : Nat} {vl : Nat → Nat} {z0 z : ow_MS} {pr0 : Nat} {go : Nat → Int32 → Int32 → Int32 → Nat → ow_MS → Option ow_MS} {x1 : Int32} {x2 : Int32} {x3 : Int32} {r0 : Nat} (hgo : ∀ (L : Nat) (x1 : Int32) (x2 : Int32) (x3 : Int32) (r0 : Nat) (z : ow_MS), fr (fun g => pr0 + 2 ≤ g ∧ g ≤ pr0 + 4) z0 z → (L = 0 ∨ L = 1 ∨ L = 2 → r0 = pr0) → Fo id (fun g => pr0 + 2 ≤ g ∧ g ≤ pr0 + 4) z0 (go L x1 x2 x3 r0 z)) (hz : fr (fun g => pr0 + 2 ≤ g ∧ g ≤ pr0 + 4) z0 z) (e_r0 : r0 = pr0) : Fo id (fun g => pr0 + 2 ≤ g ∧ g ≤ pr0 + 4) z0 (cm_X5_putBefore_0 vl K go x1 x2 x3 r0 z) := by
  unfold cm_X5_putBefore_0
  exact (fo_rdF (fun v1 => (fo_if (fo_rdF (fun v2 => (fc_cpI (by omega) hz (fun z3 h_z3 => (fc_ctI (by omega) h_z3 (fun z4 h_z4 => (fo_rdF (fun v5 => (fo_wrF (by omega) h_z4 (fun z6 h_z6 => (hgo 1 _ _ _ _ z6 h_z6 (fun _ => by omega)))))))))))) (fo_some hz))))
theorem fb_X5_putBefore_1 {K : Nat} {vl : Nat → Nat} {z0 z : ow_MS} {pr0 : Nat} {go : Nat → Int32 → Int32 → Int32 → Nat → ow_MS → Option ow_MS} {x1 : Int32} {x2 : Int32} {x3 : Int32} {r0 : Nat} (hgo : ∀ (L : Nat) (x1 : Int32) (x2 : Int32) (x3 : Int32) (r0 : Nat) (z : ow_MS), fr (fun g => pr0 + 2 ≤ g ∧ g ≤ pr0 + 4) z0 z → (L = 0 ∨ L = 1 ∨ L = 2 → r0 = pr0) → Fo id (fun g => pr0 + 2 ≤ g ∧ g ≤ pr0 + 4) z0 (go L x1 x2 x3 r0 z)) (hz : fr (fun g => pr0 + 2 ≤ g ∧ g ≤ pr0 + 4) z0 z) (e_r0 : r0 = pr0) : Fo id (fun g => pr0 + 2 ≤ g ∧ g ≤ pr0 + 4) z0 (cm_X5_putBefore_1 vl K go x1 x2 x3 r0 z) := by
  unfold cm_X5_putBefore_1
  exact (fo_rdF (fun v7 => (fo_if (hgo 2 _ _ _ _ z hz (fun _ => by omega)) (fo_if (hgo 2 _ _ _ _ z hz (fun _ => by omega)) (fo_cs1 ff_X5_weigh (fun g hg => by omega) hz (fun v9 z8 h_z8 => (hgo 1 _ _ _ _ z8 h_z8 (fun _ => by omega))))))))
theorem fb_X5_putBefore_2 {K : Nat} {vl : Nat → Nat} {z0 z : ow_MS} {pr0 : Nat} {go : Nat → Int32 → Int32 → Int32 → Nat → ow_MS → Option ow_MS} {x1 : Int32} {x2 : Int32} {x3 : Int32} {r0 : Nat} (hgo : ∀ (L : Nat) (x1 : Int32) (x2 : Int32) (x3 : Int32) (r0 : Nat) (z : ow_MS), fr (fun g => pr0 + 2 ≤ g ∧ g ≤ pr0 + 4) z0 z → (L = 0 ∨ L = 1 ∨ L = 2 → r0 = pr0) → Fo id (fun g => pr0 + 2 ≤ g ∧ g ≤ pr0 + 4) z0 (go L x1 x2 x3 r0 z)) (hz : fr (fun g => pr0 + 2 ≤ g ∧ g ≤ pr0 + 4) z0 z) (e_r0 : r0 = pr0) : Fo id (fun g => pr0 + 2 ≤ g ∧ g ≤ pr0 + 4) z0 (cm_X5_putBefore_2 vl K go x1 x2 x3 r0 z) := by
  unfold cm_X5_putBefore_2
  exact (fo_cs0 ff_X5_strip (fun g hg => by omega) hz (fun z10 h_z10 => (fo_some h_z10)))
theorem fq_X5_putBefore {K : Nat} {vl : Nat → Nat} {z0 : ow_MS} {pr0 : Nat} : ∀ (k L : Nat) (x1 : Int32) (x2 : Int32) (x3 : Int32) (r0 : Nat) (z : ow_MS), fr (fun g => pr0 + 2 ≤ g ∧ g ≤ pr0 + 4) z0 z → (L = 0 ∨ L = 1 ∨ L = 2 → r0 = pr0) → Fo id (fun g => pr0 + 2 ≤ g ∧ g ≤ pr0 + 4) z0 (c_X5_putBefore vl K k L x1 x2 x3 r0 z)
  | 0 => by
    intros
    exact fo_none
  | k + 1 => by
    intro L x1 x2 x3 r0 z hz h9_r0
    show Fo id (fun g => pr0 + 2 ≤ g ∧ g ≤ pr0 + 4) z0 (cb_X5_putBefore vl K (c_X5_putBefore vl K k) L x1 x2 x3 r0 z)
    unfold cb_X5_putBefore
    split
    · exact fb_X5_putBefore_0 (fq_X5_putBefore k) hz (h9_r0 (by decide))
    · exact fb_X5_putBefore_1 (fq_X5_putBefore k) hz (h9_r0 (by decide))
    · exact fb_X5_putBefore_2 (fq_X5_putBefore k) hz (h9_r0 (by decide))
    · exact fo_none
theorem ff_X5_putBefore {vl : Nat → Nat} {K : Nat} {r0 : Nat} {x1 : Int32} {z : ow_MS} : Fo id (fun g => r0 + 2 ≤ g ∧ g ≤ r0 + 4) z (ce_X5_putBefore vl K r0 x1 z) := fq_X5_putBefore (pr0 := r0) K 0 _ _ _ _ z fr_rf (fun _ => rfl)
theorem fb_X5_decycle_0 {K : Nat} {vl : Nat → Nat} {z0 z : ow_MS} {pr0 : Nat} {go : Nat → Int32 → Nat → Int32 → ow_MS → Option ow_MS} {x1 : Int32} {r0 : Nat} {t0 : Int32} (hgo : ∀ (L : Nat) (x1 : Int32) (r0 : Nat) (t0 : Int32) (z : ow_MS), fr (fun g => pr0 + 2 ≤ g ∧ g ≤ pr0 + 4) z0 z → (L = 0 ∨ L = 1 → r0 = pr0) → Fo id (fun g => pr0 + 2 ≤ g ∧ g ≤ pr0 + 4) z0 (go L x1 r0 t0 z)) (hz : fr (fun g => pr0 + 2 ≤ g ∧ g ≤ pr0 + 4) z0 z) (e_r0 : r0 = pr0) : Fo id (fun g => pr0 + 2 ≤ g ∧ g ≤ pr0 + 4) z0 (cm_X5_decycle_0 vl K go x1 r0 t0 z) := by
  unfold cm_X5_decycle_0
  exact (fo_rdF (fun v1 => (fo_if (fo_some hz) (fo_rdF (fun v2 => (fc_crI (fun v3 => (fo_rdF (fun v4 => (fo_wrF (by omega) hz (fun z5 h_z5 => (fo_rdF (fun v6 => (fo_if (hgo 1 _ _ _ z5 h_z5 (fun _ => by omega)) (fo_rdF (fun v7 => (fo_cs1 ff_X5_turned (fun g hg => hg.elim) h_z5 (fun v9 z8 h_z8 => (hgo 1 _ _ _ z8 h_z8 (fun _ => by omega))))))))))))))))))))
theorem fb_X5_decycle_1 {K : Nat} {vl : Nat → Nat} {z0 z : ow_MS} {pr0 : Nat} {go : Nat → Int32 → Nat → Int32 → ow_MS → Option ow_MS} {x1 : Int32} {r0 : Nat} {t0 : Int32} (hgo : ∀ (L : Nat) (x1 : Int32) (r0 : Nat) (t0 : Int32) (z : ow_MS), fr (fun g => pr0 + 2 ≤ g ∧ g ≤ pr0 + 4) z0 z → (L = 0 ∨ L = 1 → r0 = pr0) → Fo id (fun g => pr0 + 2 ≤ g ∧ g ≤ pr0 + 4) z0 (go L x1 r0 t0 z)) (hz : fr (fun g => pr0 + 2 ≤ g ∧ g ≤ pr0 + 4) z0 z) (e_r0 : r0 = pr0) : Fo id (fun g => pr0 + 2 ≤ g ∧ g ≤ pr0 + 4) z0 (cm_X5_decycle_1 vl K go x1 r0 t0 z) := by
  unfold cm_X5_decycle_1
  exact (fo_cs0 ff_X5_putBefore (fun g hg => by omega) hz (fun z10 h_z10 => (fo_some h_z10)))
theorem fq_X5_decycle {K : Nat} {vl : Nat → Nat} {z0 : ow_MS} {pr0 : Nat} : ∀ (k L : Nat) (x1 : Int32) (r0 : Nat) (t0 : Int32) (z : ow_MS), fr (fun g => pr0 + 2 ≤ g ∧ g ≤ pr0 + 4) z0 z → (L = 0 ∨ L = 1 → r0 = pr0) → Fo id (fun g => pr0 + 2 ≤ g ∧ g ≤ pr0 + 4) z0 (c_X5_decycle vl K k L x1 r0 t0 z)
  | 0 => by
    intros
    exact fo_none
  | k + 1 => by
    intro L x1 r0 t0 z hz h9_r0
    show Fo id (fun g => pr0 + 2 ≤ g ∧ g ≤ pr0 + 4) z0 (cb_X5_decycle vl K (c_X5_decycle vl K k) L x1 r0 t0 z)
    unfold cb_X5_decycle
    split
    · exact fb_X5_decycle_0 (fq_X5_decycle k) hz (h9_r0 (by decide))
    · exact fb_X5_decycle_1 (fq_X5_decycle k) hz (h9_r0 (by decide))
    · exact fo_none
theorem ff_X5_decycle {vl : Nat → Nat} {K : Nat} {r0 : Nat} {z : ow_MS} : Fo id (fun g => r0 + 2 ≤ g ∧ g ≤ r0 + 4) z (ce_X5_decycle vl K r0 z) := fq_X5_decycle (pr0 := r0) K 0 _ _ _ z fr_rf (fun _ => rfl)
theorem fb_X10_climb_0 {K : Nat} {vl : Nat → Nat} {z0 z : ow_MS} {pr0 : Nat} {go : Nat → Int32 → Int32 → Int32 → Nat → Int32 → ow_MS → Option ow_MS} {x1 : Int32} {x2 : Int32} {x3 : Int32} {r0 : Nat} {t0 : Int32} (hgo : ∀ (L : Nat) (x1 : Int32) (x2 : Int32) (x3 : Int32) (r0 : Nat) (t0 : Int32) (z : ow_MS), fr (fun g => pr0 + 1002 ≤ g ∧ g ≤ pr0 + 1004) z0 z → (L = 0 ∨ L = 1 ∨ L = 2 ∨ L = 3 ∨ L = 4 ∨ L = 5 → r0 = pr0) → Fo id (fun g => pr0 + 1002 ≤ g ∧ g ≤ pr0 + 1004) z0 (go L x1 x2 x3 r0 t0 z)) (hz : fr (fun g => pr0 + 1002 ≤ g ∧ g ≤ pr0 + 1004) z0 z) (e_r0 : r0 = pr0) : Fo id (fun g => pr0 + 1002 ≤ g ∧ g ≤ pr0 + 1004) z0 (cm_X10_climb_0 vl K go x1 x2 x3 r0 t0 z) := by
  unfold cm_X10_climb_0
  exact (hgo 1 _ _ _ _ _ z hz (fun _ => by omega))
theorem fb_X10_climb_1 {K : Nat} {vl : Nat → Nat} {z0 z : ow_MS} {pr0 : Nat} {go : Nat → Int32 → Int32 → Int32 → Nat → Int32 → ow_MS → Option ow_MS} {x1 : Int32} {x2 : Int32} {x3 : Int32} {r0 : Nat} {t0 : Int32} (hgo : ∀ (L : Nat) (x1 : Int32) (x2 : Int32) (x3 : Int32) (r0 : Nat) (t0 : Int32) (z : ow_MS), fr (fun g => pr0 + 1002 ≤ g ∧ g ≤ pr0 + 1004) z0 z → (L = 0 ∨ L = 1 ∨ L = 2 ∨ L = 3 ∨ L = 4 ∨ L = 5 → r0 = pr0) → Fo id (fun g => pr0 + 1002 ≤ g ∧ g ≤ pr0 + 1004) z0 (go L x1 x2 x3 r0 t0 z)) (hz : fr (fun g => pr0 + 1002 ≤ g ∧ g ≤ pr0 + 1004) z0 z) (e_r0 : r0 = pr0) : Fo id (fun g => pr0 + 1002 ≤ g ∧ g ≤ pr0 + 1004) z0 (cm_X10_climb_1 vl K go x1 x2 x3 r0 t0 z) := by
  unfold cm_X10_climb_1
  exact (fo_if (hgo 3 _ _ _ _ _ z hz (fun _ => by omega)) (fo_if (hgo 3 _ _ _ _ _ z hz (fun _ => by omega)) (fo_rdF (fun v1 => (fo_cs0 ff_X5_cycle (fun g hg => by omega) hz (fun z2 h_z2 => (fo_rdF (fun v3 => (fo_if (hgo 2 _ _ _ _ _ z2 h_z2 (fun _ => by omega)) (hgo 2 _ _ _ _ _ z2 h_z2 (fun _ => by omega)))))))))))
theorem fb_X10_climb_2 {K : Nat} {vl : Nat → Nat} {z0 z : ow_MS} {pr0 : Nat} {go : Nat → Int32 → Int32 → Int32 → Nat → Int32 → ow_MS → Option ow_MS} {x1 : Int32} {x2 : Int32} {x3 : Int32} {r0 : Nat} {t0 : Int32} (hgo : ∀ (L : Nat) (x1 : Int32) (x2 : Int32) (x3 : Int32) (r0 : Nat) (t0 : Int32) (z : ow_MS), fr (fun g => pr0 + 1002 ≤ g ∧ g ≤ pr0 + 1004) z0 z → (L = 0 ∨ L = 1 ∨ L = 2 ∨ L = 3 ∨ L = 4 ∨ L = 5 → r0 = pr0) → Fo id (fun g => pr0 + 1002 ≤ g ∧ g ≤ pr0 + 1004) z0 (go L x1 x2 x3 r0 t0 z)) (hz : fr (fun g => pr0 + 1002 ≤ g ∧ g ≤ pr0 + 1004) z0 z) (e_r0 : r0 = pr0) : Fo id (fun g => pr0 + 1002 ≤ g ∧ g ≤ pr0 + 1004) z0 (cm_X10_climb_2 vl K go x1 x2 x3 r0 t0 z) := by
  unfold cm_X10_climb_2
  exact (hgo 1 _ _ _ _ _ z hz (fun _ => by omega))
theorem fb_X10_climb_3 {K : Nat} {vl : Nat → Nat} {z0 z : ow_MS} {pr0 : Nat} {go : Nat → Int32 → Int32 → Int32 → Nat → Int32 → ow_MS → Option ow_MS} {x1 : Int32} {x2 : Int32} {x3 : Int32} {r0 : Nat} {t0 : Int32} (hgo : ∀ (L : Nat) (x1 : Int32) (x2 : Int32) (x3 : Int32) (r0 : Nat) (t0 : Int32) (z : ow_MS), fr (fun g => pr0 + 1002 ≤ g ∧ g ≤ pr0 + 1004) z0 z → (L = 0 ∨ L = 1 ∨ L = 2 ∨ L = 3 ∨ L = 4 ∨ L = 5 → r0 = pr0) → Fo id (fun g => pr0 + 1002 ≤ g ∧ g ≤ pr0 + 1004) z0 (go L x1 x2 x3 r0 t0 z)) (hz : fr (fun g => pr0 + 1002 ≤ g ∧ g ≤ pr0 + 1004) z0 z) (e_r0 : r0 = pr0) : Fo id (fun g => pr0 + 1002 ≤ g ∧ g ≤ pr0 + 1004) z0 (cm_X10_climb_3 vl K go x1 x2 x3 r0 t0 z) := by
  unfold cm_X10_climb_3
  exact (hgo 4 _ _ _ _ _ z hz (fun _ => by omega))
theorem fb_X10_climb_4 {K : Nat} {vl : Nat → Nat} {z0 z : ow_MS} {pr0 : Nat} {go : Nat → Int32 → Int32 → Int32 → Nat → Int32 → ow_MS → Option ow_MS} {x1 : Int32} {x2 : Int32} {x3 : Int32} {r0 : Nat} {t0 : Int32} (hgo : ∀ (L : Nat) (x1 : Int32) (x2 : Int32) (x3 : Int32) (r0 : Nat) (t0 : Int32) (z : ow_MS), fr (fun g => pr0 + 1002 ≤ g ∧ g ≤ pr0 + 1004) z0 z → (L = 0 ∨ L = 1 ∨ L = 2 ∨ L = 3 ∨ L = 4 ∨ L = 5 → r0 = pr0) → Fo id (fun g => pr0 + 1002 ≤ g ∧ g ≤ pr0 + 1004) z0 (go L x1 x2 x3 r0 t0 z)) (hz : fr (fun g => pr0 + 1002 ≤ g ∧ g ≤ pr0 + 1004) z0 z) (e_r0 : r0 = pr0) : Fo id (fun g => pr0 + 1002 ≤ g ∧ g ≤ pr0 + 1004) z0 (cm_X10_climb_4 vl K go x1 x2 x3 r0 t0 z) := by
  unfold cm_X10_climb_4
  exact (fo_if (fo_some hz) (fo_if (fo_some hz) (fo_rdF (fun v4 => (fo_rdF (fun v5 => (fo_cs0 ff_X5_decycle (fun g hg => by omega) hz (fun z6 h_z6 => (fo_rdF (fun v7 => (fo_rdF (fun v8 => (fo_if (hgo 5 _ _ _ _ _ z6 h_z6 (fun _ => by omega)) (hgo 5 _ _ _ _ _ z6 h_z6 (fun _ => by omega)))))))))))))))
theorem fb_X10_climb_5 {K : Nat} {vl : Nat → Nat} {z0 z : ow_MS} {pr0 : Nat} {go : Nat → Int32 → Int32 → Int32 → Nat → Int32 → ow_MS → Option ow_MS} {x1 : Int32} {x2 : Int32} {x3 : Int32} {r0 : Nat} {t0 : Int32} (hgo : ∀ (L : Nat) (x1 : Int32) (x2 : Int32) (x3 : Int32) (r0 : Nat) (t0 : Int32) (z : ow_MS), fr (fun g => pr0 + 1002 ≤ g ∧ g ≤ pr0 + 1004) z0 z → (L = 0 ∨ L = 1 ∨ L = 2 ∨ L = 3 ∨ L = 4 ∨ L = 5 → r0 = pr0) → Fo id (fun g => pr0 + 1002 ≤ g ∧ g ≤ pr0 + 1004) z0 (go L x1 x2 x3 r0 t0 z)) (hz : fr (fun g => pr0 + 1002 ≤ g ∧ g ≤ pr0 + 1004) z0 z) (e_r0 : r0 = pr0) : Fo id (fun g => pr0 + 1002 ≤ g ∧ g ≤ pr0 + 1004) z0 (cm_X10_climb_5 vl K go x1 x2 x3 r0 t0 z) := by
  unfold cm_X10_climb_5
  exact (hgo 4 _ _ _ _ _ z hz (fun _ => by omega))
theorem fq_X10_climb {K : Nat} {vl : Nat → Nat} {z0 : ow_MS} {pr0 : Nat} : ∀ (k L : Nat) (x1 : Int32) (x2 : Int32) (x3 : Int32) (r0 : Nat) (t0 : Int32) (z : ow_MS), fr (fun g => pr0 + 1002 ≤ g ∧ g ≤ pr0 + 1004) z0 z → (L = 0 ∨ L = 1 ∨ L = 2 ∨ L = 3 ∨ L = 4 ∨ L = 5 → r0 = pr0) → Fo id (fun g => pr0 + 1002 ≤ g ∧ g ≤ pr0 + 1004) z0 (c_X10_climb vl K k L x1 x2 x3 r0 t0 z)
  | 0 => by
    intros
    exact fo_none
  | k + 1 => by
    intro L x1 x2 x3 r0 t0 z hz h9_r0
    show Fo id (fun g => pr0 + 1002 ≤ g ∧ g ≤ pr0 + 1004) z0 (cb_X10_climb vl K (c_X10_climb vl K k) L x1 x2 x3 r0 t0 z)
    unfold cb_X10_climb
    split
    · exact fb_X10_climb_0 (fq_X10_climb k) hz (h9_r0 (by decide))
    · exact fb_X10_climb_1 (fq_X10_climb k) hz (h9_r0 (by decide))
    · exact fb_X10_climb_2 (fq_X10_climb k) hz (h9_r0 (by decide))
    · exact fb_X10_climb_3 (fq_X10_climb k) hz (h9_r0 (by decide))
    · exact fb_X10_climb_4 (fq_X10_climb k) hz (h9_r0 (by decide))
    · exact fb_X10_climb_5 (fq_X10_climb k) hz (h9_r0 (by decide))
    · exact fo_none
theorem ff_X10_climb {vl : Nat → Nat} {K : Nat} {r0 : Nat} {z : ow_MS} : Fo id (fun g => r0 + 1002 ≤ g ∧ g ≤ r0 + 1004) z (ce_X10_climb vl K r0 z) := fq_X10_climb (pr0 := r0) K 0 _ _ _ _ _ z fr_rf (fun _ => rfl)
theorem fb_X10_compare_0 {K : Nat} {vl : Nat → Nat} {z0 z : ow_MS} {pr0 : Nat} {pr1 : Nat} {pr3 : Nat} {go : Nat → Int32 → Int32 → Int32 → Nat → Nat → Nat → ow_MS → Option (Int32 × ow_MS)} {x2 : Int32} {x4 : Int32} {x5 : Int32} {r0 : Nat} {r1 : Nat} {r3 : Nat} (hgo : ∀ (L : Nat) (x2 : Int32) (x4 : Int32) (x5 : Int32) (r0 : Nat) (r1 : Nat) (r3 : Nat) (z : ow_MS), fr (fun _ => False) z0 z → (L = 0 ∨ L = 1 → r0 = pr0) → (L = 0 ∨ L = 1 → r1 = pr1) → (L = 0 ∨ L = 1 → r3 = pr3) → Fo Prod.snd (fun _ => False) z0 (go L x2 x4 x5 r0 r1 r3 z)) (hz : fr (fun _ => False) z0 z) (e_r0 : r0 = pr0) (e_r1 : r1 = pr1) (e_r3 : r3 = pr3) : Fo Prod.snd (fun _ => False) z0 (cm_X10_compare_0 vl K go x2 x4 x5 r0 r1 r3 z) := by
  unfold cm_X10_compare_0
  exact (hgo 1 _ _ _ _ _ _ z hz (fun _ => by omega) (fun _ => by omega) (fun _ => by omega))
theorem fb_X10_compare_1 {K : Nat} {vl : Nat → Nat} {z0 z : ow_MS} {pr0 : Nat} {pr1 : Nat} {pr3 : Nat} {go : Nat → Int32 → Int32 → Int32 → Nat → Nat → Nat → ow_MS → Option (Int32 × ow_MS)} {x2 : Int32} {x4 : Int32} {x5 : Int32} {r0 : Nat} {r1 : Nat} {r3 : Nat} (hgo : ∀ (L : Nat) (x2 : Int32) (x4 : Int32) (x5 : Int32) (r0 : Nat) (r1 : Nat) (r3 : Nat) (z : ow_MS), fr (fun _ => False) z0 z → (L = 0 ∨ L = 1 → r0 = pr0) → (L = 0 ∨ L = 1 → r1 = pr1) → (L = 0 ∨ L = 1 → r3 = pr3) → Fo Prod.snd (fun _ => False) z0 (go L x2 x4 x5 r0 r1 r3 z)) (hz : fr (fun _ => False) z0 z) (e_r0 : r0 = pr0) (e_r1 : r1 = pr1) (e_r3 : r3 = pr3) : Fo Prod.snd (fun _ => False) z0 (cm_X10_compare_1 vl K go x2 x4 x5 r0 r1 r3 z) := by
  unfold cm_X10_compare_1
  exact (fo_rdF (fun v1 => (fo_if (fo_some hz) (fc_crI (fun v2 => (fc_crI (fun v3 => (fo_if (hgo 1 _ _ _ _ _ _ z hz (fun _ => by omega) (fun _ => by omega) (fun _ => by omega)) (fc_crI (fun v4 => (fc_crI (fun v5 => (fo_if (fo_some hz) (fo_some hz))))))))))))))
theorem fq_X10_compare {K : Nat} {vl : Nat → Nat} {z0 : ow_MS} {pr0 : Nat} {pr1 : Nat} {pr3 : Nat} : ∀ (k L : Nat) (x2 : Int32) (x4 : Int32) (x5 : Int32) (r0 : Nat) (r1 : Nat) (r3 : Nat) (z : ow_MS), fr (fun _ => False) z0 z → (L = 0 ∨ L = 1 → r0 = pr0) → (L = 0 ∨ L = 1 → r1 = pr1) → (L = 0 ∨ L = 1 → r3 = pr3) → Fo Prod.snd (fun _ => False) z0 (c_X10_compare vl K k L x2 x4 x5 r0 r1 r3 z)
  | 0 => by
    intros
    exact fo_none
  | k + 1 => by
    intro L x2 x4 x5 r0 r1 r3 z hz h9_r0 h9_r1 h9_r3
    show Fo Prod.snd (fun _ => False) z0 (cb_X10_compare vl K (c_X10_compare vl K k) L x2 x4 x5 r0 r1 r3 z)
    unfold cb_X10_compare
    split
    · exact fb_X10_compare_0 (fq_X10_compare k) hz (h9_r0 (by decide)) (h9_r1 (by decide)) (h9_r3 (by decide))
    · exact fb_X10_compare_1 (fq_X10_compare k) hz (h9_r0 (by decide)) (h9_r1 (by decide)) (h9_r3 (by decide))
    · exact fo_none
theorem ff_X10_compare {vl : Nat → Nat} {K : Nat} {r0 : Nat} {r1 : Nat} {x2 : Int32} {r3 : Nat} {x4 : Int32} {z : ow_MS} : Fo Prod.snd (fun _ => False) z (ce_X10_compare vl K r0 r1 x2 r3 x4 z) := fq_X10_compare (pr0 := r0) (pr1 := r1) (pr3 := r3) K 0 _ _ _ _ _ _ z fr_rf (fun _ => rfl) (fun _ => rfl) (fun _ => rfl)
theorem fb_X10_add_0 {K : Nat} {vl : Nat → Nat} {z0 z : ow_MS} {pr0 : Nat} {go : Nat → Int32 → Int32 → Int32 → Int32 → Int32 → Nat → ow_MS → Option ow_MS} {x1 : Int32} {x2 : Int32} {x3 : Int32} {x4 : Int32} {x5 : Int32} {r0 : Nat} (hgo : ∀ (L : Nat) (x1 : Int32) (x2 : Int32) (x3 : Int32) (x4 : Int32) (x5 : Int32) (r0 : Nat) (z : ow_MS), fr (fun g => pr0 + 4 ≤ g ∧ g ≤ pr0 + 6) z0 z → (L = 0 ∨ L = 1 ∨ L = 2 ∨ L = 3 → r0 = pr0) → Fo id (fun g => pr0 + 4 ≤ g ∧ g ≤ pr0 + 6) z0 (go L x1 x2 x3 x4 x5 r0 z)) (hz : fr (fun g => pr0 + 4 ≤ g ∧ g ≤ pr0 + 6) z0 z) (e_r0 : r0 = pr0) : Fo id (fun g => pr0 + 4 ≤ g ∧ g ≤ pr0 + 6) z0 (cm_X10_add_0 vl K go x1 x2 x3 x4 x5 r0 z) := by
  unfold cm_X10_add_0
  exact (fo_rdF (fun v1 => (hgo 1 _ _ _ _ _ _ z hz (fun _ => by omega))))
theorem fb_X10_add_1 {K : Nat} {vl : Nat → Nat} {z0 z : ow_MS} {pr0 : Nat} {go : Nat → Int32 → Int32 → Int32 → Int32 → Int32 → Nat → ow_MS → Option ow_MS} {x1 : Int32} {x2 : Int32} {x3 : Int32} {x4 : Int32} {x5 : Int32} {r0 : Nat} (hgo : ∀ (L : Nat) (x1 : Int32) (x2 : Int32) (x3 : Int32) (x4 : Int32) (x5 : Int32) (r0 : Nat) (z : ow_MS), fr (fun g => pr0 + 4 ≤ g ∧ g ≤ pr0 + 6) z0 z → (L = 0 ∨ L = 1 ∨ L = 2 ∨ L = 3 → r0 = pr0) → Fo id (fun g => pr0 + 4 ≤ g ∧ g ≤ pr0 + 6) z0 (go L x1 x2 x3 x4 x5 r0 z)) (hz : fr (fun g => pr0 + 4 ≤ g ∧ g ≤ pr0 + 6) z0 z) (e_r0 : r0 = pr0) : Fo id (fun g => pr0 + 4 ≤ g ∧ g ≤ pr0 + 6) z0 (cm_X10_add_1 vl K go x1 x2 x3 x4 x5 r0 z) := by
  unfold cm_X10_add_1
  exact (fo_if (hgo 3 _ _ _ _ _ _ z hz (fun _ => by omega)) (fo_if (hgo 3 _ _ _ _ _ _ z hz (fun _ => by omega)) (fc_crI (fun v2 => (fo_cs1 ff_X10_compare (fun g hg => hg.elim) hz (fun v4 z3 h_z3 => (fo_if (fo_some h_z3) (fo_if (hgo 2 _ _ _ _ _ _ z3 h_z3 (fun _ => by omega)) (hgo 2 _ _ _ _ _ _ z3 h_z3 (fun _ => by omega))))))))))
theorem fb_X10_add_2 {K : Nat} {vl : Nat → Nat} {z0 z : ow_MS} {pr0 : Nat} {go : Nat → Int32 → Int32 → Int32 → Int32 → Int32 → Nat → ow_MS → Option ow_MS} {x1 : Int32} {x2 : Int32} {x3 : Int32} {x4 : Int32} {x5 : Int32} {r0 : Nat} (hgo : ∀ (L : Nat) (x1 : Int32) (x2 : Int32) (x3 : Int32) (x4 : Int32) (x5 : Int32) (r0 : Nat) (z : ow_MS), fr (fun g => pr0 + 4 ≤ g ∧ g ≤ pr0 + 6) z0 z → (L = 0 ∨ L = 1 ∨ L = 2 ∨ L = 3 → r0 = pr0) → Fo id (fun g => pr0 + 4 ≤ g ∧ g ≤ pr0 + 6) z0 (go L x1 x2 x3 x4 x5 r0 z)) (hz : fr (fun g => pr0 + 4 ≤ g ∧ g ≤ pr0 + 6) z0 z) (e_r0 : r0 = pr0) : Fo id (fun g => pr0 + 4 ≤ g ∧ g ≤ pr0 + 6) z0 (cm_X10_add_2 vl K go x1 x2 x3 x4 x5 r0 z) := by
  unfold cm_X10_add_2
  exact (hgo 1 _ _ _ _ _ _ z hz (fun _ => by omega))
theorem fb_X10_add_3 {K : Nat} {vl : Nat → Nat} {z0 z : ow_MS} {pr0 : Nat} {go : Nat → Int32 → Int32 → Int32 → Int32 → Int32 → Nat → ow_MS → Option ow_MS} {x1 : Int32} {x2 : Int32} {x3 : Int32} {x4 : Int32} {x5 : Int32} {r0 : Nat} (hgo : ∀ (L : Nat) (x1 : Int32) (x2 : Int32) (x3 : Int32) (x4 : Int32) (x5 : Int32) (r0 : Nat) (z : ow_MS), fr (fun g => pr0 + 4 ≤ g ∧ g ≤ pr0 + 6) z0 z → (L = 0 ∨ L = 1 ∨ L = 2 ∨ L = 3 → r0 = pr0) → Fo id (fun g => pr0 + 4 ≤ g ∧ g ≤ pr0 + 6) z0 (go L x1 x2 x3 x4 x5 r0 z)) (hz : fr (fun g => pr0 + 4 ≤ g ∧ g ≤ pr0 + 6) z0 z) (e_r0 : r0 = pr0) : Fo id (fun g => pr0 + 4 ≤ g ∧ g ≤ pr0 + 6) z0 (cm_X10_add_3 vl K go x1 x2 x3 x4 x5 r0 z) := by
  unfold cm_X10_add_3
  exact (fo_rdF (fun v5 => (fo_if (fo_some hz) (fo_rdF (fun v6 => (fo_if (fo_rdF (fun v7 => (fo_rdF (fun v8 => (fc_cpI (by omega) hz (fun z9 h_z9 => (fo_rdF (fun v10 => (fc_cpI (by omega) h_z9 (fun z11 h_z11 => (fo_rdF (fun v12 => (fc_ctI (by omega) h_z11 (fun z13 h_z13 => (fo_rdF (fun v14 => (fo_wrF (by omega) h_z13 (fun z15 h_z15 => (fo_some h_z15))))))))))))))))))) (fo_some hz)))))))
theorem fq_X10_add {K : Nat} {vl : Nat → Nat} {z0 : ow_MS} {pr0 : Nat} : ∀ (k L : Nat) (x1 : Int32) (x2 : Int32) (x3 : Int32) (x4 : Int32) (x5 : Int32) (r0 : Nat) (z : ow_MS), fr (fun g => pr0 + 4 ≤ g ∧ g ≤ pr0 + 6) z0 z → (L = 0 ∨ L = 1 ∨ L = 2 ∨ L = 3 → r0 = pr0) → Fo id (fun g => pr0 + 4 ≤ g ∧ g ≤ pr0 + 6) z0 (c_X10_add vl K k L x1 x2 x3 x4 x5 r0 z)
  | 0 => by
    intros
    exact fo_none
  | k + 1 => by
    intro L x1 x2 x3 x4 x5 r0 z hz h9_r0
    show Fo id (fun g => pr0 + 4 ≤ g ∧ g ≤ pr0 + 6) z0 (cb_X10_add vl K (c_X10_add vl K k) L x1 x2 x3 x4 x5 r0 z)
    unfold cb_X10_add
    split
    · exact fb_X10_add_0 (fq_X10_add k) hz (h9_r0 (by decide))
    · exact fb_X10_add_1 (fq_X10_add k) hz (h9_r0 (by decide))
    · exact fb_X10_add_2 (fq_X10_add k) hz (h9_r0 (by decide))
    · exact fb_X10_add_3 (fq_X10_add k) hz (h9_r0 (by decide))
    · exact fo_none
theorem ff_X10_add {vl : Nat → Nat} {K : Nat} {r0 : Nat} {z : ow_MS} : Fo id (fun g => r0 + 4 ≤ g ∧ g ≤ r0 + 6) z (ce_X10_add vl K r0 z) := fq_X10_add (pr0 := r0) K 0 _ _ _ _ _ _ z fr_rf (fun _ => rfl)
theorem ff_X10_begin {vl : Nat → Nat} {K : Nat} {r0 : Nat} {z : ow_MS} : Fo id (fun g => r0 + 2 ≤ g ∧ g ≤ r0 + 6) z (ce_X10_begin vl K r0 z) := by
  unfold ce_X10_begin cm_X10_begin_0
  exact (fo_rdF (fun v1 => (fo_wrF (by omega) fr_rf (fun z2 h_z2 => (fo_rdF (fun v3 => (fo_wrF (by omega) h_z2 (fun z4 h_z4 => (fo_wrF (by omega) h_z4 (fun z5 h_z5 => (fo_cs0 ff_X10_add (fun g hg => by omega) h_z5 (fun z6 h_z6 => (fo_some h_z6)))))))))))))
theorem fb_X10_goesOn_0 {K : Nat} {vl : Nat → Nat} {z0 z : ow_MS} {pr0 : Nat} {go : Nat → Int32 → Int32 → Int32 → Nat → ow_MS → Option (Int32 × ow_MS)} {x1 : Int32} {x2 : Int32} {x3 : Int32} {r0 : Nat} (hgo : ∀ (L : Nat) (x1 : Int32) (x2 : Int32) (x3 : Int32) (r0 : Nat) (z : ow_MS), fr (fun _ => False) z0 z → (L = 0 ∨ L = 1 → r0 = pr0) → Fo Prod.snd (fun _ => False) z0 (go L x1 x2 x3 r0 z)) (hz : fr (fun _ => False) z0 z) (e_r0 : r0 = pr0) : Fo Prod.snd (fun _ => False) z0 (cm_X10_goesOn_0 vl K go x1 x2 x3 r0 z) := by
  unfold cm_X10_goesOn_0
  exact (hgo 1 _ _ _ _ z hz (fun _ => by omega))
theorem fb_X10_goesOn_1 {K : Nat} {vl : Nat → Nat} {z0 z : ow_MS} {pr0 : Nat} {go : Nat → Int32 → Int32 → Int32 → Nat → ow_MS → Option (Int32 × ow_MS)} {x1 : Int32} {x2 : Int32} {x3 : Int32} {r0 : Nat} (hgo : ∀ (L : Nat) (x1 : Int32) (x2 : Int32) (x3 : Int32) (r0 : Nat) (z : ow_MS), fr (fun _ => False) z0 z → (L = 0 ∨ L = 1 → r0 = pr0) → Fo Prod.snd (fun _ => False) z0 (go L x1 x2 x3 r0 z)) (hz : fr (fun _ => False) z0 z) (e_r0 : r0 = pr0) : Fo Prod.snd (fun _ => False) z0 (cm_X10_goesOn_1 vl K go x1 x2 x3 r0 z) := by
  unfold cm_X10_goesOn_1
  exact (fo_if (fo_okZ (fo_some hz)) (fc_crI (fun v1 => (fc_crI (fun v2 => (fo_if (fo_okZ (fo_some hz)) (hgo 1 _ _ _ _ z hz (fun _ => by omega))))))))
theorem fq_X10_goesOn {K : Nat} {vl : Nat → Nat} {z0 : ow_MS} {pr0 : Nat} : ∀ (k L : Nat) (x1 : Int32) (x2 : Int32) (x3 : Int32) (r0 : Nat) (z : ow_MS), fr (fun _ => False) z0 z → (L = 0 ∨ L = 1 → r0 = pr0) → Fo Prod.snd (fun _ => False) z0 (c_X10_goesOn vl K k L x1 x2 x3 r0 z)
  | 0 => by
    intros
    exact fo_none
  | k + 1 => by
    intro L x1 x2 x3 r0 z hz h9_r0
    show Fo Prod.snd (fun _ => False) z0 (cb_X10_goesOn vl K (c_X10_goesOn vl K k) L x1 x2 x3 r0 z)
    unfold cb_X10_goesOn
    split
    · exact fb_X10_goesOn_0 (fq_X10_goesOn k) hz (h9_r0 (by decide))
    · exact fb_X10_goesOn_1 (fq_X10_goesOn k) hz (h9_r0 (by decide))
    · exact fo_none
theorem ff_X10_goesOn {vl : Nat → Nat} {K : Nat} {r0 : Nat} {x1 : Int32} {x2 : Int32} {z : ow_MS} : Fo Prod.snd (fun _ => False) z (ce_X10_goesOn vl K r0 x1 x2 z) := fq_X10_goesOn (pr0 := r0) K 0 _ _ _ _ z fr_rf (fun _ => rfl)
theorem fb_X5_conjugateBy_0 {K : Nat} {vl : Nat → Nat} {z0 z : ow_MS} {pr0 : Nat} {go : Nat → Int32 → Int32 → Int32 → Int32 → Nat → Int32 → ow_MS → Option ow_MS} {x1 : Int32} {x2 : Int32} {x3 : Int32} {x4 : Int32} {r0 : Nat} {t0 : Int32} (hgo : ∀ (L : Nat) (x1 : Int32) (x2 : Int32) (x3 : Int32) (x4 : Int32) (r0 : Nat) (t0 : Int32) (z : ow_MS), fr (fun g => pr0 + 2 ≤ g ∧ g ≤ pr0 + 4) z0 z → (L = 0 ∨ L = 1 ∨ L = 2 → r0 = pr0) → Fo id (fun g => pr0 + 2 ≤ g ∧ g ≤ pr0 + 4) z0 (go L x1 x2 x3 x4 r0 t0 z)) (hz : fr (fun g => pr0 + 2 ≤ g ∧ g ≤ pr0 + 4) z0 z) (e_r0 : r0 = pr0) : Fo id (fun g => pr0 + 2 ≤ g ∧ g ≤ pr0 + 4) z0 (cm_X5_conjugateBy_0 vl K go x1 x2 x3 x4 r0 t0 z) := by
  unfold cm_X5_conjugateBy_0
  exact (fo_rdF (fun v1 => (fo_cs1 ff_X5_invert (fun g hg => hg.elim) hz (fun v3 z2 h_z2 => (hgo 1 _ _ _ _ _ _ z2 h_z2 (fun _ => by omega))))))
theorem fb_X5_conjugateBy_1 {K : Nat} {vl : Nat → Nat} {z0 z : ow_MS} {pr0 : Nat} {go : Nat → Int32 → Int32 → Int32 → Int32 → Nat → Int32 → ow_MS → Option ow_MS} {x1 : Int32} {x2 : Int32} {x3 : Int32} {x4 : Int32} {r0 : Nat} {t0 : Int32} (hgo : ∀ (L : Nat) (x1 : Int32) (x2 : Int32) (x3 : Int32) (x4 : Int32) (r0 : Nat) (t0 : Int32) (z : ow_MS), fr (fun g => pr0 + 2 ≤ g ∧ g ≤ pr0 + 4) z0 z → (L = 0 ∨ L = 1 ∨ L = 2 → r0 = pr0) → Fo id (fun g => pr0 + 2 ≤ g ∧ g ≤ pr0 + 4) z0 (go L x1 x2 x3 x4 r0 t0 z)) (hz : fr (fun g => pr0 + 2 ≤ g ∧ g ≤ pr0 + 4) z0 z) (e_r0 : r0 = pr0) : Fo id (fun g => pr0 + 2 ≤ g ∧ g ≤ pr0 + 4) z0 (cm_X5_conjugateBy_1 vl K go x1 x2 x3 x4 r0 t0 z) := by
  unfold cm_X5_conjugateBy_1
  exact (fo_rdF (fun v4 => (fo_if (fo_rdF (fun v5 => (fo_if (hgo 2 _ _ _ _ _ _ z hz (fun _ => by omega)) (fo_rdF (fun v6 => (fo_cs1 ff_X5_turned (fun g hg => hg.elim) hz (fun v8 z7 h_z7 => (hgo 2 _ _ _ _ _ _ z7 h_z7 (fun _ => by omega))))))))) (fo_rdF (fun v9 => (fo_cs1 ff_X5_image (fun g hg => hg.elim) hz (fun v11 z10 h_z10 => (hgo 1 _ _ _ _ _ _ z10 h_z10 (fun _ => by omega)))))))))
theorem fb_X5_conjugateBy_2 {K : Nat} {vl : Nat → Nat} {z0 z : ow_MS} {pr0 : Nat} {go : Nat → Int32 → Int32 → Int32 → Int32 → Nat → Int32 → ow_MS → Option ow_MS} {x1 : Int32} {x2 : Int32} {x3 : Int32} {x4 : Int32} {r0 : Nat} {t0 : Int32} (hgo : ∀ (L : Nat) (x1 : Int32) (x2 : Int32) (x3 : Int32) (x4 : Int32) (r0 : Nat) (t0 : Int32) (z : ow_MS), fr (fun g => pr0 + 2 ≤ g ∧ g ≤ pr0 + 4) z0 z → (L = 0 ∨ L = 1 ∨ L = 2 → r0 = pr0) → Fo id (fun g => pr0 + 2 ≤ g ∧ g ≤ pr0 + 4) z0 (go L x1 x2 x3 x4 r0 t0 z)) (hz : fr (fun g => pr0 + 2 ≤ g ∧ g ≤ pr0 + 4) z0 z) (e_r0 : r0 = pr0) : Fo id (fun g => pr0 + 2 ≤ g ∧ g ≤ pr0 + 4) z0 (cm_X5_conjugateBy_2 vl K go x1 x2 x3 x4 r0 t0 z) := by
  unfold cm_X5_conjugateBy_2
  exact (fo_rdF (fun v12 => (fo_wrF (by omega) hz (fun z13 h_z13 => (fo_cs0 ff_X5_putBefore (fun g hg => by omega) h_z13 (fun z14 h_z14 => (fo_cs0 ff_X5_putBehind (fun g hg => by omega) h_z14 (fun z15 h_z15 => (fo_some h_z15)))))))))
theorem fq_X5_conjugateBy {K : Nat} {vl : Nat → Nat} {z0 : ow_MS} {pr0 : Nat} : ∀ (k L : Nat) (x1 : Int32) (x2 : Int32) (x3 : Int32) (x4 : Int32) (r0 : Nat) (t0 : Int32) (z : ow_MS), fr (fun g => pr0 + 2 ≤ g ∧ g ≤ pr0 + 4) z0 z → (L = 0 ∨ L = 1 ∨ L = 2 → r0 = pr0) → Fo id (fun g => pr0 + 2 ≤ g ∧ g ≤ pr0 + 4) z0 (c_X5_conjugateBy vl K k L x1 x2 x3 x4 r0 t0 z)
  | 0 => by
    intros
    exact fo_none
  | k + 1 => by
    intro L x1 x2 x3 x4 r0 t0 z hz h9_r0
    show Fo id (fun g => pr0 + 2 ≤ g ∧ g ≤ pr0 + 4) z0 (cb_X5_conjugateBy vl K (c_X5_conjugateBy vl K k) L x1 x2 x3 x4 r0 t0 z)
    unfold cb_X5_conjugateBy
    split
    · exact fb_X5_conjugateBy_0 (fq_X5_conjugateBy k) hz (h9_r0 (by decide))
    · exact fb_X5_conjugateBy_1 (fq_X5_conjugateBy k) hz (h9_r0 (by decide))
    · exact fb_X5_conjugateBy_2 (fq_X5_conjugateBy k) hz (h9_r0 (by decide))
    · exact fo_none
theorem ff_X5_conjugateBy {vl : Nat → Nat} {K : Nat} {r0 : Nat} {x1 : Int32} {z : ow_MS} : Fo id (fun g => r0 + 2 ≤ g ∧ g ≤ r0 + 4) z (ce_X5_conjugateBy vl K r0 x1 z) := fq_X5_conjugateBy (pr0 := r0) K 0 _ _ _ _ _ _ z fr_rf (fun _ => rfl)
theorem fb_X10_gather_0 {K : Nat} {vl : Nat → Nat} {z0 z : ow_MS} {pr0 : Nat} {go : Nat → Int32 → Int32 → Int32 → Nat → ow_MS → Option (Int32 × ow_MS)} {x1 : Int32} {x2 : Int32} {x3 : Int32} {r0 : Nat} (hgo : ∀ (L : Nat) (x1 : Int32) (x2 : Int32) (x3 : Int32) (r0 : Nat) (z : ow_MS), fr (fun g => pr0 + 4 ≤ g ∧ g ≤ pr0 + 10 ∨ pr0 + 1002 ≤ g ∧ g ≤ pr0 + 1004) z0 z → (L = 0 ∨ L = 1 ∨ L = 2 ∨ L = 3 ∨ L = 4 ∨ L = 5 → r0 = pr0) → Fo Prod.snd (fun g => pr0 + 4 ≤ g ∧ g ≤ pr0 + 10 ∨ pr0 + 1002 ≤ g ∧ g ≤ pr0 + 1004) z0 (go L x1 x2 x3 r0 z)) (hz : fr (fun g => pr0 + 4 ≤ g ∧ g ≤ pr0 + 10 ∨ pr0 + 1002 ≤ g ∧ g ≤ pr0 + 1004) z0 z) (e_r0 : r0 = pr0) : Fo Prod.snd (fun g => pr0 + 4 ≤ g ∧ g ≤ pr0 + 10 ∨ pr0 + 1002 ≤ g ∧ g ≤ pr0 + 1004) z0 (cm_X10_gather_0 vl K go x1 x2 x3 r0 z) := by
  unfold cm_X10_gather_0
  exact (hgo 1 _ _ _ _ z hz (fun _ => by omega))
theorem fb_X10_gather_1 {K : Nat} {vl : Nat → Nat} {z0 z : ow_MS} {pr0 : Nat} {go : Nat → Int32 → Int32 → Int32 → Nat → ow_MS → Option (Int32 × ow_MS)} {x1 : Int32} {x2 : Int32} {x3 : Int32} {r0 : Nat} (hgo : ∀ (L : Nat) (x1 : Int32) (x2 : Int32) (x3 : Int32) (r0 : Nat) (z : ow_MS), fr (fun g => pr0 + 4 ≤ g ∧ g ≤ pr0 + 10 ∨ pr0 + 1002 ≤ g ∧ g ≤ pr0 + 1004) z0 z → (L = 0 ∨ L = 1 ∨ L = 2 ∨ L = 3 ∨ L = 4 ∨ L = 5 → r0 = pr0) → Fo Prod.snd (fun g => pr0 + 4 ≤ g ∧ g ≤ pr0 + 10 ∨ pr0 + 1002 ≤ g ∧ g ≤ pr0 + 1004) z0 (go L x1 x2 x3 r0 z)) (hz : fr (fun g => pr0 + 4 ≤ g ∧ g ≤ pr0 + 10 ∨ pr0 + 1002 ≤ g ∧ g ≤ pr0 + 1004) z0 z) (e_r0 : r0 = pr0) : Fo Prod.snd (fun g => pr0 + 4 ≤ g ∧ g ≤ pr0 + 10 ∨ pr0 + 1002 ≤ g ∧ g ≤ pr0 + 1004) z0 (cm_X10_gather_1 vl K go x1 x2 x3 r0 z) := by
  unfold cm_X10_gather_1
  exact (fo_rdF (fun v1 => (fo_if (fo_okZ (fo_some hz)) (fo_rdF (fun v2 => (fo_if (fo_okZ (fo_some hz)) (hgo 2 _ _ _ _ z hz (fun _ => by omega))))))))
theorem fb_X10_gather_2 {K : Nat} {vl : Nat → Nat} {z0 z : ow_MS} {pr0 : Nat} {go : Nat → Int32 → Int32 → Int32 → Nat → ow_MS → Option (Int32 × ow_MS)} {x1 : Int32} {x2 : Int32} {x3 : Int32} {r0 : Nat} (hgo : ∀ (L : Nat) (x1 : Int32) (x2 : Int32) (x3 : Int32) (r0 : Nat) (z : ow_MS), fr (fun g => pr0 + 4 ≤ g ∧ g ≤ pr0 + 10 ∨ pr0 + 1002 ≤ g ∧ g ≤ pr0 + 1004) z0 z → (L = 0 ∨ L = 1 ∨ L = 2 ∨ L = 3 ∨ L = 4 ∨ L = 5 → r0 = pr0) → Fo Prod.snd (fun g => pr0 + 4 ≤ g ∧ g ≤ pr0 + 10 ∨ pr0 + 1002 ≤ g ∧ g ≤ pr0 + 1004) z0 (go L x1 x2 x3 r0 z)) (hz : fr (fun g => pr0 + 4 ≤ g ∧ g ≤ pr0 + 10 ∨ pr0 + 1002 ≤ g ∧ g ≤ pr0 + 1004) z0 z) (e_r0 : r0 = pr0) : Fo Prod.snd (fun g => pr0 + 4 ≤ g ∧ g ≤ pr0 + 10 ∨ pr0 + 1002 ≤ g ∧ g ≤ pr0 + 1004) z0 (cm_X10_gather_2 vl K go x1 x2 x3 r0 z) := by
  unfold cm_X10_gather_2
  exact (fo_rdF (fun v3 => (fo_if (hgo 5 _ _ _ _ z hz (fun _ => by omega)) (fo_rdF (fun v4 => (fo_if (hgo 5 _ _ _ _ z hz (fun _ => by omega)) (fo_cs1 ff_X10_goesOn (fun g hg => hg.elim) hz (fun v6 z5 h_z5 => (fo_if (fo_rdF (fun v7 => (fo_wrF (by omega) h_z5 (fun z8 h_z8 => (fo_rdF (fun v9 => (fo_wrF (by omega) h_z8 (fun z10 h_z10 => (fo_rdF (fun v11 => (fc_cpI (by omega) h_z10 (fun z12 h_z12 => (fc_crI (fun v13 => (fo_cs0 ff_X5_conjugateBy (fun g hg => by omega) h_z12 (fun z14 h_z14 => (fo_rdF (fun v15 => (fo_rdF (fun v16 => (fo_if (fo_okZ (fo_some h_z14)) (fo_rdF (fun v17 => (fo_rdF (fun v18 => (fo_if (fo_rdF (fun v19 => (fo_rdF (fun v20 => (fo_if (hgo 3 _ _ _ _ z14 h_z14 (fun _ => by omega)) (fo_okZ (fo_some h_z14))))))) (hgo 3 _ _ _ _ z14 h_z14 (fun _ => by omega)))))))))))))))))))))))))))) (hgo 4 _ _ _ _ z5 h_z5 (fun _ => by omega)))))))))))
theorem fb_X10_gather_3 {K : Nat} {vl : Nat → Nat} {z0 z : ow_MS} {pr0 : Nat} {go : Nat → Int32 → Int32 → Int32 → Nat → ow_MS → Option (Int32 × ow_MS)} {x1 : Int32} {x2 : Int32} {x3 : Int32} {r0 : Nat} (hgo : ∀ (L : Nat) (x1 : Int32) (x2 : Int32) (x3 : Int32) (r0 : Nat) (z : ow_MS), fr (fun g => pr0 + 4 ≤ g ∧ g ≤ pr0 + 10 ∨ pr0 + 1002 ≤ g ∧ g ≤ pr0 + 1004) z0 z → (L = 0 ∨ L = 1 ∨ L = 2 ∨ L = 3 ∨ L = 4 ∨ L = 5 → r0 = pr0) → Fo Prod.snd (fun g => pr0 + 4 ≤ g ∧ g ≤ pr0 + 10 ∨ pr0 + 1002 ≤ g ∧ g ≤ pr0 + 1004) z0 (go L x1 x2 x3 r0 z)) (hz : fr (fun g => pr0 + 4 ≤ g ∧ g ≤ pr0 + 10 ∨ pr0 + 1002 ≤ g ∧ g ≤ pr0 + 1004) z0 z) (e_r0 : r0 = pr0) : Fo Prod.snd (fun g => pr0 + 4 ≤ g ∧ g ≤ pr0 + 10 ∨ pr0 + 1002 ≤ g ∧ g ≤ pr0 + 1004) z0 (cm_X10_gather_3 vl K go x1 x2 x3 r0 z) := by
  unfold cm_X10_gather_3
  exact (fo_rdF (fun v21 => (fo_rdF (fun v22 => (fo_if (fo_rdF (fun v23 => (fo_rdF (fun v24 => (fo_if (fo_cs0 ff_X10_add (fun g hg => by omega) hz (fun z25 h_z25 => (fc_crI (fun v26 => (fc_ctI (by omega) h_z25 (fun z27 h_z27 => (hgo 4 _ _ _ _ z27 h_z27 (fun _ => by omega)))))))) (hgo 4 _ _ _ _ z hz (fun _ => by omega))))))) (hgo 4 _ _ _ _ z hz (fun _ => by omega)))))))
theorem fb_X10_gather_4 {K : Nat} {vl : Nat → Nat} {z0 z : ow_MS} {pr0 : Nat} {go : Nat → Int32 → Int32 → Int32 → Nat → ow_MS → Option (Int32 × ow_MS)} {x1 : Int32} {x2 : Int32} {x3 : Int32} {r0 : Nat} (hgo : ∀ (L : Nat) (x1 : Int32) (x2 : Int32) (x3 : Int32) (r0 : Nat) (z : ow_MS), fr (fun g => pr0 + 4 ≤ g ∧ g ≤ pr0 + 10 ∨ pr0 + 1002 ≤ g ∧ g ≤ pr0 + 1004) z0 z → (L = 0 ∨ L = 1 ∨ L = 2 ∨ L = 3 ∨ L = 4 ∨ L = 5 → r0 = pr0) → Fo Prod.snd (fun g => pr0 + 4 ≤ g ∧ g ≤ pr0 + 10 ∨ pr0 + 1002 ≤ g ∧ g ≤ pr0 + 1004) z0 (go L x1 x2 x3 r0 z)) (hz : fr (fun g => pr0 + 4 ≤ g ∧ g ≤ pr0 + 10 ∨ pr0 + 1002 ≤ g ∧ g ≤ pr0 + 1004) z0 z) (e_r0 : r0 = pr0) : Fo Prod.snd (fun g => pr0 + 4 ≤ g ∧ g ≤ pr0 + 10 ∨ pr0 + 1002 ≤ g ∧ g ≤ pr0 + 1004) z0 (cm_X10_gather_4 vl K go x1 x2 x3 r0 z) := by
  unfold cm_X10_gather_4
  exact (hgo 2 _ _ _ _ z hz (fun _ => by omega))
theorem fb_X10_gather_5 {K : Nat} {vl : Nat → Nat} {z0 z : ow_MS} {pr0 : Nat} {go : Nat → Int32 → Int32 → Int32 → Nat → ow_MS → Option (Int32 × ow_MS)} {x1 : Int32} {x2 : Int32} {x3 : Int32} {r0 : Nat} (hgo : ∀ (L : Nat) (x1 : Int32) (x2 : Int32) (x3 : Int32) (r0 : Nat) (z : ow_MS), fr (fun g => pr0 + 4 ≤ g ∧ g ≤ pr0 + 10 ∨ pr0 + 1002 ≤ g ∧ g ≤ pr0 + 1004) z0 z → (L = 0 ∨ L = 1 ∨ L = 2 ∨ L = 3 ∨ L = 4 ∨ L = 5 → r0 = pr0) → Fo Prod.snd (fun g => pr0 + 4 ≤ g ∧ g ≤ pr0 + 10 ∨ pr0 + 1002 ≤ g ∧ g ≤ pr0 + 1004) z0 (go L x1 x2 x3 r0 z)) (hz : fr (fun g => pr0 + 4 ≤ g ∧ g ≤ pr0 + 10 ∨ pr0 + 1002 ≤ g ∧ g ≤ pr0 + 1004) z0 z) (e_r0 : r0 = pr0) : Fo Prod.snd (fun g => pr0 + 4 ≤ g ∧ g ≤ pr0 + 10 ∨ pr0 + 1002 ≤ g ∧ g ≤ pr0 + 1004) z0 (cm_X10_gather_5 vl K go x1 x2 x3 r0 z) := by
  unfold cm_X10_gather_5
  exact (hgo 1 _ _ _ _ z hz (fun _ => by omega))
theorem fq_X10_gather {K : Nat} {vl : Nat → Nat} {z0 : ow_MS} {pr0 : Nat} : ∀ (k L : Nat) (x1 : Int32) (x2 : Int32) (x3 : Int32) (r0 : Nat) (z : ow_MS), fr (fun g => pr0 + 4 ≤ g ∧ g ≤ pr0 + 10 ∨ pr0 + 1002 ≤ g ∧ g ≤ pr0 + 1004) z0 z → (L = 0 ∨ L = 1 ∨ L = 2 ∨ L = 3 ∨ L = 4 ∨ L = 5 → r0 = pr0) → Fo Prod.snd (fun g => pr0 + 4 ≤ g ∧ g ≤ pr0 + 10 ∨ pr0 + 1002 ≤ g ∧ g ≤ pr0 + 1004) z0 (c_X10_gather vl K k L x1 x2 x3 r0 z)
  | 0 => by
    intros
    exact fo_none
  | k + 1 => by
    intro L x1 x2 x3 r0 z hz h9_r0
    show Fo Prod.snd (fun g => pr0 + 4 ≤ g ∧ g ≤ pr0 + 10 ∨ pr0 + 1002 ≤ g ∧ g ≤ pr0 + 1004) z0 (cb_X10_gather vl K (c_X10_gather vl K k) L x1 x2 x3 r0 z)
    unfold cb_X10_gather
    split
    · exact fb_X10_gather_0 (fq_X10_gather k) hz (h9_r0 (by decide))
    · exact fb_X10_gather_1 (fq_X10_gather k) hz (h9_r0 (by decide))
    · exact fb_X10_gather_2 (fq_X10_gather k) hz (h9_r0 (by decide))
    · exact fb_X10_gather_3 (fq_X10_gather k) hz (h9_r0 (by decide))
    · exact fb_X10_gather_4 (fq_X10_gather k) hz (h9_r0 (by decide))
    · exact fb_X10_gather_5 (fq_X10_gather k) hz (h9_r0 (by decide))
    · exact fo_none
theorem ff_X10_gather {vl : Nat → Nat} {K : Nat} {r0 : Nat} {z : ow_MS} : Fo Prod.snd (fun g => r0 + 4 ≤ g ∧ g ≤ r0 + 10 ∨ r0 + 1002 ≤ g ∧ g ≤ r0 + 1004) z (ce_X10_gather vl K r0 z) := fq_X10_gather (pr0 := r0) K 0 _ _ _ _ z fr_rf (fun _ => rfl)
theorem fb_X10_find_0 {K : Nat} {vl : Nat → Nat} {z0 z : ow_MS} {pr0 : Nat} {pr1 : Nat} {go : Nat → Int32 → Nat → Nat → ow_MS → Option (Int32 × ow_MS)} {x2 : Int32} {r0 : Nat} {r1 : Nat} (hgo : ∀ (L : Nat) (x2 : Int32) (r0 : Nat) (r1 : Nat) (z : ow_MS), fr (fun g => pr0 + 1 ≤ g ∧ g ≤ pr0 + 11 ∨ pr0 + 1001 ≤ g ∧ g ≤ pr0 + 1006) z0 z → (L = 0 ∨ L = 1 → r0 = pr0) → (L = 0 ∨ L = 1 → r1 = pr1) → Fo Prod.snd (fun g => pr0 + 1 ≤ g ∧ g ≤ pr0 + 11 ∨ pr0 + 1001 ≤ g ∧ g ≤ pr0 + 1006) z0 (go L x2 r0 r1 z)) (hz : fr (fun g => pr0 + 1 ≤ g ∧ g ≤ pr0 + 11 ∨ pr0 + 1001 ≤ g ∧ g ≤ pr0 + 1006) z0 z) (e_r0 : r0 = pr0) (e_r1 : r1 = pr1) : Fo Prod.snd (fun g => pr0 + 1 ≤ g ∧ g ≤ pr0 + 11 ∨ pr0 + 1001 ≤ g ∧ g ≤ pr0 + 1006) z0 (cm_X10_find_0 vl K go x2 r0 r1 z) := by
  unfold cm_X10_find_0
  exact (fo_rdF (fun v1 => (fo_wrF (by omega) hz (fun z2 h_z2 => (fo_cs0 ff_X5_copy (fun g hg => by omega) h_z2 (fun z3 h_z3 => (fo_cs0 ff_X10_listSimples (fun g hg => by omega) h_z3 (fun z4 h_z4 => (hgo 1 _ _ _ z4 h_z4 (fun _ => by omega) (fun _ => by omega))))))))))
theorem fb_X10_find_1 {K : Nat} {vl : Nat → Nat} {z0 z : ow_MS} {pr0 : Nat} {pr1 : Nat} {go : Nat → Int32 → Nat → Nat → ow_MS → Option (Int32 × ow_MS)} {x2 : Int32} {r0 : Nat} {r1 : Nat} (hgo : ∀ (L : Nat) (x2 : Int32) (r0 : Nat) (r1 : Nat) (z : ow_MS), fr (fun g => pr0 + 1 ≤ g ∧ g ≤ pr0 + 11 ∨ pr0 + 1001 ≤ g ∧ g ≤ pr0 + 1006) z0 z → (L = 0 ∨ L = 1 → r0 = pr0) → (L = 0 ∨ L = 1 → r1 = pr1) → Fo Prod.snd (fun g => pr0 + 1 ≤ g ∧ g ≤ pr0 + 11 ∨ pr0 + 1001 ≤ g ∧ g ≤ pr0 + 1006) z0 (go L x2 r0 r1 z)) (hz : fr (fun g => pr0 + 1 ≤ g ∧ g ≤ pr0 + 11 ∨ pr0 + 1001 ≤ g ∧ g ≤ pr0 + 1006) z0 z) (e_r0 : r0 = pr0) (e_r1 : r1 = pr1) : Fo Prod.snd (fun g => pr0 + 1 ≤ g ∧ g ≤ pr0 + 11 ∨ pr0 + 1001 ≤ g ∧ g ≤ pr0 + 1006) z0 (cm_X10_find_1 vl K go x2 r0 r1 z) := by
  unfold cm_X10_find_1
  exact (fo_if (fo_some hz) (fo_cs0 ff_X10_climb (fun g hg => by omega) hz (fun z5 h_z5 => (fo_cs0 ff_X10_begin (fun g hg => by omega) h_z5 (fun z6 h_z6 => (fo_cs1 ff_X10_gather (fun g hg => by omega) h_z6 (fun v8 z7 h_z7 => (fo_if (hgo 1 _ _ _ z7 h_z7 (fun _ => by omega) (fun _ => by omega)) (fo_rdF (fun v9 => (fo_if (fo_rdF (fun v10 => (fo_some h_z7))) (fo_some h_z7))))))))))))
theorem fq_X10_find {K : Nat} {vl : Nat → Nat} {z0 : ow_MS} {pr0 : Nat} {pr1 : Nat} : ∀ (k L : Nat) (x2 : Int32) (r0 : Nat) (r1 : Nat) (z : ow_MS), fr (fun g => pr0 + 1 ≤ g ∧ g ≤ pr0 + 11 ∨ pr0 + 1001 ≤ g ∧ g ≤ pr0 + 1006) z0 z → (L = 0 ∨ L = 1 → r0 = pr0) → (L = 0 ∨ L = 1 → r1 = pr1) → Fo Prod.snd (fun g => pr0 + 1 ≤ g ∧ g ≤ pr0 + 11 ∨ pr0 + 1001 ≤ g ∧ g ≤ pr0 + 1006) z0 (c_X10_find vl K k L x2 r0 r1 z)
  | 0 => by
    intros
    exact fo_none
  | k + 1 => by
    intro L x2 r0 r1 z hz h9_r0 h9_r1
    show Fo Prod.snd (fun g => pr0 + 1 ≤ g ∧ g ≤ pr0 + 11 ∨ pr0 + 1001 ≤ g ∧ g ≤ pr0 + 1006) z0 (cb_X10_find vl K (c_X10_find vl K k) L x2 r0 r1 z)
    unfold cb_X10_find
    split
    · exact fb_X10_find_0 (fq_X10_find k) hz (h9_r0 (by decide)) (h9_r1 (by decide))
    · exact fb_X10_find_1 (fq_X10_find k) hz (h9_r0 (by decide)) (h9_r1 (by decide))
    · exact fo_none
theorem ff_X10_find {vl : Nat → Nat} {K : Nat} {r0 : Nat} {r1 : Nat} {z : ow_MS} : Fo Prod.snd (fun g => r0 + 1 ≤ g ∧ g ≤ r0 + 11 ∨ r0 + 1001 ≤ g ∧ g ≤ r0 + 1006) z (ce_X10_find vl K r0 r1 z) := fq_X10_find (pr0 := r0) (pr1 := r1) K 0 _ _ _ z fr_rf (fun _ => rfl) (fun _ => rfl)
theorem ff_X11_summit {vl : Nat → Nat} {K : Nat} {r0 : Nat} {x1 : Int32} {z : ow_MS} : Fo (fun r => r.2.2) (fun g => r0 + 46001 ≤ g ∧ g ≤ r0 + 46006 ∨ r0 + 48001 ≤ g ∧ g ≤ r0 + 48011 ∨ r0 + 49001 ≤ g ∧ g ≤ r0 + 49006) z (ce_X11_summit vl K r0 x1 z) := by
  unfold ce_X11_summit cm_X11_summit_0
  exact (fc_tc0 ff_X11_needBraid (fun g hg => hg.elim) fr_rf (fun k z h_e => (fo_some h_e)) (fun z1 h_z1 => (fc_tc0 ff_X11_needFewStrands (fun g hg => hg.elim) h_z1 (fun k z h_e => (fo_some h_e)) (fun z3 h_z3 => (fo_cs0 ff_X11_write (fun g hg => by omega) h_z3 (fun z5 h_z5 => (fo_cs1 ff_X10_find (fun g hg => by omega) h_z5 (fun v7 z6 h_z6 => (fo_some h_z6)))))))))
theorem fb_X10_sameAs_0 {K : Nat} {vl : Nat → Nat} {z0 z : ow_MS} {pr0 : Nat} {pr1 : Nat} {go : Nat → Int32 → Nat → Nat → ow_MS → Option (Int32 × ow_MS)} {x2 : Int32} {r0 : Nat} {r1 : Nat} (hgo : ∀ (L : Nat) (x2 : Int32) (r0 : Nat) (r1 : Nat) (z : ow_MS), fr (fun _ => False) z0 z → (L = 0 ∨ L = 1 → r0 = pr0) → (L = 0 ∨ L = 1 → r1 = pr1) → Fo Prod.snd (fun _ => False) z0 (go L x2 r0 r1 z)) (hz : fr (fun _ => False) z0 z) (e_r0 : r0 = pr0) (e_r1 : r1 = pr1) : Fo Prod.snd (fun _ => False) z0 (cm_X10_sameAs_0 vl K go x2 r0 r1 z) := by
  unfold cm_X10_sameAs_0
  exact (fo_rdF (fun v1 => (fo_rdF (fun v2 => (fo_if (fo_rdF (fun v3 => (fo_rdF (fun v4 => (fo_if (fo_rdF (fun v5 => (fo_rdF (fun v6 => (fo_if (fo_rdF (fun v7 => (fo_rdF (fun v8 => (fo_if (hgo 1 _ _ _ z hz (fun _ => by omega) (fun _ => by omega)) (fo_okZ (fo_some hz))))))) (fo_okZ (fo_some hz))))))) (fo_okZ (fo_some hz))))))) (fo_okZ (fo_some hz)))))))
theorem fb_X10_sameAs_1 {K : Nat} {vl : Nat → Nat} {z0 z : ow_MS} {pr0 : Nat} {pr1 : Nat} {go : Nat → Int32 → Nat → Nat → ow_MS → Option (Int32 × ow_MS)} {x2 : Int32} {r0 : Nat} {r1 : Nat} (hgo : ∀ (L : Nat) (x2 : Int32) (r0 : Nat) (r1 : Nat) (z : ow_MS), fr (fun _ => False) z0 z → (L = 0 ∨ L = 1 → r0 = pr0) → (L = 0 ∨ L = 1 → r1 = pr1) → Fo Prod.snd (fun _ => False) z0 (go L x2 r0 r1 z)) (hz : fr (fun _ => False) z0 z) (e_r0 : r0 = pr0) (e_r1 : r1 = pr1) : Fo Prod.snd (fun _ => False) z0 (cm_X10_sameAs_1 vl K go x2 r0 r1 z) := by
  unfold cm_X10_sameAs_1
  exact (fo_rdF (fun v9 => (fo_if (fo_okZ (fo_some hz)) (fc_crI (fun v10 => (fc_crI (fun v11 => (fo_cs1 ff_X10_compare (fun g hg => hg.elim) hz (fun v13 z12 h_z12 => (fo_if (hgo 1 _ _ _ z12 h_z12 (fun _ => by omega) (fun _ => by omega)) (fo_okZ (fo_some h_z12))))))))))))
theorem fq_X10_sameAs {K : Nat} {vl : Nat → Nat} {z0 : ow_MS} {pr0 : Nat} {pr1 : Nat} : ∀ (k L : Nat) (x2 : Int32) (r0 : Nat) (r1 : Nat) (z : ow_MS), fr (fun _ => False) z0 z → (L = 0 ∨ L = 1 → r0 = pr0) → (L = 0 ∨ L = 1 → r1 = pr1) → Fo Prod.snd (fun _ => False) z0 (c_X10_sameAs vl K k L x2 r0 r1 z)
  | 0 => by
    intros
    exact fo_none
  | k + 1 => by
    intro L x2 r0 r1 z hz h9_r0 h9_r1
    show Fo Prod.snd (fun _ => False) z0 (cb_X10_sameAs vl K (c_X10_sameAs vl K k) L x2 r0 r1 z)
    unfold cb_X10_sameAs
    split
    · exact fb_X10_sameAs_0 (fq_X10_sameAs k) hz (h9_r0 (by decide)) (h9_r1 (by decide))
    · exact fb_X10_sameAs_1 (fq_X10_sameAs k) hz (h9_r0 (by decide)) (h9_r1 (by decide))
    · exact fo_none
theorem ff_X10_sameAs {vl : Nat → Nat} {K : Nat} {r0 : Nat} {r1 : Nat} {z : ow_MS} : Fo Prod.snd (fun _ => False) z (ce_X10_sameAs vl K r0 r1 z) := fq_X10_sameAs (pr0 := r0) (pr1 := r1) K 0 _ _ _ z fr_rf (fun _ => rfl) (fun _ => rfl)
theorem ff_X11_conjugate {vl : Nat → Nat} {K : Nat} {r0 : Nat} {x1 : Int32} {x2 : Int32} {z : ow_MS} : Fo (fun r => r.2.2) (fun g => r0 + 46001 ≤ g ∧ g ≤ r0 + 46006 ∨ r0 + 48001 ≤ g ∧ g ≤ r0 + 48011 ∨ r0 + 49001 ≤ g ∧ g ≤ r0 + 49006 ∨ r0 + 50001 ≤ g ∧ g ≤ r0 + 50011 ∨ r0 + 51001 ≤ g ∧ g ≤ r0 + 51006) z (ce_X11_conjugate vl K r0 x1 x2 z) := by
  unfold ce_X11_conjugate cm_X11_conjugate_0
  exact (fc_tc0 ff_X11_needBraid (fun g hg => hg.elim) fr_rf (fun k z h_e => (fo_some h_e)) (fun z1 h_z1 => (fc_tc0 ff_X11_needBraid (fun g hg => hg.elim) h_z1 (fun k z h_e => (fo_some h_e)) (fun z3 h_z3 => (fc_crI (fun v5 => (fc_crI (fun v6 => (fo_if (fc_tc0 ff_X11_needFewStrands (fun g hg => hg.elim) h_z3 (fun k z h_e => (fo_some h_e)) (fun z7 h_z7 => (fo_cs0 ff_X11_write (fun g hg => by omega) h_z7 (fun z9 h_z9 => (fo_cs1 ff_X10_find (fun g hg => by omega) h_z9 (fun v11 z10 h_z10 => (fo_cs0 ff_X11_write (fun g hg => by omega) h_z10 (fun z12 h_z12 => (fo_cs1 ff_X10_find (fun g hg => by omega) h_z12 (fun v14 z13 h_z13 => (fo_if (fo_some h_z13) (fo_if (fo_some h_z13) (fo_cs1 ff_X10_sameAs (fun g hg => hg.elim) h_z13 (fun v16 z15 h_z15 => (fo_if (fo_some h_z15) (fo_some h_z15)))))))))))))))) (fo_some h_z3))))))))))
end
section
/-! 99zzzzzzzzzzzzn.xst1 -/
/-! the law's steps: both sides answer the same, and stay related -/
def ciH (g : Nat) : Prop := 24001 ≤ g ∧ g ≤ 25003 ∨ 39001 ≤ g ∧ g ≤ 40011 ∨ 41006 ≤ g ∧ g ≤ 41016 ∨ g = 43005 ∨ 45001 ≤ g ∧ g ≤ 45011
section XST
variable {vl : Nat → Nat} {y y1 z : ow_MS} {P P' : Nat → Prop}
theorem jnT_fr (hf : fr P y y1) (hP : ¬ P 40008 ∧ ¬ P 24009 ∧ ¬ P 24006) {A : rn_L} {sg : Nat → Bool} {c : Nat} (h : jnT y A sg c) : jnT y1 A sg c := by
  obtain ⟨S, G, h1, h2, h3, h4⟩ := h
  refine ⟨S, G, h1, by rw [(hf 40008 hP.1).1]; exact h2, by rw [(hf 24009 hP.2.1).1]; exact h3, fun k hk => by rw [(hf 24006 hP.2.2).2.1]; exact h4 k hk⟩
theorem jnC_fr (hf : fr P y y1) (hP : ∀ g, P g → ¬ ciH g) (h : jnC y) : jnC y1 := by
  have no : ∀ g, ciH g → ¬ P g := fun g g1 h9 => hP g h9 g1
  obtain ⟨C, h1, h2, h3⟩ := h
  refine ⟨C, slC_fr hf (fun q hq => no q (by unfold cW at hq; unfold ciH; omega)) h1, h2, h3.imp id ?_⟩
  rintro ⟨A, sg, c, e, hT⟩
  exact ⟨A, sg, c, e, jnT_fr hf ⟨no _ (by unfold ciH; omega), no _ (by unfold ciH; omega), no _ (by unfold ciH; omega)⟩ hT⟩
theorem CI_fr (hf : fr P y y1) (hP : ∀ g, P g → ¬ ciH g) (h : CI vl y) : CI vl y1 := by
  have no : ∀ g, ciH g → ¬ P g := fun g g1 h9 => hP g h9 g1
  obtain ⟨h1, h2, h3, h4, h5, h6, h7, h8⟩ := h
  refine ⟨knC_fr hf (fun g hg h9 => hP g hg (by unfold ciH; omega)) h1, jnC_fr hf hP h2, bnC_fr hf (fun m hm => no _ (by unfold ciH; omega)) h3, mpC_fr hf ⟨no _ (by unfold ciH; omega), no _ (by unfold ciH; omega), no _ (by unfold ciH; omega)⟩ h4, ?_, fun m hm => ?_, fun i k hi hk => ?_, h8⟩
  · obtain ⟨k, k1, k2, k3⟩ := h5
    refine ⟨k, k1, by rw [(hf 41010 (no _ (by unfold ciH; omega))).1]; exact k2, fun s hs => ?_⟩
    rw [(hf 41012 (no _ (by unfold ciH; omega))).2.1, (hf 41013 (no _ (by unfold ciH; omega))).2.1, (hf 41014 (no _ (by unfold ciH; omega))).2.1]
    exact k3 s hs
  · rw [(hf 43005 (no _ (by unfold ciH; omega))).2.1]
    exact h6 m hm
  · rw [(hf (45001 + i) (no _ (by unfold ciH; omega))).2.1]
    exact h7 i k hi hk
/-- the law's own row of one number -/
theorem REL_J {v : Int64} (h : REL (vl, y, z)) : REL (vl, usJ y 52001 0 v, z) := h
def lsV (vl : Nat → Nat) (fc : Nat → Option (Nat × Int32 × ow_MS)) (mp : Nat → ow_MS → Option (Int32 × ow_MS)) (fm : Nat → Option (Int32 × ow_MS)) (K : Nat) : Option ow_LwS := cs1 (tc1 (fc K) mp fun v3 z1 => ctJ (cX vl) z1 52001 0 v3.toInt64 fun z4 => some (0, z4)) fun v2 zc1 => cs1 (fm K) fun v4 zm3 => cs1 (qe_X13_thrown K zm3) fun v6 zm5 => (if v6 = v2 then (if v2 = 0 then crJ (cX vl) zc1 52001 0 fun v7 => (if (lg_cmp v7 v4.toInt64) = 0 then some (vl, zc1, zm5) else none) else some (vl, zc1, zm5)) else none)
theorem st_int {em : List (Nat × Nat)} {fc : Nat → Option (Nat × Int32 × ow_MS)} {mp : Nat → ow_MS → Option (Int32 × ow_MS)} {fm : Nat → Option (Int32 × ow_MS)} (h : Te fm (fun rr => Te fc (fun rc => REL (vl, rc.2.2, rr.2) ∧ ansI em rr rc))) (hmp : ∀ j k, (j, k) ∈ em → 0 < j ∧ j < 100 ∧ k ≠ 0 ∧ ∀ z, mp k z = some (nI j, z)) : Te (lsV vl fc mp fm) (fun S1 => REL S1 ∧ dPhi vl ≤ dPhi S1.1) := by
  obtain ⟨rr, ⟨b1, hb1⟩, rc, ⟨b2, hb2⟩, hR, ha⟩ := h
  obtain ⟨a, zm⟩ := rr
  obtain ⟨k, v, zc⟩ := rc
  have hR : REL (vl, zc, zm) := hR
  rcases ha with ⟨t0, k0, e⟩ | ⟨j, k', hm, t0, k0⟩
  · have k0 : k = 0 := k0
    have e : a = v := e
    have t0 : zm.1 1 = 0 := t0
    subst k0
    subst e
    refine ⟨(vl, usJ zc 52001 0 a.toInt64, zm), ⟨b1 + b2, fun K hK => ?_⟩, REL_J hR, Nat.le_refl _⟩
    unfold lsV
    rw [hb1 K (by omega), hb2 K (by omega)]
    show (if zm.1 1 = 0 then (if (0 : Int32) = 0 then _ else _) else none) = _
    rw [if_pos t0, if_pos rfl]
    show (if lg_cmp ((usJ zc 52001 0 a.toInt64).2.2 52001 0) a.toInt64 = 0 then some (vl, usJ zc 52001 0 a.toInt64, zm) else none) = _
    rw [if_pos ((lg_cmp_eq _ _).mpr usJ_at)]
  · have k0 : k = k' := k0
    have t0 : zm.1 1 = nI j := t0
    subst k0
    obtain ⟨m1, m2, m3, m4⟩ := hmp j k hm
    refine ⟨(vl, zc, zm), ⟨b1 + b2, fun K hK => ?_⟩, hR, Nat.le_refl _⟩
    unfold lsV
    rw [hb1 K (by omega), hb2 K (by omega)]
    have e1 : tc1 (some (k, v, zc)) mp (fun v3 z1 => ctJ (cX vl) z1 52001 0 v3.toInt64 fun z4 => some (0, z4)) = some (nI j, zc) := by
      show (if k = 0 then _ else mp k zc) = _
      rw [if_neg m3, m4]
    rw [e1]
    show (if zm.1 1 = nI j then (if nI j = 0 then _ else some (vl, zc, zm)) else none) = _
    have nj : nI j ≠ 0 := fun h9 => by
      have := nI_inj9 (a := j) (b := 0) (by omega) (by omega) h9
      omega
    rw [if_pos t0, if_neg nj]
/-- what a call keeps besides, by what it may change -/
theorem rel_of {em : List (Nat × Nat)} {fc : Nat → Option (Nat × Int32 × ow_MS)} {fm : Nat → Option (Int32 × ow_MS)} (h : REL (vl, y, z)) (hc : Te fm (fun rr => Te fc (fun rc => rel3 XR rr.2 rc.2.2 ∧ ansI em rr rc))) (hm : ∀ K, Fo Prod.snd P z (fm K)) (hf : ∀ K, Fo (fun r => r.2.2) P' y (fc K)) (hP : ¬ P 48 ∧ ¬ P 50) (hP' : ∀ g, P' g → ¬ ciH g) : Te fm (fun rr => Te fc (fun rc => REL (vl, rc.2.2, rr.2) ∧ ansI em rr rc)) := w_monoE (te_fo hc hm) (fun rr ⟨h1, f1⟩ => w_monoE (te_fo h1 hf) (fun rc ⟨⟨h2, h3⟩, f2⟩ => ⟨⟨h2, CI_fr f2 hP' h.2.1, jnR_fr f1 hP.1 hP.2 h.2.2⟩, h3⟩))
/-- calls that answer yes or no -/
theorem st_bool {fc fm : Nat → Option (Int32 × ow_MS)} (h : REL (vl, y, z)) (hc : Te fm (fun rr => Te fc (fun rc => rel3 XR rr.2 rc.2 ∧ rr.2.1 1 = 0 ∧ rr.1 = rc.1))) (hm : ∀ K, Fo Prod.snd P z (fm K)) (hf : ∀ K, Fo Prod.snd P' y (fc K)) (hP : ¬ P 48 ∧ ¬ P 50) (hP' : ∀ g, P' g → ¬ ciH g) : Te (fun K => cs1 (fc K) fun v2 zc1 => cs1 (fm K) fun v4 zm3 => (if v2 = v4 then some (vl, zc1, zm3) else none)) (fun S1 => REL S1 ∧ dPhi vl ≤ dPhi S1.1) := by
  obtain ⟨⟨a, zm⟩, ⟨b1, hb1⟩, ⟨⟨v, zc⟩, ⟨b2, hb2⟩, ⟨hR, -, e⟩, f2⟩, f1⟩ := te_fo (w_monoE hc (fun rr h1 => te_fo h1 hf)) hm
  have e : a = v := e
  subst e
  refine ⟨(vl, zc, zm), ⟨b1 + b2, fun K hK => ?_⟩, ⟨hR, CI_fr f2 hP' h.2.1, jnR_fr f1 hP.1 hP.2 h.2.2⟩, Nat.le_refl _⟩
  show cs1 (fc K) _ = _
  rw [hb2 K (by omega)]
  show (cs1 (fm K) fun v4 zm3 => if a = v4 then some (vl, zc, zm3) else none) = _
  rw [hb1 K (by omega)]
  exact if_pos rfl
end XST
/-- a case of the law: from related states it ends, and leaves related states -/
def stp (f : (Nat → Nat) → Nat → Int32 → Int32 → Int32 → Int32 → Int32 → ow_MS → ow_MS → Option ow_LwS) : Prop := ∀ (S : ow_LwS) (x1 x2 x3 x4 x5 : Int32), REL S → Te (fun K => f S.1 K x1 x2 x3 x4 x5 S.2.1 S.2.2) (fun S1 => REL S1 ∧ dPhi S.1 ≤ dPhi S1.1)
section XSS
theorem st_mirror : stp lst_mirror := by
  intro S x1 x2 x3 x4 x5 h
  have hc := rel_of (vl := S.1) (y := S.2.1) (z := S.2.2) (em := [(1, 1), (2, 3)]) (fc := fun K => ce_X11_mirror S.1 K 0 x1 S.2.1) (fm := fun K => qe_X13_mirror K x1 S.2.2) h (by
    obtain ⟨⟨St, k⟩, -⟩ := id h.1
    exact w_monoE (b_mirror k) (fun rr hr => w_monoE hr (fun rc hb => both_3 h.1 hb))) (fun K => ff_X13_mirror) (fun K => ff_X11_mirror) (by decide) (fun g hg h9 => by unfold ciH at h9; omega)
  refine st_int (mp := (fun k z => if k = 1 then some (1, z) else if k = 3 then some (2, z) else none)) hc (fun j k hm => ?_)
  simp only [List.mem_cons, List.not_mem_nil, or_false, Prod.mk.injEq] at hm
  rcases hm with ⟨rfl, rfl⟩ | ⟨rfl, rfl⟩ <;> exact ⟨by decide, by decide, by decide, fun _ => rfl⟩
theorem st_change : stp lst_change := by
  intro S x1 x2 x3 x4 x5 h
  have hc := rel_of (vl := S.1) (y := S.2.1) (z := S.2.2) (em := [(1, 1), (2, 3)]) (fc := fun K => ce_X11_change S.1 K 0 x1 x2 S.2.1) (fm := fun K => qe_X13_change K x1 x2 S.2.2) h (by
    obtain ⟨⟨St, k⟩, -⟩ := id h.1
    exact w_monoE (b_change k) (fun rr hr => w_monoE hr (fun rc hb => both_3 h.1 hb))) (fun K => ff_X13_change) (fun K => ff_X11_change) (by decide) (fun g hg h9 => by unfold ciH at h9; omega)
  refine st_int (mp := (fun k z => if k = 1 then some (1, z) else if k = 3 then some (2, z) else none)) hc (fun j k hm => ?_)
  simp only [List.mem_cons, List.not_mem_nil, or_false, Prod.mk.injEq] at hm
  rcases hm with ⟨rfl, rfl⟩ | ⟨rfl, rfl⟩ <;> exact ⟨by decide, by decide, by decide, fun _ => rfl⟩
theorem st_reverse : stp lst_reverse := by
  intro S x1 x2 x3 x4 x5 h
  have hc := rel_of (vl := S.1) (y := S.2.1) (z := S.2.2) (em := [(1, 1), (2, 3)]) (fc := fun K => ce_X11_reverse S.1 K 0 x1 x2 S.2.1) (fm := fun K => qe_X13_reverse K x1 x2 S.2.2) h (by
    obtain ⟨⟨St, k⟩, -⟩ := id h.1
    exact w_monoE (b_reverse k) (fun rr hr => w_monoE hr (fun rc hb => both_3 h.1 hb))) (fun K => ff_X13_reverse) (fun K => ff_X11_reverse) (by decide) (fun g hg h9 => by unfold ciH at h9; omega)
  refine st_int (mp := (fun k z => if k = 1 then some (1, z) else if k = 3 then some (2, z) else none)) hc (fun j k hm => ?_)
  simp only [List.mem_cons, List.not_mem_nil, or_false, Prod.mk.injEq] at hm
  rcases hm with ⟨rfl, rfl⟩ | ⟨rfl, rfl⟩ <;> exact ⟨by decide, by decide, by decide, fun _ => rfl⟩
theorem st_smooth : stp lst_smooth := by
  intro S x1 x2 x3 x4 x5 h
  have hc := rel_of (vl := S.1) (y := S.2.1) (z := S.2.2) (em := [(1, 1), (2, 4), (3, 3)]) (fc := fun K => ce_X11_smooth S.1 K 0 x1 x2 S.2.1) (fm := fun K => qe_X13_smooth K x1 x2 S.2.2) h (by
    obtain ⟨⟨St, k⟩, -⟩ := id h.1
    exact w_monoE (b_smooth k) (fun rr hr => w_monoE hr (fun rc hb => both_3 h.1 hb))) (fun K => ff_X13_smooth) (fun K => ff_X11_smooth) (by decide) (fun g hg h9 => by unfold ciH at h9; omega)
  refine st_int (mp := (fun k z => if k = 1 then some (1, z) else if k = 4 then some (2, z) else if k = 3 then some (3, z) else none)) hc (fun j k hm => ?_)
  simp only [List.mem_cons, List.not_mem_nil, or_false, Prod.mk.injEq] at hm
  rcases hm with ⟨rfl, rfl⟩ | ⟨rfl, rfl⟩ | ⟨rfl, rfl⟩ <;> exact ⟨by decide, by decide, by decide, fun _ => rfl⟩
theorem st_apart : stp lst_apart := by
  intro S x1 x2 x3 x4 x5 h
  have hc := rel_of (vl := S.1) (y := S.2.1) (z := S.2.2) (em := [(1, 1), (2, 4), (3, 3)]) (fc := fun K => ce_X11_apart S.1 K 0 x1 x2 S.2.1) (fm := fun K => qe_X13_apart K x1 x2 S.2.2) h (by
    obtain ⟨⟨St, k⟩, -⟩ := id h.1
    exact w_monoE (b_apart k) (fun rr hr => w_monoE hr (fun rc hb => both_3 h.1 hb))) (fun K => ff_X13_apart) (fun K => ff_X11_apart) (by decide) (fun g hg h9 => by unfold ciH at h9; omega)
  refine st_int (mp := (fun k z => if k = 1 then some (1, z) else if k = 4 then some (2, z) else if k = 3 then some (3, z) else none)) hc (fun j k hm => ?_)
  simp only [List.mem_cons, List.not_mem_nil, or_false, Prod.mk.injEq] at hm
  rcases hm with ⟨rfl, rfl⟩ | ⟨rfl, rfl⟩ | ⟨rfl, rfl⟩ <;> exact ⟨by decide, by decide, by decide, fun _ => rfl⟩
theorem st_join : stp lst_join := by
  intro S x1 x2 x3 x4 x5 h
  have hc := rel_of (vl := S.1) (y := S.2.1) (z := S.2.2) (em := [(1, 1), (2, 4), (3, 3)]) (fc := fun K => ce_X11_join S.1 K 0 x1 x2 x3 x4 S.2.1) (fm := fun K => qe_X13_join K x1 x2 x3 x4 S.2.2) h (by
    obtain ⟨⟨St, k⟩, -⟩ := id h.1
    exact w_monoE (b_join k) (fun rr hr => w_monoE hr (fun rc hb => both_3 h.1 hb))) (fun K => ff_X13_join) (fun K => ff_X11_join) (by decide) (fun g hg h9 => by unfold ciH at h9; omega)
  refine st_int (mp := (fun k z => if k = 1 then some (1, z) else if k = 4 then some (2, z) else if k = 3 then some (3, z) else none)) hc (fun j k hm => ?_)
  simp only [List.mem_cons, List.not_mem_nil, or_false, Prod.mk.injEq] at hm
  rcases hm with ⟨rfl, rfl⟩ | ⟨rfl, rfl⟩ | ⟨rfl, rfl⟩ <;> exact ⟨by decide, by decide, by decide, fun _ => rfl⟩
theorem st_figure : stp lst_figure := by
  intro S x1 x2 x3 x4 x5 h
  have hc := rel_of (vl := S.1) (y := S.2.1) (z := S.2.2) (em := [(1, 1), (2, 2)]) (fc := fun K => ce_X11_figure S.1 K 0 x1 x2 S.2.1) (fm := fun K => qe_X13_figure K x1 x2 S.2.2) h (by
    obtain ⟨⟨St, k⟩, -⟩ := id h.1
    exact w_monoE (b_figure k) (fun rr hr => w_monoE hr (fun rc hb => both_3 h.1 hb))) (fun K => ff_X13_figure) (fun K => ff_X11_figure) (by decide) (fun g hg h9 => by unfold ciH at h9; omega)
  refine st_int (mp := (fun k z => if k = 1 then some (1, z) else if k = 2 then some (2, z) else none)) hc (fun j k hm => ?_)
  simp only [List.mem_cons, List.not_mem_nil, or_false, Prod.mk.injEq] at hm
  rcases hm with ⟨rfl, rfl⟩ | ⟨rfl, rfl⟩ <;> exact ⟨by decide, by decide, by decide, fun _ => rfl⟩
theorem st_visit : stp lst_visit := by
  intro S x1 x2 x3 x4 x5 h
  have hc := rel_of (vl := S.1) (y := S.2.1) (z := S.2.2) (em := [(1, 1), (2, 2)]) (fc := fun K => ce_X11_visit S.1 K 0 x1 x2 x3 S.2.1) (fm := fun K => qe_X13_visit K x1 x2 x3 S.2.2) h (by
    obtain ⟨⟨St, k⟩, -⟩ := id h.1
    exact w_monoE (b_visit k) (fun rr hr => w_monoE hr (fun rc hb => both_3 h.1 hb))) (fun K => ff_X13_visit) (fun K => ff_X11_visit) (by decide) (fun g hg h9 => by unfold ciH at h9; omega)
  refine st_int (mp := (fun k z => if k = 1 then some (1, z) else if k = 2 then some (2, z) else none)) hc (fun j k hm => ?_)
  simp only [List.mem_cons, List.not_mem_nil, or_false, Prod.mk.injEq] at hm
  rcases hm with ⟨rfl, rfl⟩ | ⟨rfl, rfl⟩ <;> exact ⟨by decide, by decide, by decide, fun _ => rfl⟩
theorem st_linking : stp lst_linking := by
  intro S x1 x2 x3 x4 x5 h
  have hc := rel_of (vl := S.1) (y := S.2.1) (z := S.2.2) (em := [(1, 1), (2, 2)]) (fc := fun K => ce_X11_linking S.1 K 0 x1 x2 x3 S.2.1) (fm := fun K => qe_X13_linking K x1 x2 x3 S.2.2) h (by
    obtain ⟨⟨St, k⟩, -⟩ := id h.1
    exact w_monoE (b_linking k) (fun rr hr => w_monoE hr (fun rc hb => both_3 h.1 hb))) (fun K => ff_X13_linking) (fun K => ff_X11_linking) (by decide) (fun g hg h9 => by unfold ciH at h9; omega)
  refine st_int (mp := (fun k z => if k = 1 then some (1, z) else if k = 2 then some (2, z) else none)) hc (fun j k hm => ?_)
  simp only [List.mem_cons, List.not_mem_nil, or_false, Prod.mk.injEq] at hm
  rcases hm with ⟨rfl, rfl⟩ | ⟨rfl, rfl⟩ <;> exact ⟨by decide, by decide, by decide, fun _ => rfl⟩
theorem st_moves : stp lst_moves := by
  intro S x1 x2 x3 x4 x5 h
  have hc := rel_of (vl := S.1) (y := S.2.1) (z := S.2.2) (em := [(1, 1), (2, 2)]) (fc := fun K => ce_X11_moves S.1 K 0 x1 x2 S.2.1) (fm := fun K => qe_X13_moves K x1 x2 S.2.2) h (c_moves h.1) (fun K => ff_X13_moves) (fun K => ff_X11_moves) (by decide) (fun g hg h9 => by unfold ciH at h9; omega)
  refine st_int (mp := (fun k z => if k = 1 then some (1, z) else if k = 2 then some (2, z) else none)) hc (fun j k hm => ?_)
  simp only [List.mem_cons, List.not_mem_nil, or_false, Prod.mk.injEq] at hm
  rcases hm with ⟨rfl, rfl⟩ | ⟨rfl, rfl⟩ <;> exact ⟨by decide, by decide, by decide, fun _ => rfl⟩
theorem st_moved : stp lst_moved := by
  intro S x1 x2 x3 x4 x5 h
  have hc := rel_of (vl := S.1) (y := S.2.1) (z := S.2.2) (em := [(1, 1), (2, 3)]) (fc := fun K => ce_X11_moved S.1 K 0 x1 S.2.1) (fm := fun K => qe_X13_moved K x1 S.2.2) h (c_moved h.1) (fun K => ff_X13_moved) (fun K => ff_X11_moved) (by decide) (fun g hg h9 => by unfold ciH at h9; omega)
  refine st_int (mp := (fun k z => if k = 1 then some (1, z) else if k = 3 then some (2, z) else none)) hc (fun j k hm => ?_)
  simp only [List.mem_cons, List.not_mem_nil, or_false, Prod.mk.injEq] at hm
  rcases hm with ⟨rfl, rfl⟩ | ⟨rfl, rfl⟩ <;> exact ⟨by decide, by decide, by decide, fun _ => rfl⟩
theorem st_simplify : stp lst_simplify := by
  intro S x1 x2 x3 x4 x5 h
  have hc := rel_of (vl := S.1) (y := S.2.1) (z := S.2.2) (em := [(1, 1), (2, 3)]) (fc := fun K => ce_X11_simplify S.1 K 0 x1 S.2.1) (fm := fun K => qe_X13_simplify K x1 S.2.2) h (c_simplify h.1) (fun K => ff_X13_simplify) (fun K => ff_X11_simplify) (by decide) (fun g hg h9 => by unfold ciH at h9; omega)
  refine st_int (mp := (fun k z => if k = 1 then some (1, z) else if k = 3 then some (2, z) else none)) hc (fun j k hm => ?_)
  simp only [List.mem_cons, List.not_mem_nil, or_false, Prod.mk.injEq] at hm
  rcases hm with ⟨rfl, rfl⟩ | ⟨rfl, rfl⟩ <;> exact ⟨by decide, by decide, by decide, fun _ => rfl⟩
theorem st_summand : stp lst_summand := by
  intro S x1 x2 x3 x4 x5 h
  have hc := rel_of (vl := S.1) (y := S.2.1) (z := S.2.2) (em := [(1, 1), (2, 3)]) (fc := fun K => ce_X11_summand S.1 K 0 x1 S.2.1) (fm := fun K => qe_X13_summand K x1 S.2.2) h (c_summand h.1) (fun K => ff_X13_summand) (fun K => ff_X11_summand) (by decide) (fun g hg h9 => by unfold ciH at h9; omega)
  refine st_int (mp := (fun k z => if k = 1 then some (1, z) else if k = 3 then some (2, z) else none)) hc (fun j k hm => ?_)
  simp only [List.mem_cons, List.not_mem_nil, or_false, Prod.mk.injEq] at hm
  rcases hm with ⟨rfl, rfl⟩ | ⟨rfl, rfl⟩ <;> exact ⟨by decide, by decide, by decide, fun _ => rfl⟩
theorem st_diagram : stp lst_diagram := by
  intro S x1 x2 x3 x4 x5 h
  have hc := rel_of (vl := S.1) (y := S.2.1) (z := S.2.2) (em := [(1, 3)]) (fc := fun K => ce_X11_diagram S.1 K 0  S.2.1) (fm := fun K => qe_X13_diagram K  S.2.2) h (c_diagram h.1) (fun K => ff_X13_diagram) (fun K => ff_X11_diagram) (by decide) (fun g hg h9 => by unfold ciH at h9; omega)
  refine st_int (mp := (fun k z => if k = 3 then some (1, z) else none)) hc (fun j k hm => ?_)
  simp only [List.mem_cons, List.not_mem_nil, or_false, Prod.mk.injEq] at hm
  rcases hm with ⟨rfl, rfl⟩ <;> exact ⟨by decide, by decide, by decide, fun _ => rfl⟩
theorem st_feed : stp lst_feed := by
  intro S x1 x2 x3 x4 x5 h
  have hc := rel_of (vl := S.1) (y := S.2.1) (z := S.2.2) (em := [(1, 3)]) (fc := fun K => ce_X11_feed S.1 K 0 x1 x2 x3 x4 x5 S.2.1) (fm := fun K => qe_X13_feed K x1 x2 x3 x4 x5 S.2.2) h (c_feed h.1) (fun K => ff_X13_feed) (fun K => ff_X11_feed) (by decide) (fun g hg h9 => by unfold ciH at h9; omega)
  refine st_int (mp := (fun k z => if k = 3 then some (1, z) else none)) hc (fun j k hm => ?_)
  simp only [List.mem_cons, List.not_mem_nil, or_false, Prod.mk.injEq] at hm
  rcases hm with ⟨rfl, rfl⟩ <;> exact ⟨by decide, by decide, by decide, fun _ => rfl⟩
theorem st_braid : stp lst_braid := by
  intro S x1 x2 x3 x4 x5 h
  have hc := rel_of (vl := S.1) (y := S.2.1) (z := S.2.2) (em := [(1, 2), (2, 3)]) (fc := fun K => ce_X11_braid S.1 K 0 x1 S.2.1) (fm := fun K => qe_X13_braid K x1 S.2.2) h (c_braid h.1) (fun K => ff_X13_braid) (fun K => ff_X11_braid) (by decide) (fun g hg h9 => by unfold ciH at h9; omega)
  refine st_int (mp := (fun k z => if k = 2 then some (1, z) else if k = 3 then some (2, z) else none)) hc (fun j k hm => ?_)
  simp only [List.mem_cons, List.not_mem_nil, or_false, Prod.mk.injEq] at hm
  rcases hm with ⟨rfl, rfl⟩ | ⟨rfl, rfl⟩ <;> exact ⟨by decide, by decide, by decide, fun _ => rfl⟩
theorem st_closure : stp lst_closure := by
  intro S x1 x2 x3 x4 x5 h
  have hc := rel_of (vl := S.1) (y := S.2.1) (z := S.2.2) (em := [(1, 1), (2, 4), (3, 3)]) (fc := fun K => ce_X11_closure S.1 K 0 x1 S.2.1) (fm := fun K => qe_X13_closure K x1 S.2.2) h (c_closure h.1) (fun K => ff_X13_closure) (fun K => ff_X11_closure) (by decide) (fun g hg h9 => by unfold ciH at h9; omega)
  refine st_int (mp := (fun k z => if k = 1 then some (1, z) else if k = 4 then some (2, z) else if k = 3 then some (3, z) else none)) hc (fun j k hm => ?_)
  simp only [List.mem_cons, List.not_mem_nil, or_false, Prod.mk.injEq] at hm
  rcases hm with ⟨rfl, rfl⟩ | ⟨rfl, rfl⟩ | ⟨rfl, rfl⟩ <;> exact ⟨by decide, by decide, by decide, fun _ => rfl⟩
theorem st_product : stp lst_product := by
  intro S x1 x2 x3 x4 x5 h
  have hc := rel_of (vl := S.1) (y := S.2.1) (z := S.2.2) (em := [(1, 1), (2, 2), (3, 4), (4, 3)]) (fc := fun K => ce_X11_product S.1 K 0 x1 x2 S.2.1) (fm := fun K => qe_X13_product K x1 x2 S.2.2) h (c_product h.1) (fun K => ff_X13_product) (fun K => ff_X11_product) (by decide) (fun g hg h9 => by unfold ciH at h9; omega)
  refine st_int (mp := (fun k z => if k = 1 then some (1, z) else if k = 2 then some (2, z) else if k = 4 then some (3, z) else if k = 3 then some (4, z) else none)) hc (fun j k hm => ?_)
  simp only [List.mem_cons, List.not_mem_nil, or_false, Prod.mk.injEq] at hm
  rcases hm with ⟨rfl, rfl⟩ | ⟨rfl, rfl⟩ | ⟨rfl, rfl⟩ | ⟨rfl, rfl⟩ <;> exact ⟨by decide, by decide, by decide, fun _ => rfl⟩
theorem st_inverse : stp lst_inverse := by
  intro S x1 x2 x3 x4 x5 h
  have hc := rel_of (vl := S.1) (y := S.2.1) (z := S.2.2) (em := [(1, 1), (2, 3)]) (fc := fun K => ce_X11_inverse S.1 K 0 x1 S.2.1) (fm := fun K => qe_X13_inverse K x1 S.2.2) h (c_inverse h.1) (fun K => ff_X13_inverse) (fun K => ff_X11_inverse) (by decide) (fun g hg h9 => by unfold ciH at h9; omega)
  refine st_int (mp := (fun k z => if k = 1 then some (1, z) else if k = 3 then some (2, z) else none)) hc (fun j k hm => ?_)
  simp only [List.mem_cons, List.not_mem_nil, or_false, Prod.mk.injEq] at hm
  rcases hm with ⟨rfl, rfl⟩ | ⟨rfl, rfl⟩ <;> exact ⟨by decide, by decide, by decide, fun _ => rfl⟩
theorem st_alike : stp lst_alike := fun S x1 x2 x3 x4 x5 h => st_bool (vl := S.1) (y := S.2.1) (z := S.2.2) (fc := fun K => ce_X11_alike S.1 K 0 x1 x2 S.2.1) (fm := fun K => qe_X13_alike K x1 x2 S.2.2) h (by
    obtain ⟨⟨St, k⟩, -⟩ := id h.1
    exact w_monoE (b_alike k) (fun rr hr => w_monoE hr (fun rc hb => both_Z h.1 hb))) (fun K => ff_X13_alike) (fun K => ff_X11_alike) (by decide) (fun g hg h9 => by unfold ciH at h9; exact hg)
theorem st_drop : stp lst_drop := fun S x1 x2 x3 x4 x5 h => st_bool (vl := S.1) (y := S.2.1) (z := S.2.2) (fc := fun K => ce_X11_drop S.1 K 0 x1 S.2.1) (fm := fun K => qe_X13_drop K x1 S.2.2) h (by
    obtain ⟨⟨St, k⟩, hM, -⟩ := id h.1
    exact w_monoE (b_drop k hM) (fun rr hr => w_monoE hr (fun rc hb => both_Z h.1 hb.1))) (fun K => ff_X13_drop) (fun K => ff_X11_drop) (by decide) (fun g hg h9 => by unfold ciH at h9; omega)
theorem st_dropBraid : stp lst_dropBraid := fun S x1 x2 x3 x4 x5 h => st_bool (vl := S.1) (y := S.2.1) (z := S.2.2) (fc := fun K => ce_X11_dropBraid S.1 K 0 x1 S.2.1) (fm := fun K => qe_X13_dropBraid K x1 S.2.2) h (c_dropBraid h.1) (fun K => ff_X13_dropBraid) (fun K => ff_X11_dropBraid) (by decide) (fun g hg h9 => by unfold ciH at h9; omega)
end XSS
section XSJ
variable {vl : Nat → Nat} {y : ow_MS}
theorem tc_jonesK {x x' : Int32} (hM : gM y) (hk : jnC y) (hn : knC y) : Te (fun K => ce_X11_jones vl K 0 x x' y) (fun r => knC r.2.2) := by
  refine e_X11_jones ?_; unfold cm_X11_jones_0
  refine w_tc0 (tc_need hM.1.1) ?_ ?_
  · rintro y1 ⟨h1, rfl⟩
    rcases h1 with ⟨-, d, A, sg, c, hd, rfl, hs, hA, hne⟩ | h1
    · obtain ⟨T, hT, hT2⟩ := hM.1.2.1 40000 nH40
      refine w_cs0 (tc_countStates ch_1000 (by omega) hd hs hA hM.1.1.1 hk hT hT2) ?_
      rintro y2 ⟨g1, g2, g3, g4, g5, g6⟩
      obtain ⟨S, G, q1, q2, q3⟩ := id g2
      refine w_cs1 (tc_jonesAt hA.2.2.2.1 q2) ?_
      rintro v z ⟨e1, e2⟩
      dsimp only at e1 e2
      rw [e2]
      refine w_some ⟨g5 hn.1, fun s hs => ?_, c, hA.2.2.2.1, q2⟩
      rcases (show s = 0 ∨ s = 1 by omega) with e | e
      · obtain ⟨C, c1, c2⟩ := hn.2.1 0 (by omega)
        rw [e]
        exact ⟨C, g4 C c2 c1, c2⟩
      · rw [e]
        exact ⟨_, g1, (okL_c hA).2⟩
    · exact absurd (show (0 : Nat) = 1 from h1.1) (by decide)
  · rintro a y1 ha ⟨h1, rfl⟩
    rcases h1 with ⟨h1, -⟩ | ⟨h1, h2⟩
    · exact absurd h1 ha
    · exact w_some hn
theorem st_jones : stp lst_jones := by
  intro S x1 x2 x3 x4 x5 h
  have hc : Te (fun K => qe_X13_jones K x1 x2 S.2.2) (fun rr => Te (fun K => ce_X11_jones S.1 K 0 x1 x2 S.2.1) (fun rc => REL (S.1, rc.2.2, rr.2) ∧ ansI [(1, 1)] rr rc)) := by
    obtain ⟨h1, ⟨i1, i2, i3, i4, i5, i6, i7, i8⟩, h3⟩ := id h
    refine w_monoE (c_jones (vl := S.1) (x := x1) (x' := x2) h1 ⟨h3, i2, i3⟩) (fun rr hr => w_monoE (te_and hr (tc_jonesK (vl := S.1) (x := x1) (x' := x2) h1.2.1 i2 i1)) (fun rc ⟨⟨⟨q1, q2⟩, ⟨j1, j2, j3⟩, f1, f2⟩, q3⟩ => ⟨⟨q1, ⟨q3, j2, j3, ?_, ?_, ?_, ?_, i8⟩, j1⟩, q2⟩))
    · exact mpC_fr f2 (by unfold jnP; omega) i4
    · obtain ⟨k, k1, k2, k3⟩ := i5
      refine ⟨k, k1, by rw [(f2 41010 (by unfold jnP; omega)).1]; exact k2, fun s hs => ?_⟩
      rw [(f2 41012 (by unfold jnP; omega)).2.1, (f2 41013 (by unfold jnP; omega)).2.1, (f2 41014 (by unfold jnP; omega)).2.1]
      exact k3 s hs
    · intro m hm
      rw [(f2 43005 (by unfold jnP; omega)).2.1]
      exact i6 m hm
    · intro i k hi hk
      rw [(f2 (45001 + i) (by unfold jnP; omega)).2.1]
      exact i7 i k hi hk
  refine st_int (mp := (fun k z => if k = 1 then some (1, z) else none)) hc (fun j k hm => ?_)
  simp only [List.mem_cons, List.not_mem_nil, or_false, Prod.mk.injEq] at hm
  obtain ⟨rfl, rfl⟩ := hm
  exact ⟨by decide, by decide, by decide, fun _ => rfl⟩
end XSJ
end
section
/-! 99zzzzzzzzzzzzo.xst2 -/
/-! the law's loop: what is left of the whole -/
section XLP
theorem te_if {O : Type} {c : Prop} [Decidable c] {f g : Nat → Option O} {Q : O → Prop} (h1 : c → Te f Q) (h2 : ¬ c → Te g Q) : Te (fun K => if c then f K else g K) Q := by
  by_cases h : c
  · obtain ⟨r, ⟨b, hb⟩, hQ⟩ := h1 h
    exact ⟨r, ⟨b, fun K hK => (if_pos h).trans (hb K hK)⟩, hQ⟩
  · obtain ⟨r, ⟨b, hb⟩, hQ⟩ := h2 h
    exact ⟨r, ⟨b, fun K hK => (if_neg h).trans (hb K hK)⟩, hQ⟩
theorem rel_phi {S : ow_LwS} (h : REL S) : dPhi S.1 ≤ 2800000 := by
  obtain ⟨-, ⟨-, -, -, -, -, -, -, W, C, hv⟩, -⟩ := h
  have := vI_phi hv
  obtain ⟨-, -, -, -, -, -, h1, h2, h3, h4⟩ := hv
  omega
theorem x63 {x : Int32} (h : ¬ (x.toInt < 0 ∨ 38 < x.toInt)) : ∃ i, i < 39 ∧ x = nI i := by
  refine ⟨x.toInt.toNat, by omega, ?_⟩
  refine Int32.toInt_inj.mp ?_
  rw [nI_toInt (by omega)]
  omega
end XLP
end
section
/-! 99zzzzzzzzzzzzp.xnm -/
/-! what the class keeps are codes of their own lists -/
def cdNm (C : cdT) : Prop := ∃ A sg c, okL A c ∧ C = clC sg A ∧ nrm A sg
def NM (y : ow_MS) : Prop := nmC y ∧ (∀ Cs os, tbO y 2000 1848 Cs os → ∀ C, C ∈ Cs → cdNm C) ∧ ∀ Cs os, tbO y 3000 12 Cs os → ∀ C, C ∈ Cs → cdNm C
section XNM
variable {vl : Nat → Nat} {y y1 y3 : ow_MS} {St : plT} {P : Nat → Prop} {x x' : Int32} {e : Nat} {A A2 : rn_L} {sg sg' sg2 : Nat → Bool} {c : Nat}
theorem fr_sym (h : fr P y y1) : fr P y1 y := fun g hg => ⟨(h g hg).1.symm, (h g hg).2.1.symm, (h g hg).2.2.symm⟩
theorem nrm_sg (h : nrm A sg) (hA : okL A c) (e : clC sg' A = clC sg A) : nrm A sg' := by
  obtain ⟨T, g, Ds, qs, h1, h2, h3, h4, h5⟩ := h
  obtain ⟨-, -, q⟩ := clC_inj hA hA e
  exact ⟨T, g, Ds, qs, h1, h2, isoV_sg h3 (fun p hp => q p.1 ((hA.1.2 p).mp hp).1), h4, h5.trans e.symm⟩
theorem len_cl (hne : A ≠ []) : 0 < (clC sg A).2.length := by
  show 0 < (ucd sg 0 [] A).length
  rw [ucd_len]
  have := List.length_pos_iff.mpr hne
  omega
/-- a place of the class by the table of places -/
theorem pl_of9 (hC : relC y St) (hS : okS St) {d : Nat} (hd : d < 40) (hs : slC y 1000 d (clC sg A)) (hA : okL A c) (hne : A ≠ []) : ∃ sg2, St d = some (A, sg2) ∧ clC sg A = clC sg2 A := by
  have ok := (okL_c (sg := sg) hA).2
  have hl := len_cl (sg := sg) hne
  cases e : St d with
  | none =>
    have h9 := (hC d hd).1 e
    have h8 : y.2.1 1002 d = nI (clC sg A).2.length := hs.2.1
    rw [h8] at h9
    have := nI_inj9 (a := (clC sg A).2.length) (b := 0) (by have := ok.2.1; omega) (by omega) h9
    omega
  | some P =>
    obtain ⟨k1, k2, c', k3⟩ := hS d P.1 P.2 hd e
    have eC := slC_uni ok (okL_c k3).2 hs ((hC d hd).2 P.1 P.2 e)
    obtain ⟨q1, q2, q3⟩ := clC_inj hA k3 eC
    exact ⟨P.2, by rw [q1], by rw [eC, q1]⟩
/-- the same places -/
theorem nm_same (hC : relC y St) (hC1 : relC y1 St) (hS : okS St) (h : nmC y) : nmC y1 := by
  intro d A sg c hd hs hA hne
  obtain ⟨sg2, h1, h2⟩ := pl_of9 hC1 hS hd hs hA hne
  exact nrm_sg (h d A sg2 c hd ((hC d hd).2 A sg2 h1) hA hne) hA h2
/-- one place more -/
theorem nm_put (hC : relC y St) (hC1 : relC y1 (upP St e (some (A2, sg2)))) (hS : okS St) (hS1 : okS (upP St e (some (A2, sg2)))) (hn : nrm A2 sg2) (h : nmC y) : nmC y1 := by
  intro d A sg c hd hs hA hne
  obtain ⟨sg3, h1, h2⟩ := pl_of9 hC1 hS1 hd hs hA hne
  by_cases ed : d = e
  · subst ed
    rw [show upP St d (some (A2, sg2)) d = some (A2, sg2) from if_pos rfl] at h1
    cases h1
    exact nrm_sg hn hA h2
  · rw [show upP St e (some (A2, sg2)) d = St d from if_neg ed] at h1
    exact nrm_sg (h d A sg3 c hd ((hC d hd).2 A sg3 h1) hA hne) hA h2
theorem nm_kp {r : Int32 × ow_MS} (hN : dgC y) (hC : relC y St) (hS : okS St) (h : nmC y) (hk : cKp y e A2 sg2 r) : nmC r.2 := by
  obtain ⟨c1, c2, c3, ⟨T, f, Cs, os, t1, t2, t3, t4, t5, t6⟩, c4⟩ := hk
  have h6 : A2.length ≤ 6 := by
    have := iso_rge (isoS_iff.mp t3.1) t1.1
    have := t1.2.2.2
    omega
  obtain ⟨m, P, m1⟩ := mk_ex A2
  obtain ⟨A', sg', p1, p2, p3, p4, f', p5⟩ := enc_iso (isoS_iff.mp t3.1) h6 t1 m1 t5
  have hn : nrm A' sg' := ⟨T, f', Cs, os, t1, t2, p5, t5, p3⟩
  have hC1 : relC r.2 (upP St e (some (A', sg'))) := relC_put hN hC hS (by rw [← p3]; exact t6) c4
  intro d A sg c hd hs hA hne
  have ok := (okL_c (sg := sg) hA).2
  have hl := len_cl (sg := sg) hne
  by_cases ed : d = e
  · subst ed
    have hs2 := (hC1 d hd).2 A' sg' (if_pos rfl)
    have eC := slC_uni ok (okL_c p2).2 hs hs2
    obtain ⟨q1, q2, q3⟩ := clC_inj hA p2 eC
    subst q1
    exact nrm_sg hn hA eC
  · have eu : upP St e (some (A', sg')) d = St d := if_neg ed
    cases e9 : St d with
    | none =>
      have h9 := (hC1 d hd).1 (by rw [eu]; exact e9)
      have h8 : r.2.2.1 1002 d = nI (clC sg A).2.length := hs.2.1
      rw [h8] at h9
      have := nI_inj9 (a := (clC sg A).2.length) (b := 0) (by have := ok.2.1; omega) (by omega) h9
      omega
    | some Q =>
      obtain ⟨k1, k2, c', k3⟩ := hS d Q.1 Q.2 hd e9
      have hs2 := (hC1 d hd).2 Q.1 Q.2 (by rw [eu]; exact e9)
      have eC := slC_uni ok (okL_c k3).2 hs hs2
      obtain ⟨q1, q2, q3⟩ := clC_inj hA k3 eC
      subst q1
      exact nrm_sg (h d Q.1 Q.2 c' hd ((hC d hd).2 Q.1 Q.2 e9) k3 k1) hA eC
theorem NM_fr (hf : fr P y y1) (hP : ∀ g, P g → ¬ (1001 ≤ g ∧ g ≤ 1003 ∨ 2001 ≤ g ∧ g ≤ 2005 ∨ 3001 ≤ g ∧ g ≤ 3005)) (h : NM y) : NM y1 := by
  have hb := fr_sym hf
  obtain ⟨h1, h2, h3⟩ := h
  refine ⟨fun d A sg c hd hs hA hne => h1 d A sg c hd (slC_fr hb (fun q hq h9 => hP q h9 (by unfold cW at hq; omega)) hs) hA hne, fun Cs os ht => h2 Cs os (tbO_fr hb (fun q hq h9 => hP q h9 (by unfold cV at hq; omega)) ht), fun Cs os ht => h3 Cs os (tbO_fr hb (fun q hq h9 => hP q h9 (by unfold cV at hq; omega)) ht)⟩
/-- the lists, where a call changes the places alone -/
theorem NM_pl (hf : fr P y y1) (hP : ∀ g, P g → ¬ (2001 ≤ g ∧ g ≤ 2005 ∨ 3001 ≤ g ∧ g ≤ 3005)) (hn : nmC y1) (h : NM y) : NM y1 := by
  have hb := fr_sym hf
  exact ⟨hn, fun Cs os ht => h.2.1 Cs os (tbO_fr hb (fun q hq h9 => hP q h9 (by unfold cV at hq; omega)) ht), fun Cs os ht => h.2.2 Cs os (tbO_fr hb (fun q hq h9 => hP q h9 (by unfold cV at hq; omega)) ht)⟩
theorem tab_uni {g : Nat} {Cs Ds : List cdT} {os qs : List Nat} (h1 : tabC y g Cs os) (h2 : tabC y g Ds qs) (l1 : os.length < 2 ^ 31) (l2 : qs.length < 2 ^ 31) : Cs = Ds := by
  have hl : os.length = qs.length := nI_inj9 l1 l2 (h1.1.symm.trans h2.1)
  refine List.ext_getElem? (fun i => ?_)
  by_cases hi : i < Cs.length
  · have hi2 : i < Ds.length := by have := h1.2.1; have := h2.2.1; omega
    obtain ⟨a1, a2⟩ := h1.2.2.1 i _ (List.getElem?_eq_getElem hi)
    obtain ⟨b1, b2⟩ := h2.2.2.1 i _ (List.getElem?_eq_getElem hi2)
    rw [List.getElem?_eq_getElem hi, List.getElem?_eq_getElem hi2, slC_uni a2 b2 a1 b1]
  · rw [List.getElem?_eq_none (by omega), List.getElem?_eq_none (by have := h1.2.1; have := h2.2.1; omega)]
theorem mv_cdNm {R : ow_NT} {kd j : Nat} {C : cdT} (hR : nxC A sg c R) (hpl : plnA A sg) (hne : A ≠ []) (hk : kd < 5) (hj : j < mv_cnt R.1 kd) (hD : mvD kd R j C) : cdNm C := by
  obtain ⟨hV, hp, hpn, ec⟩ := nx_iso hR hpl
  have h6 := hR.1.2.2.2.2
  have mb := mb_all hV hp h6 hpn hk
  obtain ⟨F, P, Q, Ds, qs, d1, d2, d3, d4, rfl⟩ := hD
  obtain ⟨A', sg', hO, hall⟩ := mb.1 j hj ⟨F, P, Q, d1, d2, d3⟩
  obtain ⟨-, f, hf⟩ := hall F P Q d1 d2
  obtain ⟨m, Pp, hmk⟩ := mk_ex A'
  obtain ⟨B, sB, cB, o1, o2, -, -, -, o6⟩ := jnN9 hR.2.2.1 hp hpn h6 hne hk hO hj d1 d2 d3 hf d4 ⟨m, Pp, hmk, rfl⟩
  exact ⟨B, sB, cB, o1, o2, o6⟩
end XNM
section XNC
variable {X : (Nat → Nat → Int32) → Prop} {vl : Nat → Nat} {z y : ow_MS} {x x' : Int32}
theorem nm_mirror (h : rel3 X z y) (hm : nmC y) : Te (fun K => ce_X11_mirror vl K 0 x y) (fun r => nmC r.2.2) := by
  obtain ⟨⟨St, k⟩, -⟩ := id h
  refine w_monoE (xc_mirror k.2.1 k.2.2.2.1 k.2.2.2.2) (fun r hr => ?_)
  rcases hr with ⟨-, -, -, q, -⟩ | ⟨d, A, sg, hd, -, hSt, hr⟩
  · exact nm_same k.2.2.2.1 q k.2.2.2.2 hm
  · rcases hr with ⟨-, -, -, q, -⟩ | ⟨-, e, he, q⟩
    · exact nm_same k.2.2.2.1 q k.2.2.2.2 hm
    · exact nm_kp k.2.1.1 k.2.2.2.1 k.2.2.2.2 hm q
theorem nm_change (h : rel3 X z y) (hm : nmC y) : Te (fun K => ce_X11_change vl K 0 x x' y) (fun r => nmC r.2.2) := by
  obtain ⟨⟨St, k⟩, -⟩ := id h
  refine w_monoE (xc_change k.2.1 k.2.2.2.1 k.2.2.2.2) (fun r hr => ?_)
  rcases hr with ⟨-, -, -, q, -⟩ | ⟨d, A, sg, hd, -, hSt, hr⟩
  · exact nm_same k.2.2.2.1 q k.2.2.2.2 hm
  · rcases hr with ⟨-, -, -, q, -⟩ | ⟨k9, -, -, hr⟩
    · exact nm_same k.2.2.2.1 q k.2.2.2.2 hm
    · rcases hr with ⟨-, -, -, q, -⟩ | ⟨-, e, he, q⟩
      · exact nm_same k.2.2.2.1 q k.2.2.2.2 hm
      · exact nm_kp k.2.1.1 k.2.2.2.1 k.2.2.2.2 hm q
theorem nm_reverse (h : rel3 X z y) (hm : nmC y) : Te (fun K => ce_X11_reverse vl K 0 x x' y) (fun r => nmC r.2.2) := by
  obtain ⟨⟨St, k⟩, -⟩ := id h
  refine w_monoE (xc_reverse k.2.1 k.2.2.2.1 k.2.2.2.2) (fun r hr => ?_)
  rcases hr with ⟨-, -, -, q, -⟩ | ⟨d, A, sg, hd, -, hSt, hr⟩
  · exact nm_same k.2.2.2.1 q k.2.2.2.2 hm
  · rcases hr with ⟨-, -, -, q, -⟩ | ⟨-, hr⟩
    · exact nm_same k.2.2.2.1 q k.2.2.2.2 hm
    · rcases hr with ⟨-, -, -, q, -⟩ | ⟨-, e, he, q⟩
      · exact nm_same k.2.2.2.1 q k.2.2.2.2 hm
      · exact nm_kp k.2.1.1 k.2.2.2.1 k.2.2.2.2 hm q
theorem nm_apart (h : rel3 X z y) (hm : nmC y) : Te (fun K => ce_X11_apart vl K 0 x x' y) (fun r => nmC r.2.2) := by
  obtain ⟨⟨St, k⟩, -⟩ := id h
  refine w_monoE (xc_apart k.2.1 k.2.2.2.1 k.2.2.2.2) (fun r hr => ?_)
  rcases hr with ⟨-, -, -, q, -⟩ | ⟨d, A, sg, e, B, sg', hd, -, hSt, -, -, -, hr⟩
  · exact nm_same k.2.2.2.1 q k.2.2.2.2 hm
  · rcases hr with ⟨-, -, -, q, -⟩ | ⟨-, -, hr⟩
    · exact nm_same k.2.2.2.1 q k.2.2.2.2 hm
    · rcases hr with ⟨-, -, -, q, -⟩ | ⟨-, f, hf, q⟩
      · exact nm_same k.2.2.2.1 q k.2.2.2.2 hm
      · exact nm_kp k.2.1.1 k.2.2.2.1 k.2.2.2.2 hm q
theorem nm_smooth (h : rel3 X z y) (hm : nmC y) : Te (fun K => ce_X11_smooth vl K 0 x x' y) (fun r => nmC r.2.2) := by
  obtain ⟨⟨St, k⟩, -⟩ := id h
  refine w_monoE (xc_smooth k.2.1 k.2.2.2.1 k.2.2.2.2) (fun r hr => ?_)
  rcases hr with ⟨-, -, -, q, -⟩ | ⟨d, A, sg, hd, -, hSt, hr⟩
  · exact nm_same k.2.2.2.1 q k.2.2.2.2 hm
  · rcases hr with ⟨-, -, -, q, -⟩ | ⟨k9, v, w, -, -, -, hr⟩
    · exact nm_same k.2.2.2.1 q k.2.2.2.2 hm
    · rcases hr with ⟨-, -, -, q, -⟩ | ⟨-, hr⟩
      · exact nm_same k.2.2.2.1 q k.2.2.2.2 hm
      · rcases hr with ⟨-, -, -, q, -⟩ | ⟨-, e, he, q⟩
        · exact nm_same k.2.2.2.1 q k.2.2.2.2 hm
        · exact nm_kp k.2.1.1 k.2.2.2.1 k.2.2.2.2 hm q
theorem nm_join {v0 w0 : Int32} (h : rel3 X z y) (hm : nmC y) : Te (fun K => ce_X11_join vl K 0 x v0 x' w0 y) (fun r => nmC r.2.2) := by
  obtain ⟨⟨St, k⟩, -⟩ := id h
  refine w_monoE (xc_join k.2.1 k.2.2.2.1 k.2.2.2.2) (fun r hr => ?_)
  rcases hr with ⟨-, -, -, q, -⟩ | ⟨A, sg, B, sg', v, w, -, hr⟩
  · exact nm_same k.2.2.2.1 q k.2.2.2.2 hm
  · rcases hr with ⟨-, -, -, q, -⟩ | ⟨-, -, hr⟩
    · exact nm_same k.2.2.2.1 q k.2.2.2.2 hm
    · rcases hr with ⟨-, -, -, q, -⟩ | ⟨-, f, hf, q⟩
      · exact nm_same k.2.2.2.1 q k.2.2.2.2 hm
      · exact nm_kp k.2.1.1 k.2.2.2.1 k.2.2.2.2 hm q
theorem nm_eq {y1 : ow_MS} (e : y1 = y) (hm : nmC y) : nmC y1 := by
  rw [e]
  exact hm
theorem nm_closure (h : rel3 X z y) (hm : nmC y) : Te (fun K => ce_X11_closure vl K 0 x y) (fun r => nmC r.2.2) := by
  obtain ⟨⟨St, k⟩, -, h2⟩ := id h
  have hB := h2.2.2.1
  have hb := h2.2.1
  rcases br_cs k.1 x with hn | ⟨b, n, l, hb20, rfl, hh⟩
  · exact w_monoE (xc_closure0 (St := St) k.2.1 k.2.2.2.1 hB (noB_iff hb hn)) (fun r hr => nm_eq hr.2 hm)
  · obtain ⟨w, lp, w1, w2, w3, w4⟩ := ltX_of hh hb20 hb
    obtain ⟨rr, -, hr⟩ := xq_closure k.1 k.2.2.1 hb20 hh w1
    have p1 := hh.1
    have p2 := hh.2.1
    have p3 := hh.2.2.1
    have lo : ∀ {Rs : List (List Nat)}, (∀ e, lstF St e → clQ w n l Rs ∧ ∀ s, s < n → s ∈ Rs.flatten) ∨ 12 < l → Te (fun K => ce_X11_closure vl K 0 (nI b) y) (fun r => nmC r.2.2) := by
      intro Rs hq
      refine w_monoE (xc_closure (Rs := Rs) k.2.1 k.2.2.2.1 k.2.2.2.2 hB hb20 p1 p2 w3 p3 w4 w2) (fun rc hc => ?_)
      rcases hc with ⟨-, c2, -⟩ | ⟨c3, hc⟩
      · exact nm_eq c2 hm
      · rcases hc with ⟨-, c2, -⟩ | ⟨c0, f, c1, c2⟩
        · exact nm_eq c2 hm
        · rcases hq with hq | hq
          · exact nm_kp k.2.1.1 k.2.2.2.1 k.2.2.2.2 hm (c2 (hq f c1).1 (hq f c1).2)
          · omega
    rcases hr with ⟨-, r2⟩ | ⟨r0, hr⟩
    · exact lo (Rs := []) (Or.inr r2)
    · rcases hr with ⟨-, r2⟩ | ⟨e, Rs, z4, r1, r2, r3, r4, r5, r6⟩
      · exact lo (Rs := []) (Or.inl (fun e he => (all_lst r2 he).elim))
      · exact lo (Rs := Rs) (Or.inl (fun e he => ⟨r2, r4⟩))
theorem nm_diagram (h : rel3 X z y) (hm : nmC y) : Te (fun K => ce_X11_diagram vl K 0 y) (fun r => nmC r.2.2) := by
  obtain ⟨⟨St, k⟩, hM, h2⟩ := id h
  obtain ⟨t, t1, t2, t3, t4⟩ := id h2.1
  obtain ⟨R, hR⟩ : ∃ R, rdF9 (fun k => z.2.1 10 k) t (t + 1) 0 [] [] [] = R := ⟨_, rfl⟩
  have hbc : ∀ k, k < t → y.2.1 11002 k = (fun k => z.2.1 10 k) k := fun k hk => (t4 k hk).symm
  refine w_monoE (xc_diagram (St := St) hM k.2.2.2.1 k.2.2.2.2 t1 t3 hbc hR) (fun r hr => ?_)
  rcases hr with ⟨-, c2, -⟩ | ⟨-, -, e, he, hc⟩
  · exact nm_eq c2 hm
  · cases hRR : R with
    | inl j =>
      rw [hRR] at hc
      exact nm_same k.2.2.2.1 hc.2 k.2.2.2.2 hm
    | inr q =>
      obtain ⟨nm, A⟩ := q
      rw [hRR] at hc
      rcases hc with ⟨a, -, -, c4⟩ | ⟨-, T, -, -, -, hc⟩
      · exact nm_same k.2.2.2.1 c4 k.2.2.2.2 hm
      · rcases hc with ⟨-, -, c4⟩ | ⟨-, y3, d3, c3, c4⟩
        · exact nm_same k.2.2.2.1 c4 k.2.2.2.2 hm
        · exact nm_kp d3 c3 k.2.2.2.2 (nm_same k.2.2.2.1 c3 k.2.2.2.2 hm) c4
theorem nm_drop (h : rel3 X z y) (hm : nmC y) : Te (fun K => ce_X11_drop vl K 0 x y) (fun r => nmC r.2) := by
  refine w_monoE (tc_drop2 h.2.1) (fun r hr => ?_)
  rcases hr.2 with ⟨-, d, A, sg, c, hd, -, -, -, -, e⟩ | ⟨-, -, e⟩
  · rw [e]
    intro d' A' sg' c' hd' hs hA hne
    have ok := (okL_c (sg := sg') hA).2
    have hl := len_cl (sg := sg') hne
    by_cases ed : d' = d
    · have h8 : (usI y 1002 d 0).2.1 1002 d' = nI (clC sg' A').2.length := hs.2.1
      rw [ed, po_usI_at] at h8
      have := nI_inj9 (a := 0) (b := (clC sg' A').2.length) (by omega) (by have := ok.2.1; omega) h8
      omega
    · refine hm d' A' sg' c' hd' ⟨?_, ?_, fun i a hi => ?_⟩ hA hne
      · have := hs.1
        exact (rd_ot (show (1000 + 3 : Nat) ≠ 1002 by omega) rfl).symm.trans this
      · have := hs.2.1
        exact (rd_ne ed rfl).symm.trans this
      · have := hs.2.2 i a hi
        exact (rd_ot (show (1000 + 1 : Nat) ≠ 1002 by omega) rfl).symm.trans this
  · exact nm_eq e hm
/-- moved, summand: copied out of a list -/
theorem nm_copy {g p : Nat} {Ms : List (rn_L × (Nat → Bool))} (h : rel3 X z y) (hm : nmC y) (hg : tH g p) (hg2 : g = 2000 ∨ g = 3000) (hM : rlC g p y Ms) (hO : okM Ms) (hL : ∀ Cs os, tbO y g p Cs os → ∀ C, C ∈ Cs → cdNm C) : Te (fun K => ce_X11_copyOut vl K 0 g x y) (fun r => nmC r.2.2) := by
  obtain ⟨⟨St, k⟩, hG, h2⟩ := id h
  refine w_monoE (xc_copyOut hg hg2 hM hO hG k.2.2.2.1 k.2.2.2.2) (fun r hr => ?_)
  rcases hr.2 with ⟨-, e, -⟩ | ⟨j, A, sg, hj, -, hr⟩
  · exact nm_eq e hm
  · rcases hr with ⟨-, e, -⟩ | ⟨-, e, he, -, -, hC1⟩
    · exact nm_eq e hm
    · obtain ⟨Cs, os, t1, t2, t3⟩ := hM
      have hjl := (List.getElem?_eq_some_iff.mp hj).1
      obtain ⟨A3, s3, c3, o1, o2, o3⟩ := hL Cs os t1 _ (at_in t1.1.2.1 (tabC_os t1.1) (k := j) (by omega))
      obtain ⟨k1, k2, c, k3⟩ := hO j A sg hj
      have eC : clC sg A = clC s3 A3 := (t3 j A sg hj).symm.trans o2
      obtain ⟨q1, q2, q3⟩ := clC_inj k3 o1 eC
      subst q1
      exact nm_put k.2.2.2.1 hC1 k.2.2.2.2 (okS_put k.2.2.2.2 ⟨k1, k2, c, k3⟩) (nrm_sg o3 k3 eC) hm
theorem nm_simplify (h : rel3 X z y) (hm : nmC y) : Te (fun K => ce_X11_simplify vl K 0 x y) (fun r => nmC r.2.2) := by
  obtain ⟨⟨St, k⟩, hM, h2⟩ := id h
  refine w_monoE (xc_simplify hM k.2.2.2.1 k.2.2.2.2) (fun r hr => ?_)
  rcases hr with ⟨-, e, -⟩ | ⟨d, A, sg, c, hd, -, hSt, hA, hne, hpl, hr⟩
  · exact nm_eq e hm
  · rcases hr with ⟨-, e, -⟩ | ⟨e, he, -, Cs, os, l1, l2, l3, l4, hg, hcl, hr⟩
    · exact nm_eq e hm
    · rcases hr with ⟨-, -, hf⟩ | ⟨l5, -, hf, hC1⟩
      · exact nm_same k.2.2.2.1 (relC_fr hf (fun q hq h9 => by unfold cW at hq; unfold coP cV at h9; omega) k.2.2.2.1) k.2.2.2.2 hm
      · have hn0 : nrm A sg := hm d A sg c hd ((k.2.2.2.1 d hd).2 A sg hSt) hA hne
        have key : ∀ (n i : Nat) C, i ≤ n → Cs[i]? = some C → ∃ B sB cB, okL B cB ∧ C = clC sB B ∧ nrm B sB ∧ B ≠ [] ∧ plnA B sB := by
          intro n
          induction n with
          | zero =>
            intro i C hi hC
            have e0 : i = 0 := by omega
            rw [e0, hg.1] at hC
            cases hC
            exact ⟨A, sg, c, hA, rfl, hn0, hne, hpl⟩
          | succ n ih =>
            intro i C hi hC
            rcases hg.2 i C hC with e0 | ⟨i', A1, sg1, c1, R, kd, j, q1, q2, q3, q4, q5, q6⟩
            · exact ih i C (by omega) hC
            · obtain ⟨B, sB, cB, b1, b2, b3, b4, b5⟩ := ih i' _ (by omega) q2
              obtain ⟨e1, e2, e3⟩ := clC_inj q3.1 b1 b2
              subst e1
              have hpl1 : plnA A1 sg1 := fun f9 T9 h9 hp9 => b5 f9 T9 (isoV_sg h9 (fun p hp => (e3 p.1 ((q3.1.1.2 p).mp hp).1).symm)) hp9
              have hk := k024_5 q4
              obtain ⟨hV, hp, hpn, ec⟩ := nx_iso q3 hpl1
              have mb := mb_all hV hp q3.1.2.2.2.2 hpn hk
              obtain ⟨F, P, Q, Ds, qs, d1, d2, d3, d4, rfl⟩ := q6
              obtain ⟨A', sg', hO, hall⟩ := mb.1 j q5 ⟨F, P, Q, d1, d2, d3⟩
              obtain ⟨-, f, hf9⟩ := hall F P Q d1 d2
              obtain ⟨m, Pp, hmk⟩ := mk_ex A'
              obtain ⟨B2, sB2, cB2, o1, o2, -, o4, o5, o6⟩ := jnN9 q3.2.2.1 hp hpn q3.1.2.2.2.2 b4 hk hO q5 d1 d2 d3 hf9 d4 ⟨m, Pp, hmk, rfl⟩
              exact ⟨B2, sB2, cB2, o1, o2, o6, o4, o5⟩
        obtain ⟨i, hi, ei⟩ := List.getElem_of_mem (at_in l1 l2 l4)
        obtain ⟨B, sB, cB, b1, b2, b3, b4, b5⟩ := key i i _ (Nat.le_refl _) (by rw [List.getElem?_eq_getElem hi, ei])
        exact nm_put k.2.2.2.1 (hC1 B sB b2.symm) k.2.2.2.2 (okS_put k.2.2.2.2 ⟨b4, b5, cB, b1⟩) b3 hm
end XNC
end
section
/-! 99zzzzzzzzzzzzq.xst3 -/
/-! the steps of the law with the codes of their own lists; what is left of the whole -/
def REL2 (S : ow_LwS) : Prop := REL S ∧ NM S.2.1
def stp2 (f : (Nat → Nat) → Nat → Int32 → Int32 → Int32 → Int32 → Int32 → ow_MS → ow_MS → Option ow_LwS) : Prop := ∀ (S : ow_LwS) (x1 x2 x3 x4 x5 : Int32), REL2 S → Te (fun K => f S.1 K x1 x2 x3 x4 x5 S.2.1 S.2.2) (fun S1 => REL2 S1 ∧ dPhi S.1 ≤ dPhi S1.1)
section XS3
variable {vl : Nat → Nat} {Q : ow_LwS → Prop}
theorem NM_J {y : ow_MS} {v : Int64} (h : NM y) : NM (usJ y 52001 0 v) := h
theorem lsV_nm {fc : Nat → Option (Nat × Int32 × ow_MS)} {mp : Nat → ow_MS → Option (Int32 × ow_MS)} {fm : Nat → Option (Int32 × ow_MS)} (h : Te (lsV vl fc mp fm) Q) (hn : Te fc (fun rc => NM rc.2.2)) (hmp : ∀ k z r, mp k z = some r → r.2 = z) : Te (lsV vl fc mp fm) (fun S1 => Q S1 ∧ NM S1.2.1) := by
  obtain ⟨S1, ⟨b1, hb1⟩, hQ⟩ := h
  obtain ⟨⟨k, v, zc⟩, ⟨b2, hb2⟩, hN⟩ := hn
  have hN : NM zc := hN
  refine ⟨S1, ⟨b1, hb1⟩, hQ, ?_⟩
  have e1 := hb1 (b1 + b2) (by omega)
  have e2 := hb2 (b1 + b2) (by omega)
  have main : ∀ (a : Int32) (zc1 : ow_MS), NM zc1 → (cs1 (fm (b1 + b2)) fun v4 zm3 => cs1 (qe_X13_thrown (b1 + b2) zm3) fun v6 zm5 => (if v6 = a then (if a = 0 then crJ (cX vl) zc1 52001 0 fun v7 => (if (lg_cmp v7 v4.toInt64) = 0 then some (vl, zc1, zm5) else none) else some (vl, zc1, zm5)) else none)) = some S1 → NM S1.2.1 := by
    intro a zc1 hz h9
    cases hf : fm (b1 + b2) with
    | none =>
      rw [hf] at h9
      cases h9
    | some q =>
      obtain ⟨v4, zm3⟩ := q
      rw [hf] at h9
      have h9 : (if zm3.1 1 = a then (if a = 0 then crJ (cX vl) zc1 52001 0 fun v7 => (if (lg_cmp v7 v4.toInt64) = 0 then some (vl, zc1, zm3) else none) else some (vl, zc1, zm3)) else none) = some S1 := h9
      by_cases c1 : zm3.1 1 = a
      · rw [if_pos c1] at h9
        by_cases c2 : a = 0
        · rw [if_pos c2] at h9
          have h9 : (if lg_cmp (zc1.2.2 52001 0) v4.toInt64 = 0 then some (vl, zc1, zm3) else none) = some S1 := h9
          by_cases c3 : lg_cmp (zc1.2.2 52001 0) v4.toInt64 = 0
          · rw [if_pos c3] at h9
            cases h9
            exact hz
          · rw [if_neg c3] at h9
            cases h9
        · rw [if_neg c2] at h9
          cases h9
          exact hz
      · rw [if_neg c1] at h9
        cases h9
  unfold lsV at e1
  rw [e2] at e1
  by_cases hk : k = 0
  · have e3 : tc1 (some (k, v, zc)) mp (fun v3 z1 => ctJ (cX vl) z1 52001 0 v3.toInt64 fun z4 => some (0, z4)) = some (0, usJ zc 52001 0 v.toInt64) := by
      show (if k = 0 then ctJ (cX vl) zc 52001 0 v.toInt64 (fun z4 => some (0, z4)) else mp k zc) = _
      rw [if_pos hk]
      rfl
    rw [e3] at e1
    exact main 0 _ (NM_J hN) e1
  · have e3 : tc1 (some (k, v, zc)) mp (fun v3 z1 => ctJ (cX vl) z1 52001 0 v3.toInt64 fun z4 => some (0, z4)) = mp k zc := by
      show (if k = 0 then ctJ (cX vl) zc 52001 0 v.toInt64 (fun z4 => some (0, z4)) else mp k zc) = _
      rw [if_neg hk]
    rw [e3] at e1
    cases hm : mp k zc with
    | none =>
      rw [hm] at e1
      cases e1
    | some q =>
      obtain ⟨a, zc1⟩ := q
      have ez : zc1 = zc := hmp k zc _ hm
      rw [hm, ez] at e1
      exact main a zc hN e1
theorem lsB_nm {fc fm : Nat → Option (Int32 × ow_MS)} (h : Te (fun K => cs1 (fc K) fun v2 zc1 => cs1 (fm K) fun v4 zm3 => (if v2 = v4 then some (vl, zc1, zm3) else none)) Q) (hn : Te fc (fun rc => NM rc.2)) : Te (fun K => cs1 (fc K) fun v2 zc1 => cs1 (fm K) fun v4 zm3 => (if v2 = v4 then some (vl, zc1, zm3) else none)) (fun S1 => Q S1 ∧ NM S1.2.1) := by
  obtain ⟨S1, ⟨b1, hb1⟩, hQ⟩ := h
  obtain ⟨⟨v, zc⟩, ⟨b2, hb2⟩, hN⟩ := hn
  have hN : NM zc := hN
  refine ⟨S1, ⟨b1, hb1⟩, hQ, ?_⟩
  have e1 := hb1 (b1 + b2) (by omega)
  have e2 := hb2 (b1 + b2) (by omega)
  have e1 : (cs1 (fc (b1 + b2)) fun v2 zc1 => cs1 (fm (b1 + b2)) fun v4 zm3 => (if v2 = v4 then some (vl, zc1, zm3) else none)) = some S1 := e1
  rw [e2] at e1
  have e1 : (cs1 (fm (b1 + b2)) fun v4 zm3 => (if v = v4 then some (vl, zc, zm3) else none)) = some S1 := e1
  cases hf : fm (b1 + b2) with
  | none =>
    rw [hf] at e1
    cases e1
  | some q =>
    obtain ⟨v4, zm3⟩ := q
    rw [hf] at e1
    have e1 : (if v = v4 then some (vl, zc, zm3) else none) = some S1 := e1
    by_cases c1 : v = v4
    · rw [if_pos c1] at e1
      cases e1
      exact hN
    · rw [if_neg c1] at e1
      cases e1
theorem te_nmF {P : Nat → Prop} {y : ow_MS} {fc : Nat → Option (Nat × Int32 × ow_MS)} {R : Nat × Int32 × ow_MS → Prop} (hT : Te fc R) (hf : ∀ K, Fo (fun r => r.2.2) P y (fc K)) (hP : ∀ g, P g → ¬ (1001 ≤ g ∧ g ≤ 1003 ∨ 2001 ≤ g ∧ g ≤ 2005 ∨ 3001 ≤ g ∧ g ≤ 3005)) (h : NM y) : Te fc (fun rc => NM rc.2.2) := w_monoE (te_fo hT hf) (fun rc ⟨_, f⟩ => NM_fr f hP h)
theorem te_nmP {P : Nat → Prop} {y : ow_MS} {fc : Nat → Option (Nat × Int32 × ow_MS)} (hT : Te fc (fun rc => nmC rc.2.2)) (hf : ∀ K, Fo (fun r => r.2.2) P y (fc K)) (hP : ∀ g, P g → ¬ (2001 ≤ g ∧ g ≤ 2005 ∨ 3001 ≤ g ∧ g ≤ 3005)) (h : NM y) : Te fc (fun rc => NM rc.2.2) := w_monoE (te_fo hT hf) (fun rc ⟨hn, f⟩ => NM_pl f hP hn h)
theorem te_in {O P : Type} {f : Nat → Option O} {g : Nat → Option P} {M : O → P → Prop} (h : Te f (fun a => Te g (fun b => M a b))) : Te g (fun _ => True) := by
  obtain ⟨a, -, b, hb, -⟩ := h
  exact ⟨b, hb, trivial⟩
theorem nm_moved {X : (Nat → Nat → Int32) → Prop} {z y : ow_MS} {x : Int32} (h : rel3 X z y) (hm : NM y) : Te (fun K => ce_X11_moved vl K 0 x y) (fun r => nmC r.2.2) := by
  obtain ⟨Ms, m1, m2, m3⟩ := h.2.2.2.2.2.1
  refine e_X11_moved ?_; unfold cm_X11_moved_0
  refine w_tc1 (nm_copy h hm.1 tH2 (Or.inl rfl) m2 m3 hm.2.1) ?_ ?_
  · rintro v y1 h1
    exact w_some h1
  · rintro a v y1 ha h1
    exact w_some h1
theorem nm_summand {X : (Nat → Nat → Int32) → Prop} {z y : ow_MS} {x : Int32} (h : rel3 X z y) (hm : NM y) : Te (fun K => ce_X11_summand vl K 0 x y) (fun r => nmC r.2.2) := by
  obtain ⟨Ms, m1, m2, m3⟩ := h.2.2.2.2.2.2
  refine e_X11_summand ?_; unfold cm_X11_summand_0
  refine w_tc1 (nm_copy h hm.1 tH3 (Or.inr rfl) m2 m3 hm.2.2) ?_ ?_
  · rintro v y1 h1
    exact w_some h1
  · rintro a v y1 ha h1
    exact w_some h1
theorem nm_moves {X : (Nat → Nat → Int32) → Prop} {z y : ow_MS} {x x' : Int32} (h : rel3 X z y) (hm : NM y) : Te (fun K => ce_X11_moves vl K 0 x x' y) (fun r => NM r.2.2) := by
  obtain ⟨⟨St, k⟩, hM, -⟩ := id h
  refine w_monoE (xc_moves hM k.2.2.2.1 k.2.2.2.2) (fun r hr => ?_)
  rcases hr with ⟨-, e, -⟩ | ⟨d, A, sg, c, hd, -, hSt, hA, hne, hpl, hr⟩
  · rw [e]
    exact hm
  · rcases hr with ⟨-, e, -⟩ | ⟨kd, hk, -, -, -, hf, R, X9, os, b1, b2, b3, b4, b5, b6, b7, b8⟩
    · rw [e]
      exact hm
    · have hb := fr_sym hf
      refine ⟨fun d A sg c hd hs hA hne => hm.1 d A sg c hd (slC_fr hb (fun q hq h9 => by unfold cW at hq; unfold coP cV at h9; omega) hs) hA hne, fun Cs os' ht C hC => ?_, fun Cs os ht => hm.2.2 Cs os (tbO_fr hb (fun q hq h9 => by unfold cV at hq; unfold coP cV at h9; omega) ht)⟩
      have l1 := ht.2.2.2.1
      have l2 := b4.2.2.2.1
      rw [tab_uni ht.1 b4.1 (by omega) (by omega)] at hC
      obtain ⟨j, j1, j2⟩ := b6 C hC
      exact mv_cdNm ⟨hA, b2, b1, b3⟩ hpl hne hk j1 j2
end XS3
section XS4
theorem s2_feed : stp2 lst_feed := by
  intro S x1 x2 x3 x4 x5 h
  have hn : Te (fun K => ce_X11_feed S.1 K 0 x1 x2 x3 x4 x5 S.2.1) (fun rc => NM rc.2.2) := te_nmF (te_in (c_feed h.1.1)) (fun K => ff_X11_feed) (fun g hg h9 => by omega) h.2
  have hs : Te (lsV S.1 (fun K => ce_X11_feed S.1 K 0 x1 x2 x3 x4 x5 S.2.1) (fun k z => if k = 3 then some (1, z) else none) (fun K => qe_X13_feed K x1 x2 x3 x4 x5 S.2.2)) (fun S1 => REL S1 ∧ dPhi S.1 ≤ dPhi S1.1) := st_feed S x1 x2 x3 x4 x5 h.1
  exact w_monoE (lsV_nm hs hn (fun k z r hr => by
    have hr : (if k = 3 then some (1, z) else none) = some r := hr
    by_cases c0 : k = 3
    · rw [if_pos c0] at hr
      cases hr
      rfl
    rw [if_neg c0] at hr
    cases hr)) (fun S1 ⟨⟨q1, q2⟩, q3⟩ => ⟨⟨q1, q3⟩, q2⟩)
theorem s2_diagram : stp2 lst_diagram := by
  intro S x1 x2 x3 x4 x5 h
  have hn : Te (fun K => ce_X11_diagram S.1 K 0  S.2.1) (fun rc => NM rc.2.2) := te_nmP (nm_diagram h.1.1 h.2.1) (fun K => ff_X11_diagram) (fun g hg h9 => by omega) h.2
  have hs : Te (lsV S.1 (fun K => ce_X11_diagram S.1 K 0  S.2.1) (fun k z => if k = 3 then some (1, z) else none) (fun K => qe_X13_diagram K  S.2.2)) (fun S1 => REL S1 ∧ dPhi S.1 ≤ dPhi S1.1) := st_diagram S x1 x2 x3 x4 x5 h.1
  exact w_monoE (lsV_nm hs hn (fun k z r hr => by
    have hr : (if k = 3 then some (1, z) else none) = some r := hr
    by_cases c0 : k = 3
    · rw [if_pos c0] at hr
      cases hr
      rfl
    rw [if_neg c0] at hr
    cases hr)) (fun S1 ⟨⟨q1, q2⟩, q3⟩ => ⟨⟨q1, q3⟩, q2⟩)
theorem s2_braid : stp2 lst_braid := by
  intro S x1 x2 x3 x4 x5 h
  have hn : Te (fun K => ce_X11_braid S.1 K 0 x1 S.2.1) (fun rc => NM rc.2.2) := te_nmF (te_in (c_braid h.1.1)) (fun K => ff_X11_braid) (fun g hg h9 => by omega) h.2
  have hs : Te (lsV S.1 (fun K => ce_X11_braid S.1 K 0 x1 S.2.1) (fun k z => if k = 2 then some (1, z) else if k = 3 then some (2, z) else none) (fun K => qe_X13_braid K x1 S.2.2)) (fun S1 => REL S1 ∧ dPhi S.1 ≤ dPhi S1.1) := st_braid S x1 x2 x3 x4 x5 h.1
  exact w_monoE (lsV_nm hs hn (fun k z r hr => by
    have hr : (if k = 2 then some (1, z) else if k = 3 then some (2, z) else none) = some r := hr
    by_cases c0 : k = 2
    · rw [if_pos c0] at hr
      cases hr
      rfl
    by_cases c1 : k = 3
    · rw [if_neg c0, if_pos c1] at hr
      cases hr
      rfl
    rw [if_neg c0, if_neg c1] at hr
    cases hr)) (fun S1 ⟨⟨q1, q2⟩, q3⟩ => ⟨⟨q1, q3⟩, q2⟩)
theorem s2_figure : stp2 lst_figure := by
  intro S x1 x2 x3 x4 x5 h
  have hn : Te (fun K => ce_X11_figure S.1 K 0 x1 x2 S.2.1) (fun rc => NM rc.2.2) := te_nmF (te_in (by
    obtain ⟨⟨St, k⟩, -⟩ := id h.1.1
    exact b_figure k)) (fun K => ff_X11_figure) (fun g hg h9 => by omega) h.2
  have hs : Te (lsV S.1 (fun K => ce_X11_figure S.1 K 0 x1 x2 S.2.1) (fun k z => if k = 1 then some (1, z) else if k = 2 then some (2, z) else none) (fun K => qe_X13_figure K x1 x2 S.2.2)) (fun S1 => REL S1 ∧ dPhi S.1 ≤ dPhi S1.1) := st_figure S x1 x2 x3 x4 x5 h.1
  exact w_monoE (lsV_nm hs hn (fun k z r hr => by
    have hr : (if k = 1 then some (1, z) else if k = 2 then some (2, z) else none) = some r := hr
    by_cases c0 : k = 1
    · rw [if_pos c0] at hr
      cases hr
      rfl
    by_cases c1 : k = 2
    · rw [if_neg c0, if_pos c1] at hr
      cases hr
      rfl
    rw [if_neg c0, if_neg c1] at hr
    cases hr)) (fun S1 ⟨⟨q1, q2⟩, q3⟩ => ⟨⟨q1, q3⟩, q2⟩)
theorem s2_visit : stp2 lst_visit := by
  intro S x1 x2 x3 x4 x5 h
  have hn : Te (fun K => ce_X11_visit S.1 K 0 x1 x2 x3 S.2.1) (fun rc => NM rc.2.2) := te_nmF (te_in (by
    obtain ⟨⟨St, k⟩, -⟩ := id h.1.1
    exact b_visit k)) (fun K => ff_X11_visit) (fun g hg h9 => by omega) h.2
  have hs : Te (lsV S.1 (fun K => ce_X11_visit S.1 K 0 x1 x2 x3 S.2.1) (fun k z => if k = 1 then some (1, z) else if k = 2 then some (2, z) else none) (fun K => qe_X13_visit K x1 x2 x3 S.2.2)) (fun S1 => REL S1 ∧ dPhi S.1 ≤ dPhi S1.1) := st_visit S x1 x2 x3 x4 x5 h.1
  exact w_monoE (lsV_nm hs hn (fun k z r hr => by
    have hr : (if k = 1 then some (1, z) else if k = 2 then some (2, z) else none) = some r := hr
    by_cases c0 : k = 1
    · rw [if_pos c0] at hr
      cases hr
      rfl
    by_cases c1 : k = 2
    · rw [if_neg c0, if_pos c1] at hr
      cases hr
      rfl
    rw [if_neg c0, if_neg c1] at hr
    cases hr)) (fun S1 ⟨⟨q1, q2⟩, q3⟩ => ⟨⟨q1, q3⟩, q2⟩)
theorem s2_linking : stp2 lst_linking := by
  intro S x1 x2 x3 x4 x5 h
  have hn : Te (fun K => ce_X11_linking S.1 K 0 x1 x2 x3 S.2.1) (fun rc => NM rc.2.2) := te_nmF (te_in (by
    obtain ⟨⟨St, k⟩, -⟩ := id h.1.1
    exact b_linking k)) (fun K => ff_X11_linking) (fun g hg h9 => by omega) h.2
  have hs : Te (lsV S.1 (fun K => ce_X11_linking S.1 K 0 x1 x2 x3 S.2.1) (fun k z => if k = 1 then some (1, z) else if k = 2 then some (2, z) else none) (fun K => qe_X13_linking K x1 x2 x3 S.2.2)) (fun S1 => REL S1 ∧ dPhi S.1 ≤ dPhi S1.1) := st_linking S x1 x2 x3 x4 x5 h.1
  exact w_monoE (lsV_nm hs hn (fun k z r hr => by
    have hr : (if k = 1 then some (1, z) else if k = 2 then some (2, z) else none) = some r := hr
    by_cases c0 : k = 1
    · rw [if_pos c0] at hr
      cases hr
      rfl
    by_cases c1 : k = 2
    · rw [if_neg c0, if_pos c1] at hr
      cases hr
      rfl
    rw [if_neg c0, if_neg c1] at hr
    cases hr)) (fun S1 ⟨⟨q1, q2⟩, q3⟩ => ⟨⟨q1, q3⟩, q2⟩)
theorem s2_mirror : stp2 lst_mirror := by
  intro S x1 x2 x3 x4 x5 h
  have hn : Te (fun K => ce_X11_mirror S.1 K 0 x1 S.2.1) (fun rc => NM rc.2.2) := te_nmP (nm_mirror h.1.1 h.2.1) (fun K => ff_X11_mirror) (fun g hg h9 => by omega) h.2
  have hs : Te (lsV S.1 (fun K => ce_X11_mirror S.1 K 0 x1 S.2.1) (fun k z => if k = 1 then some (1, z) else if k = 3 then some (2, z) else none) (fun K => qe_X13_mirror K x1 S.2.2)) (fun S1 => REL S1 ∧ dPhi S.1 ≤ dPhi S1.1) := st_mirror S x1 x2 x3 x4 x5 h.1
  exact w_monoE (lsV_nm hs hn (fun k z r hr => by
    have hr : (if k = 1 then some (1, z) else if k = 3 then some (2, z) else none) = some r := hr
    by_cases c0 : k = 1
    · rw [if_pos c0] at hr
      cases hr
      rfl
    by_cases c1 : k = 3
    · rw [if_neg c0, if_pos c1] at hr
      cases hr
      rfl
    rw [if_neg c0, if_neg c1] at hr
    cases hr)) (fun S1 ⟨⟨q1, q2⟩, q3⟩ => ⟨⟨q1, q3⟩, q2⟩)
theorem s2_reverse : stp2 lst_reverse := by
  intro S x1 x2 x3 x4 x5 h
  have hn : Te (fun K => ce_X11_reverse S.1 K 0 x1 x2 S.2.1) (fun rc => NM rc.2.2) := te_nmP (nm_reverse h.1.1 h.2.1) (fun K => ff_X11_reverse) (fun g hg h9 => by omega) h.2
  have hs : Te (lsV S.1 (fun K => ce_X11_reverse S.1 K 0 x1 x2 S.2.1) (fun k z => if k = 1 then some (1, z) else if k = 3 then some (2, z) else none) (fun K => qe_X13_reverse K x1 x2 S.2.2)) (fun S1 => REL S1 ∧ dPhi S.1 ≤ dPhi S1.1) := st_reverse S x1 x2 x3 x4 x5 h.1
  exact w_monoE (lsV_nm hs hn (fun k z r hr => by
    have hr : (if k = 1 then some (1, z) else if k = 3 then some (2, z) else none) = some r := hr
    by_cases c0 : k = 1
    · rw [if_pos c0] at hr
      cases hr
      rfl
    by_cases c1 : k = 3
    · rw [if_neg c0, if_pos c1] at hr
      cases hr
      rfl
    rw [if_neg c0, if_neg c1] at hr
    cases hr)) (fun S1 ⟨⟨q1, q2⟩, q3⟩ => ⟨⟨q1, q3⟩, q2⟩)
theorem s2_change : stp2 lst_change := by
  intro S x1 x2 x3 x4 x5 h
  have hn : Te (fun K => ce_X11_change S.1 K 0 x1 x2 S.2.1) (fun rc => NM rc.2.2) := te_nmP (nm_change h.1.1 h.2.1) (fun K => ff_X11_change) (fun g hg h9 => by omega) h.2
  have hs : Te (lsV S.1 (fun K => ce_X11_change S.1 K 0 x1 x2 S.2.1) (fun k z => if k = 1 then some (1, z) else if k = 3 then some (2, z) else none) (fun K => qe_X13_change K x1 x2 S.2.2)) (fun S1 => REL S1 ∧ dPhi S.1 ≤ dPhi S1.1) := st_change S x1 x2 x3 x4 x5 h.1
  exact w_monoE (lsV_nm hs hn (fun k z r hr => by
    have hr : (if k = 1 then some (1, z) else if k = 3 then some (2, z) else none) = some r := hr
    by_cases c0 : k = 1
    · rw [if_pos c0] at hr
      cases hr
      rfl
    by_cases c1 : k = 3
    · rw [if_neg c0, if_pos c1] at hr
      cases hr
      rfl
    rw [if_neg c0, if_neg c1] at hr
    cases hr)) (fun S1 ⟨⟨q1, q2⟩, q3⟩ => ⟨⟨q1, q3⟩, q2⟩)
theorem s2_smooth : stp2 lst_smooth := by
  intro S x1 x2 x3 x4 x5 h
  have hn : Te (fun K => ce_X11_smooth S.1 K 0 x1 x2 S.2.1) (fun rc => NM rc.2.2) := te_nmP (nm_smooth h.1.1 h.2.1) (fun K => ff_X11_smooth) (fun g hg h9 => by omega) h.2
  have hs : Te (lsV S.1 (fun K => ce_X11_smooth S.1 K 0 x1 x2 S.2.1) (fun k z => if k = 1 then some (1, z) else if k = 4 then some (2, z) else if k = 3 then some (3, z) else none) (fun K => qe_X13_smooth K x1 x2 S.2.2)) (fun S1 => REL S1 ∧ dPhi S.1 ≤ dPhi S1.1) := st_smooth S x1 x2 x3 x4 x5 h.1
  exact w_monoE (lsV_nm hs hn (fun k z r hr => by
    have hr : (if k = 1 then some (1, z) else if k = 4 then some (2, z) else if k = 3 then some (3, z) else none) = some r := hr
    by_cases c0 : k = 1
    · rw [if_pos c0] at hr
      cases hr
      rfl
    by_cases c1 : k = 4
    · rw [if_neg c0, if_pos c1] at hr
      cases hr
      rfl
    by_cases c2 : k = 3
    · rw [if_neg c0, if_neg c1, if_pos c2] at hr
      cases hr
      rfl
    rw [if_neg c0, if_neg c1, if_neg c2] at hr
    cases hr)) (fun S1 ⟨⟨q1, q2⟩, q3⟩ => ⟨⟨q1, q3⟩, q2⟩)
theorem s2_apart : stp2 lst_apart := by
  intro S x1 x2 x3 x4 x5 h
  have hn : Te (fun K => ce_X11_apart S.1 K 0 x1 x2 S.2.1) (fun rc => NM rc.2.2) := te_nmP (nm_apart h.1.1 h.2.1) (fun K => ff_X11_apart) (fun g hg h9 => by omega) h.2
  have hs : Te (lsV S.1 (fun K => ce_X11_apart S.1 K 0 x1 x2 S.2.1) (fun k z => if k = 1 then some (1, z) else if k = 4 then some (2, z) else if k = 3 then some (3, z) else none) (fun K => qe_X13_apart K x1 x2 S.2.2)) (fun S1 => REL S1 ∧ dPhi S.1 ≤ dPhi S1.1) := st_apart S x1 x2 x3 x4 x5 h.1
  exact w_monoE (lsV_nm hs hn (fun k z r hr => by
    have hr : (if k = 1 then some (1, z) else if k = 4 then some (2, z) else if k = 3 then some (3, z) else none) = some r := hr
    by_cases c0 : k = 1
    · rw [if_pos c0] at hr
      cases hr
      rfl
    by_cases c1 : k = 4
    · rw [if_neg c0, if_pos c1] at hr
      cases hr
      rfl
    by_cases c2 : k = 3
    · rw [if_neg c0, if_neg c1, if_pos c2] at hr
      cases hr
      rfl
    rw [if_neg c0, if_neg c1, if_neg c2] at hr
    cases hr)) (fun S1 ⟨⟨q1, q2⟩, q3⟩ => ⟨⟨q1, q3⟩, q2⟩)
theorem s2_join : stp2 lst_join := by
  intro S x1 x2 x3 x4 x5 h
  have hn : Te (fun K => ce_X11_join S.1 K 0 x1 x2 x3 x4 S.2.1) (fun rc => NM rc.2.2) := te_nmP (nm_join h.1.1 h.2.1) (fun K => ff_X11_join) (fun g hg h9 => by omega) h.2
  have hs : Te (lsV S.1 (fun K => ce_X11_join S.1 K 0 x1 x2 x3 x4 S.2.1) (fun k z => if k = 1 then some (1, z) else if k = 4 then some (2, z) else if k = 3 then some (3, z) else none) (fun K => qe_X13_join K x1 x2 x3 x4 S.2.2)) (fun S1 => REL S1 ∧ dPhi S.1 ≤ dPhi S1.1) := st_join S x1 x2 x3 x4 x5 h.1
  exact w_monoE (lsV_nm hs hn (fun k z r hr => by
    have hr : (if k = 1 then some (1, z) else if k = 4 then some (2, z) else if k = 3 then some (3, z) else none) = some r := hr
    by_cases c0 : k = 1
    · rw [if_pos c0] at hr
      cases hr
      rfl
    by_cases c1 : k = 4
    · rw [if_neg c0, if_pos c1] at hr
      cases hr
      rfl
    by_cases c2 : k = 3
    · rw [if_neg c0, if_neg c1, if_pos c2] at hr
      cases hr
      rfl
    rw [if_neg c0, if_neg c1, if_neg c2] at hr
    cases hr)) (fun S1 ⟨⟨q1, q2⟩, q3⟩ => ⟨⟨q1, q3⟩, q2⟩)
theorem s2_moves : stp2 lst_moves := by
  intro S x1 x2 x3 x4 x5 h
  have hn : Te (fun K => ce_X11_moves S.1 K 0 x1 x2 S.2.1) (fun rc => NM rc.2.2) := nm_moves h.1.1 h.2
  have hs : Te (lsV S.1 (fun K => ce_X11_moves S.1 K 0 x1 x2 S.2.1) (fun k z => if k = 1 then some (1, z) else if k = 2 then some (2, z) else none) (fun K => qe_X13_moves K x1 x2 S.2.2)) (fun S1 => REL S1 ∧ dPhi S.1 ≤ dPhi S1.1) := st_moves S x1 x2 x3 x4 x5 h.1
  exact w_monoE (lsV_nm hs hn (fun k z r hr => by
    have hr : (if k = 1 then some (1, z) else if k = 2 then some (2, z) else none) = some r := hr
    by_cases c0 : k = 1
    · rw [if_pos c0] at hr
      cases hr
      rfl
    by_cases c1 : k = 2
    · rw [if_neg c0, if_pos c1] at hr
      cases hr
      rfl
    rw [if_neg c0, if_neg c1] at hr
    cases hr)) (fun S1 ⟨⟨q1, q2⟩, q3⟩ => ⟨⟨q1, q3⟩, q2⟩)
theorem s2_moved : stp2 lst_moved := by
  intro S x1 x2 x3 x4 x5 h
  have hn : Te (fun K => ce_X11_moved S.1 K 0 x1 S.2.1) (fun rc => NM rc.2.2) := te_nmP (nm_moved h.1.1 h.2) (fun K => ff_X11_moved) (fun g hg h9 => by omega) h.2
  have hs : Te (lsV S.1 (fun K => ce_X11_moved S.1 K 0 x1 S.2.1) (fun k z => if k = 1 then some (1, z) else if k = 3 then some (2, z) else none) (fun K => qe_X13_moved K x1 S.2.2)) (fun S1 => REL S1 ∧ dPhi S.1 ≤ dPhi S1.1) := st_moved S x1 x2 x3 x4 x5 h.1
  exact w_monoE (lsV_nm hs hn (fun k z r hr => by
    have hr : (if k = 1 then some (1, z) else if k = 3 then some (2, z) else none) = some r := hr
    by_cases c0 : k = 1
    · rw [if_pos c0] at hr
      cases hr
      rfl
    by_cases c1 : k = 3
    · rw [if_neg c0, if_pos c1] at hr
      cases hr
      rfl
    rw [if_neg c0, if_neg c1] at hr
    cases hr)) (fun S1 ⟨⟨q1, q2⟩, q3⟩ => ⟨⟨q1, q3⟩, q2⟩)
theorem s2_simplify : stp2 lst_simplify := by
  intro S x1 x2 x3 x4 x5 h
  have hn : Te (fun K => ce_X11_simplify S.1 K 0 x1 S.2.1) (fun rc => NM rc.2.2) := te_nmP (nm_simplify h.1.1 h.2.1) (fun K => ff_X11_simplify) (fun g hg h9 => by omega) h.2
  have hs : Te (lsV S.1 (fun K => ce_X11_simplify S.1 K 0 x1 S.2.1) (fun k z => if k = 1 then some (1, z) else if k = 3 then some (2, z) else none) (fun K => qe_X13_simplify K x1 S.2.2)) (fun S1 => REL S1 ∧ dPhi S.1 ≤ dPhi S1.1) := st_simplify S x1 x2 x3 x4 x5 h.1
  exact w_monoE (lsV_nm hs hn (fun k z r hr => by
    have hr : (if k = 1 then some (1, z) else if k = 3 then some (2, z) else none) = some r := hr
    by_cases c0 : k = 1
    · rw [if_pos c0] at hr
      cases hr
      rfl
    by_cases c1 : k = 3
    · rw [if_neg c0, if_pos c1] at hr
      cases hr
      rfl
    rw [if_neg c0, if_neg c1] at hr
    cases hr)) (fun S1 ⟨⟨q1, q2⟩, q3⟩ => ⟨⟨q1, q3⟩, q2⟩)
theorem s2_summand : stp2 lst_summand := by
  intro S x1 x2 x3 x4 x5 h
  have hn : Te (fun K => ce_X11_summand S.1 K 0 x1 S.2.1) (fun rc => NM rc.2.2) := te_nmP (nm_summand h.1.1 h.2) (fun K => ff_X11_summand) (fun g hg h9 => by omega) h.2
  have hs : Te (lsV S.1 (fun K => ce_X11_summand S.1 K 0 x1 S.2.1) (fun k z => if k = 1 then some (1, z) else if k = 3 then some (2, z) else none) (fun K => qe_X13_summand K x1 S.2.2)) (fun S1 => REL S1 ∧ dPhi S.1 ≤ dPhi S1.1) := st_summand S x1 x2 x3 x4 x5 h.1
  exact w_monoE (lsV_nm hs hn (fun k z r hr => by
    have hr : (if k = 1 then some (1, z) else if k = 3 then some (2, z) else none) = some r := hr
    by_cases c0 : k = 1
    · rw [if_pos c0] at hr
      cases hr
      rfl
    by_cases c1 : k = 3
    · rw [if_neg c0, if_pos c1] at hr
      cases hr
      rfl
    rw [if_neg c0, if_neg c1] at hr
    cases hr)) (fun S1 ⟨⟨q1, q2⟩, q3⟩ => ⟨⟨q1, q3⟩, q2⟩)
theorem s2_jones : stp2 lst_jones := by
  intro S x1 x2 x3 x4 x5 h
  have hn : Te (fun K => ce_X11_jones S.1 K 0 x1 x2 S.2.1) (fun rc => NM rc.2.2) := w_monoE (tc_jones h.1.1.2.1 h.1.2.1.2.1) (fun rc ⟨_, _, _, _, f, _⟩ => NM_fr f (fun g hg h9 => by unfold jnP at hg; omega) h.2)
  have hs : Te (lsV S.1 (fun K => ce_X11_jones S.1 K 0 x1 x2 S.2.1) (fun k z => if k = 1 then some (1, z) else none) (fun K => qe_X13_jones K x1 x2 S.2.2)) (fun S1 => REL S1 ∧ dPhi S.1 ≤ dPhi S1.1) := st_jones S x1 x2 x3 x4 x5 h.1
  exact w_monoE (lsV_nm hs hn (fun k z r hr => by
    have hr : (if k = 1 then some (1, z) else none) = some r := hr
    by_cases c0 : k = 1
    · rw [if_pos c0] at hr
      cases hr
      rfl
    rw [if_neg c0] at hr
    cases hr)) (fun S1 ⟨⟨q1, q2⟩, q3⟩ => ⟨⟨q1, q3⟩, q2⟩)
theorem s2_closure : stp2 lst_closure := by
  intro S x1 x2 x3 x4 x5 h
  have hn : Te (fun K => ce_X11_closure S.1 K 0 x1 S.2.1) (fun rc => NM rc.2.2) := te_nmP (nm_closure h.1.1 h.2.1) (fun K => ff_X11_closure) (fun g hg h9 => by omega) h.2
  have hs : Te (lsV S.1 (fun K => ce_X11_closure S.1 K 0 x1 S.2.1) (fun k z => if k = 1 then some (1, z) else if k = 4 then some (2, z) else if k = 3 then some (3, z) else none) (fun K => qe_X13_closure K x1 S.2.2)) (fun S1 => REL S1 ∧ dPhi S.1 ≤ dPhi S1.1) := st_closure S x1 x2 x3 x4 x5 h.1
  exact w_monoE (lsV_nm hs hn (fun k z r hr => by
    have hr : (if k = 1 then some (1, z) else if k = 4 then some (2, z) else if k = 3 then some (3, z) else none) = some r := hr
    by_cases c0 : k = 1
    · rw [if_pos c0] at hr
      cases hr
      rfl
    by_cases c1 : k = 4
    · rw [if_neg c0, if_pos c1] at hr
      cases hr
      rfl
    by_cases c2 : k = 3
    · rw [if_neg c0, if_neg c1, if_pos c2] at hr
      cases hr
      rfl
    rw [if_neg c0, if_neg c1, if_neg c2] at hr
    cases hr)) (fun S1 ⟨⟨q1, q2⟩, q3⟩ => ⟨⟨q1, q3⟩, q2⟩)
theorem s2_product : stp2 lst_product := by
  intro S x1 x2 x3 x4 x5 h
  have hn : Te (fun K => ce_X11_product S.1 K 0 x1 x2 S.2.1) (fun rc => NM rc.2.2) := te_nmF (te_in (c_product h.1.1)) (fun K => ff_X11_product) (fun g hg h9 => by omega) h.2
  have hs : Te (lsV S.1 (fun K => ce_X11_product S.1 K 0 x1 x2 S.2.1) (fun k z => if k = 1 then some (1, z) else if k = 2 then some (2, z) else if k = 4 then some (3, z) else if k = 3 then some (4, z) else none) (fun K => qe_X13_product K x1 x2 S.2.2)) (fun S1 => REL S1 ∧ dPhi S.1 ≤ dPhi S1.1) := st_product S x1 x2 x3 x4 x5 h.1
  exact w_monoE (lsV_nm hs hn (fun k z r hr => by
    have hr : (if k = 1 then some (1, z) else if k = 2 then some (2, z) else if k = 4 then some (3, z) else if k = 3 then some (4, z) else none) = some r := hr
    by_cases c0 : k = 1
    · rw [if_pos c0] at hr
      cases hr
      rfl
    by_cases c1 : k = 2
    · rw [if_neg c0, if_pos c1] at hr
      cases hr
      rfl
    by_cases c2 : k = 4
    · rw [if_neg c0, if_neg c1, if_pos c2] at hr
      cases hr
      rfl
    by_cases c3 : k = 3
    · rw [if_neg c0, if_neg c1, if_neg c2, if_pos c3] at hr
      cases hr
      rfl
    rw [if_neg c0, if_neg c1, if_neg c2, if_neg c3] at hr
    cases hr)) (fun S1 ⟨⟨q1, q2⟩, q3⟩ => ⟨⟨q1, q3⟩, q2⟩)
theorem s2_inverse : stp2 lst_inverse := by
  intro S x1 x2 x3 x4 x5 h
  have hn : Te (fun K => ce_X11_inverse S.1 K 0 x1 S.2.1) (fun rc => NM rc.2.2) := te_nmF (te_in (c_inverse h.1.1)) (fun K => ff_X11_inverse) (fun g hg h9 => by omega) h.2
  have hs : Te (lsV S.1 (fun K => ce_X11_inverse S.1 K 0 x1 S.2.1) (fun k z => if k = 1 then some (1, z) else if k = 3 then some (2, z) else none) (fun K => qe_X13_inverse K x1 S.2.2)) (fun S1 => REL S1 ∧ dPhi S.1 ≤ dPhi S1.1) := st_inverse S x1 x2 x3 x4 x5 h.1
  exact w_monoE (lsV_nm hs hn (fun k z r hr => by
    have hr : (if k = 1 then some (1, z) else if k = 3 then some (2, z) else none) = some r := hr
    by_cases c0 : k = 1
    · rw [if_pos c0] at hr
      cases hr
      rfl
    by_cases c1 : k = 3
    · rw [if_neg c0, if_pos c1] at hr
      cases hr
      rfl
    rw [if_neg c0, if_neg c1] at hr
    cases hr)) (fun S1 ⟨⟨q1, q2⟩, q3⟩ => ⟨⟨q1, q3⟩, q2⟩)
theorem s2_way : stp2 lst_way := by
  intro S x1 x2 x3 x4 x5 h
  have hc := rel_of (vl := S.1) (y := S.2.1) (z := S.2.2) (em := [(1, 1), (2, 4)]) (fc := fun K => ce_X11_way S.1 K 0 x1 x2 S.2.1) (fm := fun K => qe_X13_way K x1 x2 S.2.2) h.1 (w_monoE (c_way h.1.1 h.2.1) (fun rr hr => w_monoE hr (fun rc hb => hb.1))) (fun K => ff_X13_way) (fun K => ff_X11_way) (by decide) (fun g hg h9 => by unfold ciH at h9; omega)
  have hn : Te (fun K => ce_X11_way S.1 K 0 x1 x2 S.2.1) (fun rc => NM rc.2.2) := te_nmF (te_in hc) (fun K => ff_X11_way) (fun g hg h9 => by omega) h.2
  have hs : Te (lsV S.1 (fun K => ce_X11_way S.1 K 0 x1 x2 S.2.1) (fun k z => if k = 1 then some (1, z) else if k = 4 then some (2, z) else none) (fun K => qe_X13_way K x1 x2 S.2.2)) (fun S1 => REL S1 ∧ dPhi S.1 ≤ dPhi S1.1) := by
    refine st_int hc (fun j k hm => ?_)
    simp only [List.mem_cons, List.not_mem_nil, or_false, Prod.mk.injEq] at hm
    rcases hm with ⟨rfl, rfl⟩ | ⟨rfl, rfl⟩ <;> exact ⟨by decide, by decide, by decide, fun _ => rfl⟩
  exact w_monoE (lsV_nm hs hn (fun k z r hr => by
    have hr : (if k = 1 then some (1, z) else if k = 4 then some (2, z) else none) = some r := hr
    by_cases c0 : k = 1
    · rw [if_pos c0] at hr
      cases hr
      rfl
    by_cases c1 : k = 4
    · rw [if_neg c0, if_pos c1] at hr
      cases hr
      rfl
    rw [if_neg c0, if_neg c1] at hr
    cases hr)) (fun S1 ⟨⟨q1, q2⟩, q3⟩ => ⟨⟨q1, q3⟩, q2⟩)
theorem s2_alike : stp2 lst_alike := by
  intro S x1 x2 x3 x4 x5 h
  have hn : Te (fun K => ce_X11_alike S.1 K 0 x1 x2 S.2.1) (fun rc => NM rc.2) := (w_monoE (te_fo (te_in (by
    obtain ⟨⟨St, k⟩, -⟩ := id h.1.1
    exact b_alike k)) (fun K => ff_X11_alike)) (fun rc ⟨_, f⟩ => NM_fr f (fun g hg => hg.elim) h.2))
  exact w_monoE (lsB_nm (fc := (fun K => ce_X11_alike S.1 K 0 x1 x2 S.2.1)) (fm := fun K => qe_X13_alike K x1 x2 S.2.2) (st_alike S x1 x2 x3 x4 x5 h.1) hn) (fun S1 ⟨⟨q1, q2⟩, q3⟩ => ⟨⟨q1, q3⟩, q2⟩)
theorem s2_drop : stp2 lst_drop := by
  intro S x1 x2 x3 x4 x5 h
  have hn : Te (fun K => ce_X11_drop S.1 K 0 x1 S.2.1) (fun rc => NM rc.2) := (w_monoE (te_fo (nm_drop h.1.1 h.2.1) (fun K => ff_X11_drop)) (fun rc ⟨hn, f⟩ => NM_pl f (fun g hg h9 => by omega) hn h.2))
  exact w_monoE (lsB_nm (fc := (fun K => ce_X11_drop S.1 K 0 x1 S.2.1)) (fm := fun K => qe_X13_drop K x1 S.2.2) (st_drop S x1 x2 x3 x4 x5 h.1) hn) (fun S1 ⟨⟨q1, q2⟩, q3⟩ => ⟨⟨q1, q3⟩, q2⟩)
theorem s2_dropBraid : stp2 lst_dropBraid := by
  intro S x1 x2 x3 x4 x5 h
  have hn : Te (fun K => ce_X11_dropBraid S.1 K 0 x1 S.2.1) (fun rc => NM rc.2) := (w_monoE (te_fo (te_in (c_dropBraid h.1.1)) (fun K => ff_X11_dropBraid)) (fun rc ⟨_, f⟩ => NM_fr f (fun g hg h9 => by omega) h.2))
  exact w_monoE (lsB_nm (fc := (fun K => ce_X11_dropBraid S.1 K 0 x1 S.2.1)) (fm := fun K => qe_X13_dropBraid K x1 S.2.2) (st_dropBraid S x1 x2 x3 x4 x5 h.1) hn) (fun S1 ⟨⟨q1, q2⟩, q3⟩ => ⟨⟨q1, q3⟩, q2⟩)
theorem s2_end : stp2 lst_end := by
  intro S x1 x2 x3 x4 x5 h
  obtain ⟨zm, ⟨b1, hb1⟩, ⟨⟨k, zc⟩, ⟨b2, hb2⟩, ⟨hR, ha⟩, f2⟩, f1⟩ := te_fo (st := id) (P := pf [1, 11] []) (z0 := S.2.2) (w_monoE (c_end (vl := S.1) (x := x1) h.1.1) (fun rr h1 => te_fo (st := Prod.snd) (P := fun g => g = 0 + 11001) (z0 := S.2.1) h1 (fun K => ff_X11_end))) (fun K => ff_X13_end)
  refine ⟨(S.1, zc, zm), ⟨b1 + b2, fun K hK => ?_⟩, ⟨⟨hR, CI_fr f2 (fun g hg h9 => by unfold ciH at h9; omega) h.1.2.1, jnR_fr f1 (by decide) (by decide) h.1.2.2⟩, NM_fr f2 (fun g hg h9 => by omega) h.2⟩, Nat.le_refl _⟩
  have q1 : qe_X13_end K x1 S.2.2 = some zm := hb1 K (by omega)
  have q2 : ce_X11_end S.1 K 0 x1 S.2.1 = some (k, zc) := hb2 K (by omega)
  have hl : le_L_end S.1 K 0 x1 S.2.1 = if k = 0 then some (0, zc) else if k = 2 then some (1, zc) else none := by
    unfold le_L_end
    rw [q2]
    rfl
  show (cs1 (le_L_end S.1 K 0 x1 S.2.1) fun v2 zc1 => cs0 (qe_X13_end K x1 S.2.2) fun zm3 => cs1 (qe_X13_thrown K zm3) fun v5 zm4 => (if v5 = v2 then some (S.1, zc1, zm4) else none)) = _
  rw [hl, q1]
  rcases ha with ⟨t0, k0⟩ | ⟨t0, k0⟩
  · have k0 : k = 0 := k0
    rw [k0, if_pos rfl]
    exact if_pos t0
  · have k0 : k = 2 := k0
    rw [k0, if_neg (by decide), if_pos rfl]
    exact if_pos t0
end XS4
section XS5
end XS5
end
section
/-! 99zzzzzzzzzzzzr.xsu1 -/
/-! parting: whatever is parted first, the end is one -/
/-- two gaps are exchanged -/
def exN (N : Nat → Nat) (v w k : Nat) : Nat := if k = w then N v else if k = v then N w else N k
/-- one part: every mark that is kept along rings and through crossings is the same -/
def ptN (c : Nat) (N : Nat → Nat) (a b : Nat) : Prop := ∀ m : Nat → Nat, (∀ k, k < 2 * c → m (N k) = m k ∧ m (mt k) = m k) → m a = m b
def bjN (c : Nat) (N : Nat → Nat) : Prop := (∀ k, k < 2 * c → N k < 2 * c) ∧ ∀ j k, j < 2 * c → k < 2 * c → N j = N k → j = k
def prN (c : Nat) (N : Nat → Nat) (v w : Nat) : Prop := v < 2 * c ∧ w < 2 * c ∧ v ≠ w ∧ (∃ i, it N i v = w) ∧ ¬ ptN c (exN N v w) v w
def stN (c : Nat) : Nat → (Nat → Nat) → (Nat → Nat) → Prop
  | 0, N, M => N = M
  | n + 1, N, M => ∃ v w, prN c N v w ∧ stN c n (exN N v w) M
def irN (c : Nat) (N : Nat → Nat) : Prop := ∀ v w, ¬ prN c N v w
section XSU
variable {c : Nat} {N M : Nat → Nat} {v w v' w' a b : Nat}
theorem exN_v (h : v ≠ w) : exN N v w v = N w := by
  unfold exN
  rw [if_neg h, if_pos rfl]
theorem exN_w : exN N v w w = N v := if_pos rfl
theorem exN_o (h1 : a ≠ v) (h2 : a ≠ w) : exN N v w a = N a := by
  unfold exN
  rw [if_neg h2, if_neg h1]
theorem exN_sy (h : v ≠ w) : exN N v w = exN N w v := by
  funext k
  unfold exN
  by_cases e1 : k = w
  · rw [if_pos e1, if_neg (fun e => h (e.symm.trans e1)), if_pos e1]
  · by_cases e2 : k = v
    · rw [if_neg e1, if_pos e2, if_pos e2]
    · rw [if_neg e1, if_neg e2, if_neg e2, if_neg e1]
theorem bj_ex (h : bjN c N) (hv : v < 2 * c) (hw : w < 2 * c) : bjN c (exN N v w) := by
  by_cases e : v = w
  · subst e
    have : exN N v v = N := by
      funext k
      unfold exN
      by_cases e1 : k = v
      · rw [if_pos e1, e1]
      · rw [if_neg e1, if_neg e1]
    rw [this]
    exact h
  · have key : ∀ k, exN N v w k = N (if k = w then v else if k = v then w else k) := fun k => by
      unfold exN
      by_cases e1 : k = w
      · rw [if_pos e1, if_pos e1]
      · by_cases e2 : k = v
        · rw [if_neg e1, if_pos e2, if_neg e1, if_pos e2]
        · rw [if_neg e1, if_neg e2, if_neg e1, if_neg e2]
    have lt : ∀ k, k < 2 * c → (if k = w then v else if k = v then w else k) < 2 * c := fun k hk => by
      split
      · exact hv
      · split
        · exact hw
        · exact hk
    refine ⟨fun k hk => by rw [key]; exact h.1 _ (lt k hk), fun j k hj hk he => ?_⟩
    rw [key, key] at he
    have e9 := h.2 _ _ (lt j hj) (lt k hk) he
    repeat' split at e9
    all_goals omega
theorem pt_rf : ptN c N a a := fun _ _ => rfl
theorem pt_sy (h : ptN c N a b) : ptN c N b a := fun m hm => (h m hm).symm
theorem pt_tr {d : Nat} (h : ptN c N a b) (h2 : ptN c N b d) : ptN c N a d := fun m hm => (h m hm).trans (h2 m hm)
theorem pt_it (hb : bjN c N) : ∀ (i a : Nat), a < 2 * c → ptN c N a (it N i a) ∧ it N i a < 2 * c
  | 0, a, ha => ⟨pt_rf, ha⟩
  | i + 1, a, ha => by
    obtain ⟨h1, h2⟩ := pt_it hb i a ha
    exact ⟨fun m hm => (h1 m hm).trans (hm _ h2).1.symm, hb.1 _ h2⟩
/-- an exchange within one part joins nothing -/
theorem pt_ex (hv : v < 2 * c) (hw : w < 2 * c) (h : ptN c N v w) (h2 : ptN c (exN N v w) a b) : ptN c N a b := by
  intro m hm
  refine h2 m (fun k hk => ⟨?_, (hm k hk).2⟩)
  have e := h m hm
  unfold exN
  by_cases e1 : k = w
  · rw [if_pos e1, (hm v hv).1, e1, e]
  · by_cases e2 : k = v
    · rw [if_neg e1, if_pos e2, (hm w hw).1, e2, e]
    · rw [if_neg e1, if_neg e2]
      exact (hm k hk).1
/-- the ring of v, by places: v = place 0, of n places -/
theorem pos_ex (hb : bjN c N) (hv : v < 2 * c) : ∃ n, 0 < n ∧ it N n v = v ∧ (∀ i j, i < n → j < n → it N i v = it N j v → i = j) ∧ ∀ i, ∃ j, j < n ∧ it N i v = it N j v := by
  have it_add9 : ∀ (i j x : Nat), it N (i + j) x = it N j (it N i x) := fun i j x => by
    rw [Nat.add_comm]
    exact it_add N x j i
  have injI : ∀ (i x y : Nat), x < 2 * c → y < 2 * c → it N i x = it N i y → x = y := by
    intro i
    induction i with
    | zero => exact fun x y _ _ e => e
    | succ i ih =>
      intro x y hx hy e
      exact ih x y hx hy (hb.2 _ _ (pt_it hb i x hx).2 (pt_it hb i y hy).2 e)
  have lt : ∀ i, it N i v < 2 * c := fun i => (pt_it hb i v hv).2
  obtain ⟨i, j, h1, h2, h3⟩ := ow_pig (2 * c) (fun i => it N i v) (fun i _ => lt i)
  have hp : it N (j - i) v = v := by
    have e : it N j v = it N i (it N (j - i) v) := by rw [← it_add9, show j - i + i = j by omega]
    have h3 : it N i v = it N j v := h3
    rw [e] at h3
    exact (injI i _ _ hv (lt _) h3).symm
  have ex : ∃ n, 0 < n ∧ it N n v = v := ⟨j - i, by omega, hp⟩
  obtain ⟨n, ⟨n1, n2⟩, n3⟩ : ∃ n, (0 < n ∧ it N n v = v) ∧ ∀ m, m < n → ¬ (0 < m ∧ it N m v = v) := by
    obtain ⟨n, hn⟩ := ex
    induction n using Nat.strongRecOn with
    | _ n ih =>
      by_cases h9 : ∃ m, m < n ∧ 0 < m ∧ it N m v = v
      · obtain ⟨m, m1, m2⟩ := h9
        exact ih m m1 m2
      · exact ⟨n, hn, fun m m1 m2 => h9 ⟨m, m1, m2⟩⟩
  refine ⟨n, n1, n2, fun i j hi hj e => ?_, fun i => ⟨i % n, Nat.mod_lt _ n1, ?_⟩⟩
  · rcases Nat.lt_trichotomy i j with q | q | q
    · exfalso
      have e2 : it N j v = it N i (it N (j - i) v) := by rw [← it_add9, show j - i + i = j by omega]
      rw [e2] at e
      exact n3 (j - i) (by omega) ⟨by omega, (injI i _ _ hv (lt _) e).symm⟩
    · exact q
    · exfalso
      have e2 : it N i v = it N j (it N (i - j) v) := by rw [← it_add9, show i - j + j = i by omega]
      rw [e2] at e
      exact n3 (i - j) (by omega) ⟨by omega, (injI j _ _ hv (lt _) e.symm).symm⟩
  · have key : ∀ q r, it N (n * q + r) v = it N r v := by
      intro q
      induction q with
      | zero =>
        intro r
        rw [Nat.mul_zero, Nat.zero_add]
      | succ q ih =>
        intro r
        rw [Nat.mul_succ, show n * q + n + r = n + (n * q + r) by omega, it_add9, n2]
        exact ih r
    have := key (i / n) (i % n)
    rw [Nat.div_add_mod] at this
    exact this
end XSU
end
section
/-! 99zzzzzzzzzzzzs.xsu2 -/
/-! parting: the end is one, by first returns -/
def lbN (c : Nat) (N m : Nat → Nat) : Prop := ∀ k, k < 2 * c → m (N k) = m k ∧ m (mt k) = m k
/-- M is where N comes back to the same part of M for the first time -/
def frN (c : Nat) (N M : Nat → Nat) : Prop := ∀ a, a < 2 * c → ∃ j, it N (j + 1) a = M a ∧ ∀ k, 0 < k → k < j + 1 → ¬ ptN c M a (it N k a)
section XSV
variable {c : Nat} {N M : Nat → Nat} {v w a b : Nat}
theorem sepE (h : ¬ ptN c N a b) : ∃ m, lbN c N m ∧ m a ≠ m b := by
  refine Classical.byContradiction (fun h9 => h (fun m hm => ?_))
  exact Classical.byContradiction (fun h8 => h9 ⟨m, hm, h8⟩)
theorem leastE {P : Nat → Prop} (h : ∃ n, P n) : ∃ n, P n ∧ ∀ k, k < n → ¬ P k := by
  obtain ⟨n, hn⟩ := h
  induction n using Nat.strongRecOn with
  | _ n ih =>
    by_cases h9 : ∃ m, m < n ∧ P m
    · obtain ⟨m, m1, m2⟩ := h9
      exact ih m m1 m2
    · exact ⟨n, hn, fun m m1 m2 => h9 ⟨m, m1, m2⟩⟩
theorem it_sub (i k a : Nat) (h : k ≤ i) : it N i a = it N (i - k) (it N k a) := by
  rw [← it_add, Nat.sub_add_cancel h]
theorem injI (hb : bjN c N) : ∀ (i x y : Nat), x < 2 * c → y < 2 * c → it N i x = it N i y → x = y
  | 0, _, _, _, _, e => e
  | i + 1, x, y, hx, hy, e => injI hb i x y hx hy (hb.2 _ _ (pt_it hb i x hx).2 (pt_it hb i y hy).2 e)
theorem pr_sy (hb : bjN c N) (h : prN c N v w) : prN c N w v := by
  obtain ⟨h1, h2, h3, ⟨i, h4⟩, h5⟩ := h
  refine ⟨h2, h1, fun e => h3 e.symm, ?_, fun h => h5 ?_⟩
  · obtain ⟨n, n1, n2, n3, n4⟩ := pos_ex hb h1
    obtain ⟨j, j1, j2⟩ := n4 i
    refine ⟨n - j, ?_⟩
    rw [← h4, j2, ← it_add, Nat.sub_add_cancel (Nat.le_of_lt j1), n2]
  · rw [exN_sy h3]
    exact pt_sy h
theorem lb_run (hn : v ≠ w) {i : Nat} (hi : it N i v = w) (hl : ∀ k, k < i → it N k v ≠ w) {m : Nat → Nat} (hv : v < 2 * c) (hw : w < 2 * c) (hb : bjN c N) (hm : lbN c (exN N v w) m) : ∀ k, k < i → m (it N (k + 1) v) = m w
  | 0, _ => by
    have e := (hm w hw).1
    rw [exN_w] at e
    exact e
  | k + 1, hk => by
    have ih := lb_run hn hi hl hv hw hb hm k (by omega)
    have lt := (pt_it hb (k + 1) v hv).2
    have e := (hm _ lt).1
    rw [exN_o (fun e9 => ?_) (hl _ hk), ih] at e
    · exact e
    · have e2 := it_sub (N := N) i (k + 1) v (by omega)
      rw [e9, hi] at e2
      exact hl (i - (k + 1)) (by omega) e2.symm
theorem one_v (hb : bjN c N) (h : prN c N v w) {m : Nat → Nat} (hm : lbN c (exN N v w) m) (hd : m v ≠ m w) : ∃ i, it N (i + 1) v = exN N v w v ∧ ∀ k, 0 < k → k < i + 1 → m (it N k v) ≠ m v := by
  obtain ⟨i, hi, hl⟩ := leastE h.2.2.2.1
  refine ⟨i, ?_, fun k k1 k2 e => hd ?_⟩
  · rw [exN_v h.2.2.1, ← hi]
    rfl
  · rw [← e]
    have := lb_run h.2.2.1 hi hl h.1 h.2.1 hb hm (k - 1) (by omega)
    rw [Nat.sub_add_cancel k1] at this
    exact this
theorem one_a (hb : bjN c N) (h : prN c N v w) {m : Nat → Nat} (hm : lbN c (exN N v w) m) (hd : m v ≠ m w) (a : Nat) : ∃ i, it N (i + 1) a = exN N v w a ∧ ∀ k, 0 < k → k < i + 1 → m (it N k a) ≠ m a := by
  by_cases e1 : a = v
  · rw [e1]
    exact one_v hb h hm hd
  · by_cases e2 : a = w
    · rw [e2]
      rw [exN_sy h.2.2.1] at hm ⊢
      exact one_v hb (pr_sy hb h) hm (fun e => hd e.symm)
    · refine ⟨0, ?_, fun k k1 k2 => by omega⟩
      rw [exN_o e1 e2]
      rfl
theorem bj_pr (hb : bjN c N) (h : prN c N v w) : bjN c (exN N v w) := bj_ex hb h.1 h.2.1
theorem fr9_one (hb : bjN c N) (h : prN c N v w) : frN c N (exN N v w) := by
  intro a ha
  obtain ⟨m, hm, hd⟩ := sepE h.2.2.2.2
  obtain ⟨i, i1, i2⟩ := one_a hb h hm hd a
  exact ⟨i, i1, fun k k1 k2 p => i2 k k1 k2 (p m hm).symm⟩
theorem fr9_lb (hb : bjN c N) (h : frN c N M) {m : Nat → Nat} (hm : lbN c N m) : lbN c M m := by
  intro k hk
  refine ⟨?_, (hm k hk).2⟩
  obtain ⟨j, j1, _⟩ := h k hk
  rw [← j1]
  exact ((pt_it hb (j + 1) k hk).1 m hm).symm
theorem fr9_pt (hb : bjN c N) (h : frN c N M) (p : ptN c M a b) : ptN c N a b := fun m hm => p m (fr9_lb hb h hm)
theorem fr9_back (hb : bjN c N) (h : prN c N v w) {m : Nat → Nat} (hm : lbN c (exN N v w) m) (hd : m v ≠ m w) : ∀ (j a : Nat), a < 2 * c → m (it N (j + 1) a) = m a → ∃ j', it (exN N v w) (j' + 1) a = it N (j + 1) a ∧ ∀ k, 0 < k → k < j' + 1 → ∃ k', 0 < k' ∧ k' < j + 1 ∧ it (exN N v w) k a = it N k' a := by
  intro j
  induction j using Nat.strongRecOn with
  | _ j ih =>
    intro a ha e
    obtain ⟨i, i1, i2⟩ := one_a hb h hm hd a
    rcases Nat.lt_trichotomy i j with q | q | q
    · have hlt : exN N v w a < 2 * c := (bj_pr hb h).1 a ha
      have e9 : it N (j - i - 1 + 1) (exN N v w a) = it N (j + 1) a := by
        rw [← i1, ← it_add]
        exact congrArg (fun z => it N z a) (by omega)
      obtain ⟨j', j1, j2⟩ := ih (j - i - 1) (by omega) (exN N v w a) hlt (by rw [e9, e]; exact (hm a ha).1.symm)
      have shE : ∀ k, it (exN N v w) (k + 1) a = it (exN N v w) k (exN N v w a) := fun k => it_add (exN N v w) a k 1
      refine ⟨j' + 1, ?_, fun k k1 k2 => ?_⟩
      · rw [shE, j1, e9]
      · rcases Nat.eq_or_lt_of_le (show 1 ≤ k from k1) with q9 | q9
        · exact ⟨i + 1, by omega, by omega, by rw [← q9, i1]; rfl⟩
        · obtain ⟨k', l1, l2, l3⟩ := j2 (k - 1) (by omega) (by omega)
          refine ⟨k' + (i + 1), by omega, by omega, ?_⟩
          have := shE (k - 1)
          rw [Nat.sub_add_cancel k1] at this
          rw [this, l3, it_add, i1]
    · exact ⟨0, by rw [← q, i1]; rfl, fun k k1 k2 => by omega⟩
    · exact absurd e (i2 (j + 1) (by omega) (by omega))
theorem fr9_chg {m : Nat → Nat} (hb : bjN c N) (hm : lbN c (exN N v w) m) (ha : a < 2 * c) (n : Nat) (h : ∀ i, i < n → it N i a ≠ v ∧ it N i a ≠ w) : m (it N n a) = m a := by
  induction n with
  | zero => rfl
  | succ n ih =>
    have e := (hm _ (pt_it hb n a ha).2).1
    rw [exN_o (h n (by omega)).1 (h n (by omega)).2] at e
    exact e.trans (ih (fun i hi => h i (by omega)))
def chN (c : Nat) (N M : Nat → Nat) (b g : Nat) : Prop := ∃ j i, it N (j + 1) b = M b ∧ (∀ k, 0 < k → k < j + 1 → ¬ ptN c M b (it N k b)) ∧ i < j + 1 ∧ it N i b = g
theorem ch_one (hb : bjN c N) {x y g : Nat} (hx : x < 2 * c) (hy : y < 2 * c) (h1 : chN c N M x g) (h2 : chN c N M y g) (hp : ptN c M x y) : x = y := by
  obtain ⟨j, i, a1, a2, a3, a4⟩ := h1
  obtain ⟨j', i', b1, b2, b3, b4⟩ := h2
  rcases Nat.lt_trichotomy i i' with q | q | q
  · exfalso
    have e := it_sub (N := N) i' (i' - i) y (by omega)
    rw [b4, ← a4, show i' - (i' - i) = i by omega] at e
    have e := injI hb i _ _ hx (pt_it hb _ y hy).2 e
    exact b2 (i' - i) (by omega) (by omega) (by rw [← e]; exact pt_sy hp)
  · rw [q, ← b4] at a4
    exact injI hb i' _ _ hx hy a4
  · exfalso
    have e := it_sub (N := N) i (i - i') x (by omega)
    rw [a4, ← b4, show i - (i - i') = i' by omega] at e
    have e := injI hb i' _ _ hy (pt_it hb _ x hx).2 e
    exact a2 (i - i') (by omega) (by omega) (by rw [← e]; exact hp)
theorem ch_ex (hb : bjN c N) (hR : frN c N M) {m : Nat → Nat} (hm : lbN c (exN N v w) m) (ha : a < 2 * c) (h : m (M a) ≠ m a) : chN c N M a v ∨ chN c N M a w := by
  obtain ⟨j, j1, j2⟩ := hR a ha
  refine Classical.byContradiction (fun h9 => h ?_)
  rw [← j1]
  exact fr9_chg hb hm ha _ (fun i hi => ⟨fun e => h9 (Or.inl ⟨j, i, j1, j2, hi, e⟩), fun e => h9 (Or.inr ⟨j, i, j1, j2, hi, e⟩)⟩)
/-- a mark that one parting leaves is kept by every end -/
theorem fr9_star (hb : bjN c N) (hbM : bjN c M) (hR : frN c N M) (hi : irN c M) {m : Nat → Nat} (hm : lbN c (exN N v w) m) : ∀ a, a < 2 * c → m (M a) = m a := by
  intro x hx
  refine Classical.byContradiction (fun hne => ?_)
  obtain ⟨n, n1, n2, _, _⟩ := pos_ex hbM hx
  have ex : ∃ i, m (it M (i + 2) x) = m x := by
    refine ⟨n - 2, ?_⟩
    by_cases e : n = 1
    · rw [e] at n2
      exact absurd (congrArg m n2) hne
    · rw [show n - 2 + 2 = n by omega, n2]
  obtain ⟨i, i1, i2⟩ := leastE ex
  have off : ∀ k, k ≤ i → m (it M (k + 1) x) ≠ m x := by
    intro k hk
    cases k with
    | zero => exact hne
    | succ k => exact i2 k (by omega)
  obtain ⟨py, hy⟩ := pt_it hbM (i + 1) x hx
  generalize hY : it M (i + 1) x = y at py hy
  have my : m (M y) = m x := by
    rw [← hY]
    exact i1
  have yx : m y ≠ m x := by
    rw [← hY]
    exact off i (Nat.le_refl _)
  have ney : x ≠ y := fun e => yx (by rw [← e])
  have cx := ch_ex hb hR hm hx hne
  have cy := ch_ex hb hR hm hy (fun e => yx (e.symm.trans my))
  have two : ∀ z, z < 2 * c → ptN c M x z → m (M z) ≠ m z → z = x ∨ z = y := by
    intro z hz pz hmz
    have cz := ch_ex hb hR hm hz hmz
    have pyz : ptN c M y z := pt_tr (pt_sy py) pz
    rcases cx with cx | cx <;> rcases cy with cy | cy <;> rcases cz with cz | cz
    · exact absurd (ch_one hb hx hy cx cy py) ney
    · exact absurd (ch_one hb hx hy cx cy py) ney
    · exact Or.inl (ch_one hb hx hz cx cz pz).symm
    · exact Or.inr (ch_one hb hy hz cy cz pyz).symm
    · exact Or.inr (ch_one hb hy hz cy cz pyz).symm
    · exact Or.inl (ch_one hb hx hz cx cz pz).symm
    · exact absurd (ch_one hb hx hy cx cy py) ney
    · exact absurd (ch_one hb hx hy cx cy py) ney
  have same : ∀ k, k ≤ i → m (it M (k + 1) x) = m (M x) := by
    intro k
    induction k with
    | zero => exact fun _ => rfl
    | succ k ih =>
      intro hk
      rw [← ih (by omega)]
      refine Classical.byContradiction (fun h9 => ?_)
      obtain ⟨pz, hz⟩ := pt_it hbM (k + 1) x hx
      rcases two _ hz pz h9 with e | e
      · exact off k (by omega) (by rw [e])
      · refine off (k + 1) hk ?_
        show m (M (it M (k + 1) x)) = m x
        rw [e, my]
  have mxy : m (M x) = m y := by
    rw [← hY]
    exact (same i (Nat.le_refl _)).symm
  refine hi x y ⟨hx, hy, ney, ⟨i + 1, hY⟩, fun p => ?_⟩
  have hself : ∀ k, k < 2 * c → ptN c M k (M k) ∧ ptN c M k (mt k) := fun k hk => ⟨fun m hm => (hm k hk).1.symm, fun m hm => (hm k hk).2.symm⟩
  have hdec : DecidablePred (fun k => ptN c M x k) := fun k => Classical.propDecidable _
  have q := p (fun k => if ptN c M x k then m k + 1 else 0) (fun k hk => ⟨?_, ?_⟩)
  · rw [if_pos pt_rf, if_pos py] at q
    omega
  · by_cases e1 : k = y
    · show (if ptN c M x (exN M x y k) then m (exN M x y k) + 1 else 0) = if ptN c M x k then m k + 1 else 0
      rw [e1, exN_w, if_pos (hself x hx).1, if_pos py, mxy]
    · by_cases e2 : k = x
      · show (if ptN c M x (exN M x y k) then m (exN M x y k) + 1 else 0) = if ptN c M x k then m k + 1 else 0
        rw [e2, exN_v ney, if_pos (pt_tr py (hself y hy).1), if_pos pt_rf, my]
      · show (if ptN c M x (exN M x y k) then m (exN M x y k) + 1 else 0) = if ptN c M x k then m k + 1 else 0
        rw [exN_o e2 e1]
        by_cases e3 : ptN c M x k
        · rw [if_pos (pt_tr e3 (hself k hk).1), if_pos e3]
          refine congrArg (· + 1) (Classical.byContradiction (fun h9 => ?_))
          rcases two k hk e3 h9 with e | e
          · exact e2 e
          · exact e1 e
        · rw [if_neg (fun h9 => e3 (pt_tr h9 (pt_sy (hself k hk).1))), if_neg e3]
  · show (if ptN c M x (mt k) then m (mt k) + 1 else 0) = if ptN c M x k then m k + 1 else 0
    by_cases e3 : ptN c M x k
    · rw [if_pos (pt_tr e3 (hself k hk).2), if_pos e3, (hm k hk).2]
    · rw [if_neg (fun h9 => e3 (pt_tr h9 (pt_sy (hself k hk).2))), if_neg e3]
theorem fr9_step (hb : bjN c N) (hbM : bjN c M) (hR : frN c N M) (hi : irN c M) (h : prN c N v w) : frN c (exN N v w) M := by
  obtain ⟨m, hm, hd⟩ := sepE h.2.2.2.2
  intro a ha
  obtain ⟨j, j1, j2⟩ := hR a ha
  obtain ⟨j', l1, l2⟩ := fr9_back hb h hm hd j a ha (by rw [j1]; exact fr9_star hb hbM hR hi hm a ha)
  refine ⟨j', l1.trans j1, fun k k1 k2 => ?_⟩
  obtain ⟨k', p1, p2, p3⟩ := l2 k k1 k2
  rw [p3]
  exact j2 k' p1 p2
theorem fr9_rf : frN c N N := fun a _ => ⟨0, rfl, fun k k1 k2 => by omega⟩
theorem fr9_tr {M' : Nat → Nat} (hb : bjN c N) (hbM : bjN c M) (h1 : frN c N M) (h2 : frN c M M') : frN c N M' := by
  have key : ∀ (j a : Nat), a < 2 * c → ∃ J, it N J a = it M j a ∧ (j = 0 ↔ J = 0) ∧ ∀ K, 0 < K → K < J → (∃ k, 0 < k ∧ k < j ∧ it N K a = it M k a) ∨ ¬ ptN c M a (it N K a) := by
    intro j
    induction j with
    | zero => exact fun a _ => ⟨0, rfl, Iff.rfl, fun K k1 k2 => by omega⟩
    | succ j ih =>
      intro a ha
      obtain ⟨J, J1, J2, J3⟩ := ih a ha
      obtain ⟨pb, hlt⟩ := pt_it hbM j a ha
      obtain ⟨s, s1, s2⟩ := h1 (it M j a) hlt
      refine ⟨s + 1 + J, by rw [it_add, J1, s1]; rfl, by omega, fun K k1 k2 => ?_⟩
      rcases Nat.lt_trichotomy K J with q | q | q
      · rcases J3 K k1 q with ⟨k, l1, l2, l3⟩ | l
        · exact Or.inl ⟨k, l1, by omega, l3⟩
        · exact Or.inr l
      · refine Or.inl ⟨j, ?_, by omega, by rw [q, J1]⟩
        rcases Nat.eq_zero_or_pos j with q9 | q9
        · have := J2.1 q9
          omega
        · exact q9
      · refine Or.inr ?_
        rw [it_sub K J a (by omega), J1]
        exact fun p => s2 (K - J) (by omega) (by omega) (pt_tr (pt_sy pb) p)
  intro a ha
  obtain ⟨j, j1, j2⟩ := h2 a ha
  obtain ⟨J, J1, J2, J3⟩ := key (j + 1) a ha
  have h0 : J ≠ 0 := fun e => by
    have := J2.2 e
    omega
  refine ⟨J - 1, by rw [show J - 1 + 1 = J by omega, J1, j1], fun K k1 k2 p => ?_⟩
  rcases J3 K k1 (by omega) with ⟨k, l1, l2, l3⟩ | l
  · rw [l3] at p
    exact j2 k l1 l2 p
  · exact l (fr9_pt hbM h2 p)
theorem fr9_of : ∀ (n : Nat) (N M : Nat → Nat), bjN c N → stN c n N M → frN c N M ∧ bjN c M
  | 0, N, M, hb, h => by
    have h : N = M := h
    rw [← h]
    exact ⟨fr9_rf, hb⟩
  | n + 1, N, M, hb, h => by
    obtain ⟨v, w, h1, h2⟩ := h
    obtain ⟨r1, r2⟩ := fr9_of n _ M (bj_pr hb h1) h2
    exact ⟨fr9_tr hb (bj_pr hb h1) (fr9_one hb h1) r1, r2⟩
theorem fr9_all (hbM : bjN c M) (hi : irN c M) : ∀ (n : Nat) (N M9 : Nat → Nat), bjN c N → frN c N M → stN c n N M9 → frN c M9 M
  | 0, N, M9, hb, hR, h => by
    have h : N = M9 := h
    rw [← h]
    exact hR
  | n + 1, N, M9, hb, hR, h => by
    obtain ⟨v, w, h1, h2⟩ := h
    exact fr9_all hbM hi n _ M9 (bj_pr hb h1) (fr9_step hb hbM hR hi h1) h2
/-- the end of all parting is one -/
theorem end_one {n n' : Nat} {M' : Nat → Nat} (hb : bjN c N) (h1 : stN c n N M) (h2 : stN c n' N M') (i1 : irN c M) (i2 : irN c M') : ∀ a, a < 2 * c → M a = M' a := by
  obtain ⟨r1, b1⟩ := fr9_of n N M hb h1
  obtain ⟨r2, b2⟩ := fr9_of n' N M' hb h2
  have q1 : frN c M' M := fr9_all b1 i1 n' N M' hb r1 h2
  have q2 : frN c M M' := fr9_all b2 i2 n N M hb r2 h1
  intro a ha
  obtain ⟨j, j1, j2⟩ := q1 a ha
  rcases Nat.eq_zero_or_pos j with e | e
  · rw [← j1, e]
    rfl
  · exact absurd (fr9_pt b1 q2 (fun m hm => (hm a ha).1.symm)) (j2 1 (by omega) (by omega))
end XSV
end
section
/-! 99zzzzzzzzzzzzt.xsu3 -/
/-! parting: what the class does -/
section XSW
variable {c : Nat} {N : Nat → Nat} {S : ow_NP} {x : Int32}
theorem mr_in_off : ∀ (d : Nat) (F : Nat → Int32) (v k : Nat), (∀ i, it N i v ≠ k) → mr_in N x d F v k = F k
  | 0, _, _, _, _ => rfl
  | d + 1, F, v, k, h => by
    show (if F v = -1 then mr_in N x d (su F v x) (N v) else F) k = F k
    by_cases e : F v = -1
    · rw [if_pos e, mr_in_off d _ (N v) k (fun i e9 => h (i + 1) ((it_add N v i 1).trans e9))]
      show (if k = v then x else F k) = F k
      rw [if_neg (fun e9 => h 0 e9.symm)]
    · rw [if_neg e]
theorem mr_in_val : ∀ (d : Nat) (F : Nat → Int32) (v k : Nat), mr_in N x d F v k = F k ∨ mr_in N x d F v k = x
  | 0, _, _, _ => Or.inl rfl
  | d + 1, F, v, k => by
    show (if F v = -1 then mr_in N x d (su F v x) (N v) else F) k = F k ∨ (if F v = -1 then mr_in N x d (su F v x) (N v) else F) k = x
    by_cases e : F v = -1
    · rw [if_pos e]
      rcases mr_in_val d (su F v x) (N v) k with h | h
      · rw [h]
        show (if k = v then x else F k) = F k ∨ (if k = v then x else F k) = x
        by_cases e1 : k = v
        · exact Or.inr (if_pos e1)
        · exact Or.inl (if_neg e1)
      · exact Or.inr h
    · rw [if_neg e]
      exact Or.inl rfl
theorem bj_vn (h : vn c S) : bjN c S.1 := ⟨fun k hk => (h k hk).1, fun j k hj hk e => by
  have h1 := (h j hj).2.2.1
  rw [e, (h k hk).2.2.1] at h1
  exact h1.symm⟩
theorem rg_sy (hb : bjN c N) {k j : Nat} (hk : k < 2 * c) (h : ∃ i, it N i k = j) : ∃ i, it N i j = k := by
  obtain ⟨i, h4⟩ := h
  obtain ⟨n, n1, n2, n3, n4⟩ := pos_ex hb hk
  obtain ⟨i2, j1, j2⟩ := n4 i
  refine ⟨n - i2, ?_⟩
  rw [← h4, j2, ← it_add, Nat.sub_add_cancel (Nat.le_of_lt j1), n2]
theorem rg_tr {k j l : Nat} (h : ∃ i, it N i k = j) (h2 : ∃ i, it N i j = l) : ∃ i, it N i k = l := by
  obtain ⟨i, h⟩ := h
  obtain ⟨i2, h2⟩ := h2
  exact ⟨i2 + i, by rw [it_add, h, h2]⟩
def rgI (c : Nat) (N : Nat → Nat) (n : Nat) (t : (Nat → Int32) × Nat) : Prop := t.2 ≤ n ∧ (∀ k, k < 2 * c → t.1 k ≠ -1 → (∃ r, r < t.2 ∧ t.1 k = nI r) ∧ ∀ j, j < 2 * c → (t.1 j = t.1 k ↔ ∃ i, it N i k = j)) ∧ ∀ k, k < n → k < 2 * c → t.1 k ≠ -1
theorem rg_inv (h : vn c S) (hc : c ≤ 12) : ∀ n, n ≤ 2 * c → rgI c S.1 n (mr_out S.1 (2 * c) (fun _ => -1) n)
  | 0, _ => ⟨Nat.le_refl _, fun k _ h9 => absurd rfl h9, fun k hk => absurd hk (Nat.not_lt_zero _)⟩
  | n + 1, hn => by
    obtain ⟨i1, i3, i4⟩ := rg_inv h hc n (by omega)
    have hb := bj_vn h
    have hn2 : n < 2 * c := by omega
    rw [mr_out]
    generalize mr_out S.1 (2 * c) (fun _ => -1) n = t at i1 i3 i4
    by_cases e : t.1 n = -1
    · rw [if_pos e]
      have hx : nI t.2 ≠ -1 := nI_nm1 (by omega)
      have cl : ∀ k, k < 2 * c → (∃ i, it S.1 i n = k) → t.1 k = -1 := fun k hk hr => by
        refine Classical.byContradiction (fun h9 => h9 ?_)
        rw [← ((i3 k hk h9).2 n hn2).mpr (rg_sy hb hn2 hr), e]
      obtain ⟨m, hm1, hm2⟩ := ring_ex h hn2
      have on : ∀ k, k < 2 * c → (∃ i, it S.1 i n = k) → mr_in S.1 (nI t.2) (2 * c) t.1 n k = nI t.2 := fun k hk hr => by
        rcases mr_in_val (N := S.1) (x := nI t.2) (2 * c) t.1 n k with h9 | h9
        · exfalso
          have hm3 := mr_in_mk h hn2 hm2 hx (2 * c) 0 t.1 (Nat.zero_le _) (by omega) (fun _ => Or.inr trivial) (fun j _ hj => cl _ (it_lt h hn2 j) ⟨j, rfl⟩) (fun j hj => absurd hj (Nat.not_lt_zero _)) k
          obtain ⟨i, hi⟩ := hr
          obtain ⟨j2, j3, j4⟩ := it_mod hm2 i
          exact (hm3.mp (h9.trans (cl k hk ⟨i, hi⟩))).2 j2 (Nat.zero_le _) j3 (hi.symm.trans j4)
        · exact h9
      have off : ∀ k, ¬ (∃ i, it S.1 i n = k) → mr_in S.1 (nI t.2) (2 * c) t.1 n k = t.1 k := fun k hr => mr_in_off _ _ _ _ (fun i e9 => hr ⟨i, e9⟩)
      refine ⟨by show t.2 + 1 ≤ n + 1; omega, fun k hk hne => ?_, fun k hk hk2 => ?_⟩
      · have hne : mr_in S.1 (nI t.2) (2 * c) t.1 n k ≠ -1 := hne
        show (∃ r, r < t.2 + 1 ∧ mr_in S.1 (nI t.2) (2 * c) t.1 n k = nI r) ∧ ∀ j, j < 2 * c → (mr_in S.1 (nI t.2) (2 * c) t.1 n j = mr_in S.1 (nI t.2) (2 * c) t.1 n k ↔ ∃ i, it S.1 i k = j)
        by_cases hr : ∃ i, it S.1 i n = k
        · rw [on k hk hr]
          refine ⟨⟨t.2, by omega, rfl⟩, fun j hj => ⟨fun e9 => ?_, fun e9 => on j hj (rg_tr hr e9)⟩⟩
          refine rg_tr (rg_sy hb hn2 hr) (Classical.byContradiction (fun h9 => ?_))
          rw [off j h9] at e9
          obtain ⟨⟨r, r1, r2⟩, _⟩ := i3 j hj (by rw [e9]; exact hx)
          have := nI_inj9 (by omega) (by omega) (r2.symm.trans e9)
          omega
        · rw [off k hr] at hne ⊢
          obtain ⟨⟨r, r1, r2⟩, k3⟩ := i3 k hk hne
          refine ⟨⟨r, by omega, r2⟩, fun j hj => ?_⟩
          by_cases hj2 : ∃ i, it S.1 i n = j
          · rw [on j hj hj2]
            refine ⟨fun e9 => ?_, fun e9 => absurd (rg_tr hj2 (rg_sy hb hk e9)) hr⟩
            have := nI_inj9 (by omega) (by omega) (r2.symm.trans e9.symm)
            omega
          · rw [off j hj2]
            exact k3 j hj
      · show mr_in S.1 (nI t.2) (2 * c) t.1 n k ≠ -1
        by_cases hr : ∃ i, it S.1 i n = k
        · rw [on k hk2 hr]
          exact hx
        · rw [off k hr]
          refine i4 k ?_ hk2
          rcases Nat.lt_or_ge k n with q | q
          · exact q
          · exact absurd ⟨0, show n = k by omega⟩ hr
    · rw [if_neg e]
      refine ⟨by omega, i3, fun k hk hk2 => ?_⟩
      rcases Nat.lt_or_ge k n with q | q
      · exact i4 k q hk2
      · rw [show k = n by omega]
        exact e
/-- rings' marks are alike on one ring and there alone -/
theorem rg_iff (h : vn c S) (hc : c ≤ 12) {v w : Nat} (hv : v < 2 * c) (hw : w < 2 * c) : (np_rings c S.1).1 v = (np_rings c S.1).1 w ↔ ∃ i, it S.1 i v = w := by
  obtain ⟨_, i3, i4⟩ := rg_inv h hc (2 * c) (Nat.le_refl _)
  exact eq_comm.trans ((i3 v hv (i4 v hv hv)).2 w hw)
theorem pt_iff9 (hv : vn c S) (hc : c ≤ 12) {v w : Nat} (h1 : v < 2 * c) (h2 : w < 2 * c) : (np_parts c S.1).1 v = (np_parts c S.1).1 w ↔ ptN c S.1 v w := by
  refine ⟨fun e m hm => (parts_iff hv hc h1 h2).mp e (fun k => m v = m k) rfl (fun j hj e => e.trans (hm j hj).1.symm) (fun j hj e => e.trans (hm j hj).2.symm), fun h => ?_⟩
  have hcl := (parts_I hv hc).1
  have q := h (fun k => if (np_parts c S.1).1 k = (np_parts c S.1).1 v then 1 else 0) (fun k hk => by
    rw [(hcl k hk).1, (hcl k hk).2]
    exact ⟨rfl, rfl⟩)
  rw [if_pos rfl] at q
  by_cases e : (np_parts c S.1).1 w = (np_parts c S.1).1 v
  · exact e.symm
  · rw [if_neg e] at q
    exact absurd q (by decide)
theorem ex_ex {v w : Nat} (h : v ≠ w) : exN (exN N v w) v w = N := by
  funext k
  by_cases e1 : k = w
  · rw [e1, exN_w, exN_v h]
  · by_cases e2 : k = v
    · rw [e2, exN_v h, exN_w]
    · rw [exN_o e2 e1, exN_o e2 e1]
theorem cnt_inj {P P' : Nat} (s : Nat → Nat) (h1 : ∀ i, i < P → s i < P') (h2 : ∀ i j, i < j → j < P → s i ≠ s j) : P ≤ P' := by
  rcases Nat.lt_or_ge P' P with q | q
  · obtain ⟨i, j, a1, a2, a3⟩ := ow_pig P' s (fun i hi => h1 i (by omega))
    exact absurd a3 (h2 i j a1 (by omega))
  · exact q
theorem pr_cnt (hv : vn c S) (hc : c ≤ 12) {v w : Nat} (h1 : v < 2 * c) (h2 : w < 2 * c) (hn : v ≠ w) (hp : ptN c S.1 v w) : (np_parts c S.1).2 < (np_parts c (np_exchange S v w).1).2 ↔ ¬ ptN c (exN S.1 v w) v w := by
  have hv' := vn_exchange hv h1 h2
  obtain ⟨i1, i2, i3, i4⟩ := parts_I hv hc
  obtain ⟨j1, j2, j3, j4⟩ := parts_I hv' hc
  have f1 : ∀ a b, a < 2 * c → b < 2 * c → ((np_parts c S.1).1 a = (np_parts c S.1).1 b ↔ ptN c S.1 a b) := fun a b ha hb => pt_iff9 hv hc ha hb
  have f2 : ∀ a b, a < 2 * c → b < 2 * c → ((np_parts c (np_exchange S v w).1).1 a = (np_parts c (np_exchange S v w).1).1 b ↔ ptN c (exN S.1 v w) a b) := fun a b ha hb => pt_iff9 hv' hc ha hb
  generalize (np_parts c S.1).1 = F at i1 i2 i3 f1
  generalize (np_parts c (np_exchange S v w).1).1 = F' at j1 j2 j3 f2
  generalize (np_parts c S.1).2 = P at i2 i3 i4
  generalize (np_parts c (np_exchange S v w).1).2 = P' at j2 j3 j4
  constructor
  · intro hlt h9
    have back : ∀ a b, ptN c S.1 a b → ptN c (exN S.1 v w) a b := fun a b p => pt_ex h1 h2 h9 (by rw [ex_ex hn]; exact p)
    have ch : ∀ r, ∃ q, r < P' → q < P ∧ ∃ k, k < 2 * c ∧ F' k = nI r ∧ F k = nI q := fun r => by
      by_cases hr : r < P'
      · obtain ⟨k, k1, k2⟩ := j3 r hr
        obtain ⟨q, q1, q2⟩ := i2 k k1
        exact ⟨q, fun _ => ⟨q1, k, k1, k2, q2⟩⟩
      · exact ⟨0, fun h => absurd h hr⟩
    obtain ⟨s, hs⟩ := Classical.axiomOfChoice ch
    have := cnt_inj s (fun i hi => (hs i hi).1) (fun i j a1 a2 a3 => by
      obtain ⟨_, k, k1, k2, k3⟩ := hs i (by omega)
      obtain ⟨_, l, l1, l2, l3⟩ := hs j a2
      have e : F' k = F' l := (f2 k l k1 l1).mpr (back _ _ ((f1 k l k1 l1).mp (by rw [k3, l3, a3])))
      have := nI_inj9 (by omega) (by omega) (k2.symm.trans (e.trans l2))
      omega)
    omega
  · intro h9
    have ch : ∀ r, ∃ q, (r < P → q < P' ∧ ∃ k, k < 2 * c ∧ F k = nI r ∧ F' k = nI q ∧ (F v = nI r → k = v)) ∧ (r = P → q < P' ∧ F' w = nI q) := fun r => by
      by_cases hr : r < P
      · by_cases hv9 : F v = nI r
        · obtain ⟨q, q1, q2⟩ := j2 v h1
          exact ⟨q, fun _ => ⟨q1, v, h1, hv9, q2, fun _ => rfl⟩, fun h => by omega⟩
        · obtain ⟨k, k1, k2⟩ := i3 r hr
          obtain ⟨q, q1, q2⟩ := j2 k k1
          exact ⟨q, fun _ => ⟨q1, k, k1, k2, q2, fun h => absurd h hv9⟩, fun h => by omega⟩
      · obtain ⟨q, q1, q2⟩ := j2 w h2
        exact ⟨q, fun h => absurd h hr, fun _ => ⟨q1, q2⟩⟩
    obtain ⟨s, hs⟩ := Classical.axiomOfChoice ch
    refine cnt_inj (P := P + 1) s (fun i hi => ?_) (fun i j a1 a2 a3 => ?_)
    · rcases Nat.lt_or_ge i P with q | q
      · exact ((hs i).1 q).1
      · exact ((hs i).2 (by omega)).1
    · obtain ⟨_, k, k1, k2, k3, k4⟩ := (hs i).1 (by omega)
      rcases Nat.lt_or_ge j P with q | q
      · obtain ⟨_, l, l1, l2, l3, l4⟩ := (hs j).1 q
        have e : F k = F l := (f1 k l k1 l1).mpr (pt_ex h1 h2 hp ((f2 k l k1 l1).mp (by rw [k3, l3, a3])))
        have := nI_inj9 (by omega) (by omega) (k2.symm.trans (e.trans l2))
        omega
      · obtain ⟨_, l3⟩ := (hs j).2 (by omega)
        have p2 := (f2 k w k1 h2).mp (by rw [k3, l3, a3])
        have e : F v = F k := (f1 v k h1 k1).mpr (pt_tr hp (pt_sy (pt_ex h1 h2 hp p2)))
        rw [k4 (e.trans k2)] at p2
        exact h9 p2
theorem po_iff (hv : vn c S) (hc : c ≤ 12) {v w : Nat} (h1 : v < 2 * c) (h2 : w < 2 * c) (hn : v ≠ w) : po_P c S v w = true ↔ prN c S.1 v w := by
  have hpt : (∃ i, it S.1 i v = w) → ptN c S.1 v w := fun ⟨i, e⟩ => by
    rw [← e]
    exact (pt_it (bj_vn hv) i v h1).1
  constructor
  · intro h
    obtain ⟨a1, a2⟩ := of_decide_eq_true h
    have r := (rg_iff hv hc h1 h2).mp a1
    exact ⟨h1, h2, hn, r, (pr_cnt hv hc h1 h2 hn (hpt r)).mp a2⟩
  · rintro ⟨_, _, _, r, p⟩
    exact decide_eq_true ⟨(rg_iff hv hc h1 h2).mpr r, (pr_cnt hv hc h1 h2 hn (hpt r)).mpr p⟩
theorem po_w_no {P : Nat → Bool} : ∀ (d w : Nat), po_w P d w = none → ∀ b, w ≤ b → b < w + d → P b = false
  | 0, _, _, _, _, _ => by omega
  | d + 1, w, h, b, b1, b2 => by
    have h : (if P w then some w else po_w P d (w + 1)) = none := h
    by_cases e : P w = true
    · rw [if_pos e] at h
      cases h
    · rw [if_neg e] at h
      rcases Nat.eq_or_lt_of_le b1 with q | q
      · rw [← q]
        exact Bool.eq_false_iff.mpr e
      · exact po_w_no d (w + 1) h b q (by omega)
theorem po_v_no {P : Nat → Nat → Bool} {n : Nat} : ∀ (d v : Nat), po_v P n d v = none → ∀ a b, v ≤ a → a < v + d → a < b → b < n → P a b = false
  | 0, _, _, _, _, _, _, _, _ => by omega
  | d + 1, v, h, a, b, a1, a2, a3, a4 => by
    have h : po_in P n d v (po_v P n d) (po_w (P v) (n - (v + 1)) (v + 1)) = none := h
    cases e : po_w (P v) (n - (v + 1)) (v + 1) with
    | none =>
      rw [e] at h
      rcases Nat.eq_or_lt_of_le a1 with q | q
      · rw [← q]
        exact po_w_no _ _ e b (by omega) (by omega)
      · exact po_v_no d (v + 1) h a b q (by omega) a3 a4
    | some w =>
      rw [e] at h
      cases h
theorem po_v_lt {P : Nat → Nat → Bool} {n : Nat} : ∀ (d v : Nat) {q : Nat × Nat}, po_v P n d v = some q → q.1 < q.2
  | 0, _, _, h => by cases h
  | d + 1, v, q, h => by
    have h : po_in P n d v (po_v P n d) (po_w (P v) (n - (v + 1)) (v + 1)) = some q := h
    cases e : po_w (P v) (n - (v + 1)) (v + 1) with
    | none =>
      rw [e] at h
      exact po_v_lt d (v + 1) h
    | some w =>
      rw [e] at h
      have h : some (v, w) = some q := h
      cases h
      exact (po_w_in _ _ e).1
theorem once_ir (hv : vn c S) (hc : c ≤ 12) (h : np_once c S = none) : irN c S.1 := by
  intro v w hp
  have key : ∀ a b, a < b → b < 2 * c → ¬ prN c S.1 a b := fun a b a1 a2 p => by
    have := po_v_no _ _ h a b (by omega) (by omega) a1 a2
    rw [(po_iff hv hc (by omega) a2 (by omega)).mpr p] at this
    cases this
  rcases Nat.lt_trichotomy v w with q | q | q
  · exact key v w q hp.2.1 hp
  · exact hp.2.2.1 q
  · exact key w v q hp.1 (pr_sy (bj_vn hv) hp)
theorem all_st (hc : c ≤ 12) : ∀ (d : Nat) (S : ow_NP), vn c S → (∃ n, stN c n S.1 (np_all c d S).1) ∧ (c < (np_parts c S.1).2 + d → irN c (np_all c d S).1)
  | 0, S, hv => ⟨⟨0, rfl⟩, fun h => by have := parts_le hv hc; omega⟩
  | d + 1, S, hv => by
    rw [np_all]
    cases e : np_once c S with
    | none =>
      rw [if_neg (by rw [Option.isSome_none]; decide)]
      exact ⟨⟨0, rfl⟩, fun _ => once_ir hv hc e⟩
    | some q =>
      rw [if_pos Option.isSome_some]
      have h1 := po_v_in (2 * c) 0 (by omega) e
      have h2 := po_v_lt _ _ e
      have h3 := po_v_P _ _ e
      have hp := (po_iff hv hc h1.1 h1.2 (by omega)).mp h3
      have h4 := (of_decide_eq_true h3).2
      obtain ⟨⟨n, n1⟩, n2⟩ := all_st hc d (np_exchange S q.1 q.2) (vn_exchange hv h1.1 h1.2)
      exact ⟨⟨n + 1, q.1, q.2, hp, n1⟩, fun h => n2 (by omega)⟩
/-- the class parts as long as a part can be parted -/
theorem all_end (hv : vn c S) (hc : c ≤ 12) : (∃ n, stN c n S.1 (np_all c 12 S).1) ∧ irN c (np_all c 12 S).1 := by
  obtain ⟨h1, h2⟩ := all_st hc 12 S hv
  refine ⟨h1, h2 ?_⟩
  rcases Nat.eq_zero_or_pos c with e | e
  · omega
  · obtain ⟨r, r1, _⟩ := (parts_I hv hc).2.1 0 (by omega)
    omega
end XSW
end
section
/-! 99zzzzzzzzzzzzu.xem -/
/-! a list that a part of a net shows (tools/mkem.py: the proofs of ciso, without onto) -/
def emN (A : rn_L) (sg : Nat → Bool) (f : Nat → Nat) (T : ow_NT) : Prop := wkF A.flatten ∧ A.flatten.length ≤ 2 * T.1 ∧ T.1 ≤ 12 ∧ (∀ v, v < A.flatten.length → f (crs A v) < T.1) ∧ (∀ v w, v < A.flatten.length → w < A.flatten.length → f (crs A v) = f (crs A w) → crs A v = crs A w) ∧ (∀ v, v < A.flatten.length → T.2.2.1.1 (lbv A f v) = lbv A f (rn_nx A v)) ∧ (∀ v, v < A.flatten.length → (T.2.2.2 (f (crs A v)) < 0 ↔ sg (crs A v) = true)) ∧ True
section XEM
variable {A : rn_L} {sg : Nat → Bool} {f : Nat → Nat} {T : ow_NT}
theorem em_lt {v : Nat} (h : emN A sg f T) (hv : v < A.flatten.length) : lbv A f v < 2 * T.1 := by
  have := uns_lt h.1 hv
  have := h.2.2.2.1 v hv
  unfold lbv
  omega
theorem em_hf {v : Nat} (h : emN A sg f T) (hv : v < A.flatten.length) : lbv A f v / 2 = f (crs A v) ∧ lbv A f v % 2 = uns A v := by
  have := uns_lt h.1 hv
  unfold lbv
  omega
theorem em_inj {v w : Nat} (h : emN A sg f T) (hv : v < A.flatten.length) (hw : w < A.flatten.length) (e : lbv A f v = lbv A f w) : v = w := by
  have h1 := em_hf h hv
  have h2 := em_hf h hw
  have h3 : f (crs A v) = f (crs A w) := by omega
  have h4 := h.2.2.2.2.1 v w hv hw h3
  have h5 : uns A v = uns A w := by omega
  have h6 : vAt A v = vAt A w := Prod.ext h4 h5
  refine nodup_at h.1.1 (vAt_of hv) ?_
  rw [h6]
  exact vAt_of hw
theorem em_mt {v : Nat} (h : emN A sg f T) (hv : v < A.flatten.length) : mtf A v < A.flatten.length ∧ crs A (mtf A v) = crs A v ∧ lbv A f (mtf A v) = mt (lbv A f v) ∧ mtf A v ≠ v := by
  have hm := mtf_mt (wkF_ok h.1) hv
  have hl := (rn_mt_lt hm).2
  obtain ⟨hne, p, q, e1, e2, e3⟩ := hm
  have c1 : crs A (mtf A v) = crs A v := by
    unfold crs
    rw [vAt_eq e1, vAt_eq e2]
    exact e3.symm
  have u1 := uns_lt h.1 hv
  have u2 := uns_lt h.1 hl
  have hu : uns A (mtf A v) ≠ uns A v := by
    intro e
    have h6 : vAt A (mtf A v) = vAt A v := Prod.ext c1 e
    refine hne (nodup_at h.1.1 (vAt_of hv) ?_)
    rw [← h6]
    exact vAt_of hl
  refine ⟨hl, c1, ?_, fun e => hne e.symm⟩
  have h1 := em_hf h hv
  unfold lbv
  rw [c1]
  unfold mt
  split <;> omega
theorem emtJ_vis {vs cells : List Nat} {P : tf_P} {v : Nat} (hi : emN A sg f T) (h : tJ A f vs cells P) (hv : v < A.flatten.length) : tJ A f (vs ++ [v]) (cells ++ [tkn A sg (vs ++ [v]) v]) (tf_vis T.2.2.2 P (lbv A f v)) := by
  have hl := em_hf hi hv
  obtain ⟨a1, a2, a3, a4, a5, a6⟩ := id h
  have hgone : ∀ w, w < A.flatten.length → (o_gn (tf_vis T.2.2.2 P (lbv A f v)).gone (lbv A f w) ↔ w ∈ vs ++ [v]) := by
    intro w hw
    show o_gn (P.gone ||| 2 ^ lbv A f v) (lbv A f w) ↔ _
    rw [gn_or, a4 w hw, List.mem_append, List.mem_singleton]
    exact or_congr Iff.rfl ⟨fun e => em_inj hi hw hv e, fun e => by rw [e]⟩
  have hmem : ∀ w, w ∈ vs ++ [v] → w < A.flatten.length := by
    intro w hw
    rcases List.mem_append.mp hw with h9 | h9
    · exact a6 w h9
    · rw [List.mem_singleton.mp h9]
      exact hv
  have part : (tf_vis T.2.2.2 P (lbv A f v)).names = (fm A (vs ++ [v])).length ∧ (∀ k w, (fm A (vs ++ [v]))[k]? = some w → (tf_vis T.2.2.2 P (lbv A f v)).nam k = f (crs A w) ∧ (tf_vis T.2.2.2 P (lbv A f v)).num (f (crs A w)) = k + 1) ∧ (∀ w, w < A.flatten.length → crs A w ∉ (vs ++ [v]).map (crs A) → (tf_vis T.2.2.2 P (lbv A f v)).num (f (crs A w)) = 0) := by
    have e1 : (tf_vis T.2.2.2 P (lbv A f v)).num = (tf_name P (f (crs A v))).num := by
      rw [← hl.1]
      rfl
    have e2 : (tf_vis T.2.2.2 P (lbv A f v)).nam = (tf_name P (f (crs A v))).nam := by
      rw [← hl.1]
      rfl
    have e3 : (tf_vis T.2.2.2 P (lbv A f v)).names = (tf_name P (f (crs A v))).names := by
      rw [← hl.1]
      rfl
    rw [e1, e2, e3, fm_app]
    by_cases hc : crs A v ∈ (fm A vs).map (crs A)
    · have hc2 := (fm_cr vs).mp hc
      have hn : ¬ P.num (f (crs A v)) = 0 := by
        obtain ⟨w, q1, q2⟩ := num_at hc2
        have := (a2 _ w q1).2
        rw [q2] at this
        omega
      have e4 : tf_name P (f (crs A v)) = P := by
        unfold tf_name
        rw [if_neg hn]
      rw [e4, show fmA A (fm A vs) v = fm A vs from if_pos hc]
      refine ⟨a1, a2, fun w hw hx => a3 w hw (fun h9 => hx ?_)⟩
      rw [List.map_append]
      exact List.mem_append_left _ h9
    · have hc2 : crs A v ∉ vs.map (crs A) := fun h9 => hc ((fm_cr vs).mpr h9)
      have e4 : tf_name P (f (crs A v)) = ⟨nu P.num (f (crs A v)) (P.names + 1), nu P.nam P.names (f (crs A v)), P.names + 1, P.gone, P.T, P.len⟩ := by
        unfold tf_name
        rw [if_pos (a3 v hv hc2)]
      rw [e4, show fmA A (fm A vs) v = fm A vs ++ [v] from if_neg hc]
      refine ⟨?_, fun k w e => ?_, fun w hw hx => ?_⟩
      · show P.names + 1 = _
        rw [List.length_append, a1]
        rfl
      · show nu P.nam P.names (f (crs A v)) k = f (crs A w) ∧ nu P.num (f (crs A v)) (P.names + 1) (f (crs A w)) = k + 1
        by_cases hk : k < (fm A vs).length
        · rw [List.getElem?_append_left hk] at e
          have h9 := a2 k w e
          have hwm : w ∈ vs := fm_mem vs (List.mem_of_getElem? e)
          rw [nu_ne _ _ (by omega), nu_ne]
          · exact h9
          · intro e9
            have := hi.2.2.2.2.1 w v (a6 w hwm) hv e9
            exact hc2 (by rw [← this]; exact List.mem_map.mpr ⟨w, hwm, rfl⟩)
        · have h9 := (List.getElem?_eq_some_iff.mp e).1
          rw [List.length_append] at h9
          have h9' : k < (fm A vs).length + 1 := h9
          have ek : k = (fm A vs).length := by omega
          rw [ek, List.getElem?_append_right (Nat.le_refl _), Nat.sub_self] at e
          cases e
          rw [ek, ← a1, nu_same, nu_same]
          exact ⟨rfl, rfl⟩
      · show nu P.num (f (crs A v)) (P.names + 1) (f (crs A w)) = 0
        rw [List.map_append] at hx
        rw [nu_ne]
        · exact a3 w hw (fun h9 => hx (List.mem_append_left _ h9))
        · intro e9
          have := hi.2.2.2.2.1 w v hw hv e9
          exact hx (List.mem_append_right _ (by rw [this]; exact List.mem_singleton.mpr rfl))
  have hj0 : tJ A f (vs ++ [v]) (tfL (tf_vis T.2.2.2 P (lbv A f v))) (tf_vis T.2.2.2 P (lbv A f v)) := ⟨part.1, part.2.1, part.2.2, hgone, rfl, hmem⟩
  refine ⟨part.1, part.2.1, part.2.2, hgone, ?_, hmem⟩
  rw [tfL_vis, a5]
  congr 2
  have hnm := tJ_num (v := v) hj0 (by rw [List.map_append]; exact List.mem_append_right _ (List.mem_singleton.mpr rfl))
  have e1 : (tf_vis T.2.2.2 P (lbv A f v)).num = (tf_name P (f (crs A v))).num := by
    rw [← hl.1]
    rfl
  rw [e1] at hnm
  unfold tf_cell cd_first tkn
  rw [hl.1, hl.2, hnm]
  have h1 : 1 ≤ num A (vs ++ [v]) (crs A v) := by
    unfold num
    omega
  have h7 := hi.2.2.2.2.2.2.1 v hv
  by_cases h8 : sg (crs A v) = true
  · rw [if_pos (h7.mpr h8), if_pos h8]
    omega
  · rw [if_neg (fun h9 => h8 (h7.mp h9)), if_neg h8]
    omega
theorem emtJ_ring {vs cells : List Nat} {s : Nat} (hi : emN A sg f T) (hs : s < A.flatten.length) : ∀ (d j : Nat) (P : tf_P), j + d = rlen A (rn_c A s) → 0 < d → ∀ e, d ≤ e → tJ A f (vs ++ rgj A s j) (cells ++ (rgj A s j).map (tkn A sg (vs ++ rgj A s j))) P → tJ A f (vs ++ rgl A s) (cells ++ (rgl A s).map (tkn A sg (vs ++ rgl A s))) (tf_ring T.2.2.2 T.2.2.1.1 (lbv A f s) e (lbv A f (rv A s j)) P) := by
  intro d
  induction d with
  | zero => exact fun _ _ _ h => absurd h (Nat.lt_irrefl _)
  | succ d ih =>
    intro j P hj _ e he h
    obtain ⟨e1, rfl⟩ : ∃ e1, e = e1 + 1 := ⟨e - 1, by omega⟩
    have hjl : j < rlen A (rn_c A s) := by omega
    have hv := rv_lt hs hjl
    have hst := emtJ_vis hi h hv
    have hN := hi.2.2.2.2.2.1 _ hv
    have hnx := rv_nx hs hjl
    have hcells : tJ A f (vs ++ rgj A s (j + 1)) (cells ++ (rgj A s (j + 1)).map (tkn A sg (vs ++ rgj A s (j + 1)))) (tf_vis T.2.2.2 P (lbv A f (rv A s j))) := by
      have e2 : vs ++ rgj A s (j + 1) = vs ++ rgj A s j ++ [rv A s j] := by rw [rgj_s, List.append_assoc]
      rw [e2]
      have e3 : cells ++ (rgj A s (j + 1)).map (tkn A sg (vs ++ rgj A s j ++ [rv A s j])) = cells ++ (rgj A s j).map (tkn A sg (vs ++ rgj A s j)) ++ [tkn A sg (vs ++ rgj A s j ++ [rv A s j]) (rv A s j)] := by
        have e9 : (rgj A s j).map (tkn A sg (vs ++ rgj A s j ++ [rv A s j])) = (rgj A s j).map (tkn A sg (vs ++ rgj A s j)) := by
          apply List.map_congr_left
          intro w hw
          exact tkn_st (List.mem_append_right _ hw)
        rw [rgj_s, List.map_append, e9, ← List.append_assoc]
        rfl
      rw [e3]
      exact hst
    rw [tf_ring]
    by_cases hjd : j + 1 = rlen A (rn_c A s)
    · rw [if_pos hjd] at hnx
      rw [if_pos (by rw [hN, hnx])]
      have e4 : rgj A s (j + 1) = rgl A s := by
        unfold rgj rgl
        rw [hjd]
      rw [e4] at hcells
      exact hcells
    · rw [if_neg hjd] at hnx
      have hne : ¬ T.2.2.1.1 (lbv A f (rv A s j)) = lbv A f s := by
        rw [hN, hnx]
        intro e5
        exact rv_ne hs (by omega) (by omega) (em_inj hi (rv_lt hs (by omega)) hs e5)
      rw [if_neg hne, hN, hnx]
      exact ih (j + 1) _ (by omega) (by omega) e1 (by omega) hcells
theorem emtJ_comp {vs cells : List Nat} {P : tf_P} {s : Nat} (hi : emN A sg f T) (hs : s < A.flatten.length) (h : tJ A f vs cells P) : tJ A f (vs ++ rgl A s) (cells ++ ((rgl A s).map (tkn A sg (vs ++ rgl A s)) ++ [0])) (tf_sep (tf_ring T.2.2.2 T.2.2.1.1 (lbv A f s) 24 (lbv A f s) P)) := by
  have h0 := rlen_pos hs
  have h1 := rlen_le hs
  have h2 := hi.2.1
  have h3 := hi.2.2.1
  have := emtJ_ring (vs := vs) (cells := cells) hi hs (rlen A (rn_c A s)) 0 P (by omega) h0 24 (by omega) (by
    rw [show rgj A s 0 = [] from rfl, List.append_nil, List.map_nil, List.append_nil]
    exact h)
  rw [rv_0 hs] at this
  rw [← List.append_assoc]
  exact tJ_sep this
theorem emtJ_S {S : List Nat} {P : tf_P} {s : Nat} (hi : emN A sg f T) (hs : s < A.flatten.length) (h : tJ A f (vsO A S) (tks A sg (vsO A S) S) P) : tJ A f (vsO A (S ++ [s])) (tks A sg (vsO A (S ++ [s])) (S ++ [s])) (tf_sep (tf_ring T.2.2.2 T.2.2.1.1 (lbv A f s) 24 (lbv A f s) P)) := by
  rw [tks_grow, vsO_app]
  exact emtJ_comp hi hs h
theorem emtJ_look {S : List Nat} {cells : List Nat} {P : tf_P} (hi : emN A sg f T) (hS : tS A S) (h : tJ A f (vsO A S) cells P) : ∀ d k, k + d = (fm A (vsO A S)).length → (∀ j w, j < k → (fm A (vsO A S))[j]? = some w → gn A S (rn_c A (mtf A w)) = true) → ((fm A (vsO A S)).drop k).find? (fun v => !gn A S (rn_c A (mtf A v))) = none ∧ (tf_look P d k).1 = none ∨ ∃ j v, (fm A (vsO A S))[j]? = some v ∧ ((fm A (vsO A S)).drop k).find? (fun v => !gn A S (rn_c A (mtf A v))) = some v ∧ tf_look P d k = (some (lbv A f (mtf A v)), j + 1) ∧ ∀ i w, i < j → (fm A (vsO A S))[i]? = some w → gn A S (rn_c A (mtf A w)) = true := by
  intro d
  induction d with
  | zero =>
    intro k hk hc
    refine Or.inl ⟨?_, rfl⟩
    rw [List.drop_of_length_le (by omega)]
    rfl
  | succ d ih =>
    intro k hk hc
    have hkl : k < (fm A (vsO A S)).length := by omega
    have e0 : (fm A (vsO A S))[k]? = some (fm A (vsO A S))[k] := List.getElem?_eq_getElem hkl
    have ed := List.drop_eq_getElem_cons hkl
    generalize hvv : (fm A (vsO A S))[k] = v at e0 ed
    have hvm : v ∈ vsO A S := fm_mem _ (List.mem_of_getElem? e0)
    have hv := h.2.2.2.2.2 v hvm
    have hnam := (h.2.1 k v e0).1
    have hg := (h.2.2.2.1 v hv).mpr hvm
    obtain ⟨m1, m2, m3, m4⟩ := em_mt hi hv
    have hgm := h.2.2.2.1 (mtf A v) m1
    have hgv := gn_vs hS m1
    have hl := em_hf hi hv
    have hu := uns_lt hi.1 hv
    have hlab : lbv A f v = 2 * P.nam k + uns A v := by rw [hnam]; rfl
    have hm0 : mt (2 * P.nam k) = 2 * P.nam k + 1 := by
      unfold mt
      rw [if_pos (by omega)]
    have hm1 : mt (2 * P.nam k + 1) = 2 * P.nam k := by
      unfold mt
      rw [if_neg (by omega)]
      rfl
    have hu2 : (lbv A f v = 2 * P.nam k ∧ lbv A f (mtf A v) = 2 * P.nam k + 1) ∨ (lbv A f v = 2 * P.nam k + 1 ∧ lbv A f (mtf A v) = 2 * P.nam k) := by
      rcases Nat.lt_or_ge (uns A v) 1 with h9 | h9
      · have e9 : uns A v = 0 := by omega
        rw [m3, hlab, e9, Nat.add_zero]
        exact Or.inl ⟨rfl, hm0⟩
      · have e9 : uns A v = 1 := by omega
        rw [m3, hlab, e9]
        exact Or.inr ⟨rfl, hm1⟩
    rw [ed, List.find?_cons, tf_look]
    unfold o_gn at hg hgm
    by_cases hp : gn A S (rn_c A (mtf A v)) = true
    · -- both visits gone
      have hgm2 := hgm.mpr (hgv.mp hp)
      have b1 : ¬ P.gone / 2 ^ (2 * P.nam k) % 2 = 0 ∧ ¬ P.gone / 2 ^ (2 * P.nam k + 1) % 2 = 0 := by
        rcases hu2 with ⟨q1, q2⟩ | ⟨q1, q2⟩
        · rw [q1] at hg
          rw [q2] at hgm2
          exact ⟨by omega, by omega⟩
        · rw [q1] at hg
          rw [q2] at hgm2
          exact ⟨by omega, by omega⟩
      rw [if_neg b1.1, if_neg b1.2, show (!gn A S (rn_c A (mtf A v))) = false from by rw [hp]; rfl]
      refine ih (k + 1) (by omega) (fun j w hj e => ?_)
      by_cases e9 : j = k
      · rw [e9, e0] at e
        cases e
        exact hp
      · exact hc j w (by omega) e
    · have hp2 : gn A S (rn_c A (mtf A v)) = false := by
        cases h9 : gn A S (rn_c A (mtf A v))
        · rfl
        · exact absurd h9 hp
      have hgm2 : P.gone / 2 ^ lbv A f (mtf A v) % 2 = 0 := by
        have : ¬ P.gone / 2 ^ lbv A f (mtf A v) % 2 = 1 := fun h9 => hp (hgv.mpr (hgm.mp h9))
        omega
      rw [show (!gn A S (rn_c A (mtf A v))) = true from by rw [hp2]; rfl]
      refine Or.inr ⟨k, v, e0, rfl, ?_, hc⟩
      rcases hu2 with ⟨q1, q2⟩ | ⟨q1, q2⟩
      · rw [q1] at hg
        rw [q2] at hgm2 ⊢
        rw [if_neg (by omega), if_pos hgm2]
      · rw [q2] at hgm2 ⊢
        rw [if_pos hgm2]
theorem emtJ_out (hi : emN A sg f T) : ∀ (d fu : Nat) (S : List Nat) (k : Nat) (P : tf_P), tS A S → tJ A f (vsO A S) (tks A sg (vsO A S) S) P → rem (gn A S) (fun _ => 1) A.length ≤ d → rem (gn A S) (fun _ => 1) A.length ≤ fu → k ≤ (fm A (vsO A S)).length → (∀ j w, j < k → (fm A (vsO A S))[j]? = some w → gn A S (rn_c A (mtf A w)) = true) → tJ A f (vsO A (trF A fu S)) (tks A sg (vsO A (trF A fu S)) (trF A fu S)) (tf_out T.2.2.2 T.2.2.1.1 d (tf_look P (P.names - k) k).1 (tf_look P (P.names - k) k).2 P) := by
  have hd := wkF_ok hi.1
  intro d
  induction d with
  | zero =>
    intro fu S k P hS hJ hr1 hr2 hk hc
    have hx : nxS A S = none := by
      cases hx : nxS A S with
      | none => rfl
      | some w =>
        obtain ⟨h1, h2, -⟩ := nxS_step hd hS hx
        have hw : w < A.flatten.length := h1.2 w (by simp)
        have h3 := rem_zero (g := gn A S) A.length (by omega) (rn_c A w) (rn_c_in A w hw).1
        rw [h2] at h3
        cases h3
    rw [trF_none hx]
    exact hJ
  | succ d ih =>
    intro fu S k P hS hJ hr1 hr2 hk hc
    have hfind : ((fm A (vsO A S)).drop k).find? (fun v => !gn A S (rn_c A (mtf A v))) = (fm A (vsO A S)).find? (fun v => !gn A S (rn_c A (mtf A v))) := by
      have : ((fm A (vsO A S)).take k ++ (fm A (vsO A S)).drop k).find? (fun v => !gn A S (rn_c A (mtf A v))) = ((fm A (vsO A S)).drop k).find? (fun v => !gn A S (rn_c A (mtf A v))) := by
        rw [List.find?_append]
        have h9 : ((fm A (vsO A S)).take k).find? (fun v => !gn A S (rn_c A (mtf A v))) = none := by
          rw [List.find?_eq_none]
          intro w hw h8
          obtain ⟨j, hj⟩ := List.getElem?_of_mem hw
          rw [List.getElem?_take] at hj
          by_cases h7 : j < k
          · rw [if_pos h7] at hj
            have := hc j w h7 hj
            rw [this] at h8
            cases h8
          · rw [if_neg h7] at hj
            cases hj
        rw [h9]
        rfl
      rw [List.take_append_drop] at this
      exact this.symm
    have hl := emtJ_look hi hS hJ ((fm A (vsO A S)).length - k) k (by omega) hc
    rw [hJ.1]
    rcases hl with ⟨l1, l2⟩ | ⟨j, v, l1, l2, l3, l4⟩
    · rw [hfind] at l1
      have hx : nxS A S = none := by
        unfold nxS
        rw [l1]
        rfl
      rw [trF_none hx, l2]
      exact hJ
    · rw [hfind] at l2
      have hx : nxS A S = some (mtf A v) := by
        unfold nxS
        rw [l2]
        rfl
      obtain ⟨h1, h2, -⟩ := nxS_step hd hS hx
      have hw : mtf A v < A.flatten.length := h1.2 _ (by simp)
      have hrs := rem_st (f := fun _ => 1) h2 (fun b => gn_app (A := A) (S := S) (w := mtf A v) (b := b)) A.length (rn_c_in A _ hw).1
      obtain ⟨fu1, rfl⟩ : ∃ fu1, fu = fu1 + 1 := ⟨fu - 1, by omega⟩
      rw [trF_some hx, l3]
      have hJ2 := emtJ_S hi hw hJ
      have hpre := fm_pre (A := A) (vsO A S) (rgl A (mtf A v))
      rw [← vsO_app] at hpre
      obtain ⟨us, hus⟩ := hpre
      have hjl := (List.getElem?_eq_some_iff.mp l1).1
      refine ih fu1 (S ++ [mtf A v]) (j + 1) _ h1 hJ2 (by omega) (by omega) ?_ (fun i w hij e => ?_)
      · rw [hus, List.length_append]
        omega
      · rw [hus, List.getElem?_append_left (by omega)] at e
        rw [gn_app]
        by_cases e9 : i = j
        · rw [e9, l1] at e
          cases e
          rw [decide_eq_true rfl, Bool.or_true]
        · rw [l4 i w (by omega) e]
          rfl
theorem em_code {s : Nat} (hi : emN A sg f T) (hA : A.length ≤ 23) (hs : s < A.flatten.length) : tfL (tf_code T.2.2.2 T.2.2.1.1 (lbv A f s)) = cdv A sg s := by
  have h0 : tJ A f (vsO A []) (tks A sg (vsO A []) []) tf_0 := by
    refine ⟨rfl, fun k w e => ?_, fun v hv _ => rfl, fun v hv => ?_, rfl, fun v hv => by cases hv⟩
    · rw [show fm A (vsO A []) = [] from rfl, List.getElem?_nil] at e
      cases e
    · refine ⟨fun h9 => ?_, fun h9 => by cases h9⟩
      have h8 : 0 / 2 ^ lbv A f v % 2 = 1 := h9
      rw [Nat.zero_div] at h8
      omega
  have h1 := emtJ_S hi hs h0
  have hts : tS A [s] := ⟨List.nodup_cons.mpr ⟨fun h => (by cases h), List.nodup_nil⟩, fun t ht => by rw [List.mem_singleton.mp ht]; exact hs⟩
  have hrs := rem_st (g := gn A []) (f := fun _ => 1) (c := rn_c A s) rfl (fun b => gn_app (A := A) (S := []) (w := s) (b := b)) A.length (rn_c_in A _ hs).1
  have hr1 := rem_1 A.length
  have hr0 : rem (gn A []) (fun _ => 1) A.length = A.length := (rem_congr A.length (fun c _ => rfl)).trans hr1
  have h2 := emtJ_out hi 23 A.length ([] ++ [s]) 0 _ hts h1 (by omega) (by omega) (Nat.zero_le _) (fun j w hj _ => absurd hj (Nat.not_lt_zero _))
  have h3 := h2.2.2.2.2.1
  exact h3
end XEM
end
section
/-! 99zzzzzzzzzzzzv.xsu4 -/
/-! summands: isParted, exactly (made from parted by an edit) -/
section XSP
variable {z : ow_MS} {A : rn_L} {sg : Nat → Bool}
def gdM (A : rn_L) (c g h : Nat) (M : Nat → Nat) : Prop := (∀ v, v < A.flatten.length → M (mtf A v) = M v) ∧ (∀ u v, u < A.flatten.length → v < A.flatten.length → rn_c A u = rn_c A v → rn_c A u ≠ c → M u = M v) ∧ ∀ v, g < v → v ≤ h → M v = M h
def rEa2 (y : ow_MS) (A : rn_L) (c g h : Nat) : Prop := rEa y A c g h ∧ ∀ M, gdM A c g h M → ∀ v, v < A.flatten.length → y.2.1 38 v = 1 → M v = M h
def unU (y : ow_MS) (A : rn_L) (c : Nat) : Prop := ∀ a b, a < A.flatten.length → b < A.flatten.length → rn_c A a = rn_c A b → rn_c A a ≠ c → y.2.1 38 a = y.2.1 38 b
def rEa3 (y : ow_MS) (A : rn_L) (c g h : Nat) : Prop := rEa2 y A c g h ∧ unU y A c
theorem xp_parted {c g h : Nat} (hO : oNet z 1000 A sg) (hc : c < A.length) (hg1 : rn_b A c ≤ g) (hgh : g < h) (hh : h < rn_b A (c + 1)) : Te (fun K => qe_X13_isParted K 1000 (nI c) (nI g) (nI h) z) (fun r => fr (fun i => i = 38) z r.2 ∧ (r.1 = 0 ∨ r.1 = 1) ∧ (r.1 = 1 → rEa r.2 A c g h ∧ (∀ v, v < A.flatten.length → r.2.2.1 38 v = 1 → r.2.2.1 38 (mtf A v) = 1) ∧ unU r.2 A c) ∧ (r.1 = 0 → ∀ M, gdM A c g h M → ∃ u, u < A.flatten.length ∧ rn_c A u = c ∧ ¬ (g < u ∧ u ≤ h) ∧ M u = M h)) := by
  have hl := hO.len
  have hC := hO.2.2.2
  have hd := wkF_ok hO.wk
  have hbl := rn_b_le A (c + 1)
  obtain ⟨V, hV⟩ : ∃ V, V = A.flatten.length := ⟨_, rfl⟩
  have oY : ∀ {y : ow_MS}, fr (fun i => i = 38) z y → oNet y 1000 A sg := fun hf => oNet_fr hf (fun i hi => by omega) hO
  let Q : Int32 × ow_MS → Prop := fun r => fr (fun i => i = 38) z r.2 ∧ (r.1 = 0 ∨ r.1 = 1) ∧ (r.1 = 1 → rEa r.2 A c g h ∧ (∀ v, v < A.flatten.length → r.2.2.1 38 v = 1 → r.2.2.1 38 (mtf A v) = 1) ∧ unU r.2 A c) ∧ (r.1 = 0 → ∀ M, gdM A c g h M → ∃ u, u < A.flatten.length ∧ rn_c A u = c ∧ ¬ (g < u ∧ u ≤ h) ∧ M u = M h)
  have pass : ∀ (Z0 : Nat), (∀ (y : ow_MS), fr (fun i => i = 38) z y → rEa3 y A c g h → zer (y.2.1 38) V < Z0 → Tt (fun K i => q_X13_isParted K i 4 (nI c) (nI g) (nI h) 1 0 0 0 1000 0 0 y) Q) → ∀ (d v : Nat) (x5 : Int32) (y : ow_MS), v + d = V → fr (fun i => i = 38) z y → rEa3 y A c g h → (x5 = 0 ∧ zer (y.2.1 38) V ≤ Z0 ∧ (∀ v', v' < v → y.2.1 38 v' = 1 → y.2.1 38 (mtf A v') = 1) ∨ x5 = 1 ∧ zer (y.2.1 38) V < Z0) → Tt (fun K i => q_X13_isParted K i 5 (nI c) (nI g) (nI h) x5 (nI v) 0 0 1000 0 0 y) Q := by
    intro Z0 hag d
    induction d with
    | zero =>
      intro v x5 y hv hf hE hx
      have o2 := oY hf
      refine u_X13_isParted_5 ?_; unfold qm_X13_isParted_5
      refine w_rdF o2.1.V (w_leT (by omega) (by omega) ?_)
      rcases hx with ⟨e, h1, h2⟩ | ⟨e, h1⟩
      · subst e
        refine u_X13_isParted_4 ?_; unfold qm_X13_isParted_4
        refine w_ifT rfl (w_okZ (Or.inr rfl) (w_some ⟨hf, Or.inr rfl, fun _ => ⟨hE.1.1, fun v' hv' h9 => h2 v' (by omega) h9, hE.2⟩, fun h9 => absurd h9 (show ¬ ((1 : Int32) = 0) by decide)⟩))
      · subst e
        exact hag y hf hE h1
    | succ d ih =>
      intro v x5 y hv hf hE hx
      have o2 := oY hf
      have hvl : v < A.flatten.length := by omega
      have hml := mtf_lt hd hvl
      have c7 : ∀ (x9 : Int32) (y2 : ow_MS), fr (fun i => i = 38) z y2 → rEa3 y2 A c g h → (x9 = 0 ∧ zer (y2.2.1 38) V ≤ Z0 ∧ (∀ v', v' < v + 1 → y2.2.1 38 v' = 1 → y2.2.1 38 (mtf A v') = 1) ∨ x9 = 1 ∧ zer (y2.2.1 38) V < Z0) → Tt (fun K i => q_X13_isParted K i 7 (nI c) (nI g) (nI h) x9 (nI v) 0 0 1000 0 0 y2) Q := by
        intro x9 y2 hf2 hE2 hx2
        refine u_X13_isParted_7 ?_; unfold qm_X13_isParted_7
        rw [nI_1]
        exact ih (v + 1) x9 y2 (by omega) hf2 hE2 hx2
      -- nothing to do at v
      have stay : (y.2.1 38 v = 1 → y.2.1 38 (mtf A v) = 1) → Tt (fun K i => q_X13_isParted K i 7 (nI c) (nI g) (nI h) x5 (nI v) 0 0 1000 0 0 y) Q := by
        intro hst
        refine c7 x5 y hf hE (hx.imp (fun ⟨e, h1, h2⟩ => ⟨e, h1, fun v' hv' h9 => ?_⟩) id)
        by_cases hvv : v' = v
        · rw [hvv] at h9 ⊢
          exact hst h9
        · exact h2 v' (by omega) h9
      refine u_X13_isParted_5 ?_; unfold qm_X13_isParted_5
      refine w_rdF o2.1.V (w_leF (by omega) (by omega) (w_rdI ml38 rfl (by omega) rfl (w_if (fun h0 => stay (fun h9 => by rw [h0] at h9; exact absurd h9 (by decide))) (fun h0 => w_rdI (pl7 pn1) rfl (by omega) (lk_m hd o2.1 hvl) (w_rdI ml38 rfl (by omega) rfl (w_if (fun hm0 => ?_) (fun hm0 => stay (fun _ => ((hE.1.1 _ hml).1.resolve_left hm0)))))))))
      obtain ⟨k1, k2, k3⟩ := rn_c_in A (mtf A v) hml
      obtain ⟨k, hk⟩ : ∃ k, k = rn_c A (mtf A v) := ⟨_, rfl⟩
      rw [← hk] at k1 k2 k3
      have hbk := rn_b_le A (k + 1)
      refine w_rdI (pl7 pn1) rfl (by omega) (lk_m hd o2.1 hvl) (w_rdI (pl8 pn1) rfl (by omega) ((lk_c o2.1 hml).trans (by rw [← hk])) (w_eqN (by omega) (by omega) (fun hkc => w_okZ (Or.inl rfl) (w_some ⟨hf, Or.inl rfl, fun h9 => absurd h9 (show ¬ ((0 : Int32) = 1) by decide), fun _ M hM => ⟨mtf A v, hml, hk.symm.trans hkc, fun h9 => ?_, (hM.1 v hvl).trans (hE.1.2 M hM v hvl ((hE.1.1 v hvl).1.resolve_left h0))⟩⟩)) (fun hkc => w_rdI (pl3 pn1) rfl (by omega) (lk_b o2.1 (by omega)) ?_)))
      · have := ((hE.1.1 _ hml).2 (hk.symm.trans hkc)).mpr h9
        rw [hm0] at this
        exact absurd this (by decide)
      -- the whole component k
      have fill : ∀ (d u : Nat) (y2 : ow_MS), u + d = rn_b A (k + 1) → rn_b A k ≤ u → fr (fun i => i = 38) z y2 → rEa2 y2 A c g h → (∀ v', v' < A.flatten.length → y2.2.1 38 v' = if rn_c A v' = k ∧ v' < u then 1 else y.2.1 38 v') → (zer (y2.2.1 38) V ≤ zer (y.2.1 38) V ∧ (mtf A v < u → zer (y2.2.1 38) V < zer (y.2.1 38) V) ∧ (u ≤ mtf A v → y2.2.1 38 (mtf A v) = 0)) → Tt (fun K i => q_X13_isParted K i 6 (nI c) (nI g) (nI h) x5 (nI v) (nI k) (nI u) 1000 0 0 y2) Q := by
        intro d
        induction d with
        | zero =>
          intro u y2 hu hlo hf2 hE2 hU ⟨z1, z2, z3⟩
          have o3 := oY hf2
          refine u_X13_isParted_6 ?_; unfold qm_X13_isParted_6
          rw [nI_1]
          refine w_rdI (pl3 pn1) rfl (by omega) (lk_b o3.1 (by omega)) (w_leT (by omega) (by omega) (c7 1 y2 hf2 ⟨hE2, fun a b ha hb e1 e2 => ?_⟩ (Or.inr ⟨rfl, ?_⟩)))
          · rw [hU a ha, hU b hb]
            by_cases h9 : rn_c A a = k
            · have a1 := rn_c_in A a ha
              have b1 := rn_c_in A b hb
              rw [← e1, h9] at b1
              rw [h9] at a1
              rw [if_pos ⟨h9, by omega⟩, if_pos ⟨e1.symm.trans h9, by omega⟩]
            · rw [if_neg (fun h8 => h9 h8.1), if_neg (fun h8 => h9 (e1.trans h8.1))]
              exact hE.2 a b ha hb e1 e2
          have := z2 (by omega)
          rcases hx with ⟨_, h1, _⟩ | ⟨_, h1⟩ <;> omega
        | succ d ihf =>
          intro u y2 hu hlo hf2 hE2 hU ⟨z1, z2, z3⟩
          have o3 := oY hf2
          have hul : u < A.flatten.length := by omega
          have huc : rn_c A u = k := rn_c_of A k u hlo (by omega)
          refine u_X13_isParted_6 ?_; unfold qm_X13_isParted_6
          rw [nI_1, nI_1]
          refine w_rdI (pl3 pn1) rfl (by omega) (lk_b o3.1 (by omega)) (w_leF (by omega) (by omega) (w_wrZ ml38 rfl (by omega) (ihf (u + 1) _ (by omega) (by omega) (fr_I2 hf2 rfl) ⟨fun v' hv' => ?_, fun M hM v' hv' h1 => ?_⟩ (fun v' hv' => ?_) ?_)))
          · obtain ⟨e1, e2⟩ := hE2.1 v' hv'
            by_cases hvu : v' = u
            · rw [hvu]
              refine ⟨Or.inr po_usI_at, fun e9 => ?_⟩
              exact absurd (huc.symm.trans e9) (fun e8 => hkc e8)
            · rw [po_usI_ne hvu]
              exact ⟨e1, e2⟩
          · by_cases hvu : v' = u
            · rw [hvu]
              rw [hM.2.1 u (mtf A v) hul hml (huc.trans hk) (by rw [huc]; exact hkc), hM.1 v hvl]
              exact hE.1.2 M hM v hvl ((hE.1.1 v hvl).1.resolve_left h0)
            · rw [po_usI_ne hvu] at h1
              exact hE2.2 M hM v' hv' h1
          · by_cases hvu : v' = u
            · rw [hvu, po_usI_at, if_pos ⟨huc, by omega⟩]
              rfl
            · rw [po_usI_ne hvu, hU v' hv']
              by_cases h9 : rn_c A v' = k ∧ v' < u
              · rw [if_pos h9, if_pos ⟨h9.1, by omega⟩]
              · rw [if_neg h9, if_neg (fun h8 => h9 ⟨h8.1, by omega⟩)]
          · have er : (usI y2 38 u (vp_nar .boolean 1)).2.1 38 = upd (y2.2.1 38) u 1 := po_usI_row
            rw [er]
            have hle := zer_le (r := y2.2.1 38) (u := u) V
            refine ⟨by omega, fun h9 => ?_, fun h9 => ?_⟩
            · by_cases hum : u = mtf A v
              · have := zer_lt (r := y2.2.1 38) (u := u) (by rw [hum]; exact z3 (by omega)) V (by omega)
                omega
              · have := z2 (by omega)
                omega
            · rw [pk_un (by omega)]
              exact z3 (by omega)
      exact fill (rn_b A (k + 1) - rn_b A k) (rn_b A k) y (by omega) (Nat.le_refl _) hf hE.1 (fun v' hv' => by
        rw [if_neg]
        rintro ⟨h8, h9⟩
        have := (rn_c_in A v' hv').2.1
        rw [h8] at this
        omega) ⟨Nat.le_refl _, fun h9 => by omega, fun _ => hm0⟩
  have wh : ∀ (u : Nat) (y : ow_MS), zer (y.2.1 38) V ≤ u → fr (fun i => i = 38) z y → rEa3 y A c g h → Tt (fun K i => q_X13_isParted K i 4 (nI c) (nI g) (nI h) 1 0 0 0 1000 0 0 y) Q := by
    intro u
    induction u with
    | zero =>
      intro y hu hf hE
      refine u_X13_isParted_4 ?_; unfold qm_X13_isParted_4
      exact w_ifF (by decide) (pass 0 (fun y2 _ _ h9 => by omega) V 0 0 y (by omega) hf hE (Or.inl ⟨rfl, hu, fun v' hv' => by omega⟩))
    | succ u ih =>
      intro y hu hf hE
      refine u_X13_isParted_4 ?_; unfold qm_X13_isParted_4
      exact w_ifF (by decide) (pass (u + 1) (fun y2 f2 e2 h9 => ih y2 (by omega) f2 e2) V 0 0 y (by omega) hf hE (Or.inl ⟨rfl, hu, fun v' hv' => by omega⟩))
  have ini : ∀ (d v : Nat) (y : ow_MS), v + d = V → fr (fun i => i = 38) z y → (∀ v', v' < v → (y.2.1 38 v' = 0 ∨ y.2.1 38 v' = 1) ∧ (y.2.1 38 v' = 1 ↔ g < v' ∧ v' ≤ h)) → Tt (fun K i => q_X13_isParted K i 1 (nI c) (nI g) (nI h) (nI v) 0 0 0 1000 0 0 y) Q := by
    intro d
    induction d with
    | zero =>
      intro v y hv hf hr
      refine u_X13_isParted_1 ?_; unfold qm_X13_isParted_1
      exact w_rdF (oY hf).1.V (w_leT (by omega) (by omega) (wh _ y (Nat.le_refl _) hf ⟨⟨fun v' hv' => ⟨(hr v' (by omega)).1, fun _ => (hr v' (by omega)).2⟩, fun M hM v' hv' h1 => by
        have h2 := (hr v' (by omega)).2.mp h1
        exact hM.2.2 v' h2.1 h2.2⟩, fun a b ha hb e1 e2 => by
        have z9 : ∀ a, a < A.flatten.length → rn_c A a ≠ c → y.2.1 38 a = 0 := fun a ha hn => (hr a (by omega)).1.resolve_right (fun h1 => by
          have h2 := (hr a (by omega)).2.mp h1
          exact hn (rn_c_of A c a (by omega) (by omega)))
        rw [z9 a ha e2, z9 b hb (by rw [← e1]; exact e2)]⟩))
    | succ d ih =>
      intro v y hv hf hr
      have c3 : ∀ (b : Bool), (b = true ↔ g < v ∧ v ≤ h) → Tt (fun K i => q_X13_isParted K i 3 (nI c) (nI g) (nI h) (nI v) 0 0 0 1000 (bZ b) (nI v) y) Q := by
        intro b hb
        refine u_X13_isParted_3 ?_; unfold qm_X13_isParted_3
        rw [nI_1]
        refine w_wrZ ml38 rfl (by omega) (ih (v + 1) _ (by omega) (fr_I2 hf rfl) (fun v' hv' => ?_))
        by_cases hvv : v' = v
        · rw [hvv, po_usI_at]
          cases b with
          | true => exact ⟨Or.inr rfl, fun _ => hb.mp rfl, fun _ => rfl⟩
          | false => exact ⟨Or.inl rfl, fun h9 => absurd h9 (by decide), fun h9 => absurd (hb.mpr h9) (by decide)⟩
        · rw [po_usI_ne hvv]
          exact hr v' (by omega)
      have c2 : ¬ (g < v ∧ v ≤ h) → Tt (fun K i => q_X13_isParted K i 2 (nI c) (nI g) (nI h) (nI v) 0 0 0 1000 (nI v) 0 y) Q := by
        intro hno
        refine u_X13_isParted_2 ?_; unfold qm_X13_isParted_2
        exact c3 false ⟨fun h9 => absurd h9 (by decide), fun h9 => absurd h9 hno⟩
      refine u_X13_isParted_1 ?_; unfold qm_X13_isParted_1
      exact w_rdF (oY hf).1.V (w_leF (by omega) (by omega) (w_le (by omega) (by omega) (fun h9 => c2 (by omega)) (fun h9 => w_lt (by omega) (by omega) (fun h8 => c2 (by omega)) (fun h8 => c3 true ⟨fun _ => ⟨h9, h8⟩, fun _ => rfl⟩))))
  refine e_X13_isParted ?_
  refine u_X13_isParted_0 ?_; unfold qm_X13_isParted_0
  exact ini V 0 z (by omega) fr_rf (fun v' hv' => by omega)
end XSP
end
section
/-! 99zzzzzzzzzzzzw.xsu5 -/
/-! summands: waitsFor, exactly -/
def wfB (A : rn_L) (σ : Nat → Bool) (c i : Nat) : List Nat := (List.range i).filter (fun j => decide (rn_b A c ≤ j) && σ j)
/-- the rings of the visits that σ takes, by flat numbers -/
def wfI (A : rn_L) (σ : Nat → Bool) : Nat → List (List Nat)
  | 0 => []
  | c + 1 => if (wfB A σ c (rn_b A (c + 1))).isEmpty then wfI A σ c else wfI A σ c ++ [wfB A σ c (rn_b A (c + 1))]
def wfW (A : rn_L) (σ : Nat → Bool) (c : Nat) : rn_L := (wfI A σ c).map (List.map (vAt A))
section XSQ
variable {z : ow_MS} {A : rn_L} {sg : Nat → Bool} {σ : Nat → Bool}
theorem wfB_0 {c : Nat} : wfB A σ c (rn_b A c) = [] := by
  unfold wfB
  refine List.filter_eq_nil_iff.mpr (fun j hj => ?_)
  have := List.mem_range.mp hj
  rw [decide_eq_false (by omega), Bool.false_and]
  decide
theorem wfB_s {c i : Nat} (h : rn_b A c ≤ i) : wfB A σ c (i + 1) = if σ i then wfB A σ c i ++ [i] else wfB A σ c i := by
  unfold wfB
  rw [List.range_succ, List.filter_append]
  cases e : σ i with
  | true =>
    rw [List.filter_cons_of_pos (by rw [decide_eq_true h, e]; rfl), if_pos rfl]
    rfl
  | false =>
    rw [List.filter_cons_of_neg (by rw [decide_eq_true h, e]; decide), if_neg (by decide), List.filter_nil, List.append_nil]
theorem wfB_m {c i j : Nat} : j ∈ wfB A σ c i ↔ j < i ∧ rn_b A c ≤ j ∧ σ j = true := by
  unfold wfB
  rw [List.mem_filter, List.mem_range, Bool.and_eq_true, decide_eq_true_iff]
theorem wfI_fl {c : Nat} : (wfI A σ (c + 1)).flatten = (wfI A σ c).flatten ++ wfB A σ c (rn_b A (c + 1)) := by
  rw [wfI]
  split
  · rename_i h
    rw [List.isEmpty_iff.mp h, List.append_nil]
  · rw [List.flatten_append, List.flatten_cons, List.flatten_nil, List.append_nil]
theorem wfI_m {j : Nat} : ∀ c, j ∈ (wfI A σ c).flatten ↔ j < rn_b A c ∧ σ j = true
  | 0 => by
    have : rn_b A 0 = 0 := rfl
    rw [this]
    exact ⟨fun h => absurd h (List.not_mem_nil), fun h => absurd h.1 (Nat.not_lt_zero _)⟩
  | c + 1 => by
    have := rn_b_mono A c
    rw [wfI_fl, List.mem_append, wfI_m c, wfB_m]
    constructor
    · rintro (h | h)
      · exact ⟨by omega, h.2⟩
      · exact ⟨h.1, h.2.2⟩
    · rintro ⟨h1, h2⟩
      by_cases e : j < rn_b A c
      · exact Or.inl ⟨e, h2⟩
      · exact Or.inr ⟨h1, by omega, h2⟩
theorem wfI_nd : ∀ c, (wfI A σ c).flatten.Nodup
  | 0 => List.nodup_nil
  | c + 1 => by
    rw [wfI_fl]
    refine List.nodup_append.mpr ⟨wfI_nd c, nodup_filter List.nodup_range, fun a ha b hb e => ?_⟩
    have h1 := (wfI_m c).mp ha
    have h2 := wfB_m.mp hb
    omega
theorem wfI_n : ∀ c, (wfI A σ c).length ≤ c
  | 0 => Nat.le_refl _
  | c + 1 => by
    have := wfI_n c
    rw [wfI]
    split
    · omega
    · rw [List.length_append, List.length_cons, List.length_nil]
      omega
theorem wf_len {c i : Nat} (hi : rn_b A c ≤ i) : (wfI A σ c).flatten.length + (wfB A σ c i).length ≤ i := by
  have h1 : ((wfI A σ c).flatten ++ wfB A σ c i).Nodup := by
    refine List.nodup_append.mpr ⟨wfI_nd c, nodup_filter List.nodup_range, fun a ha b hb e => ?_⟩
    have h1 := (wfI_m c).mp ha
    have h2 := wfB_m.mp hb
    omega
  have h2 := nodup_le _ (List.range i) h1 (fun j hj => by
    rw [List.mem_range]
    rcases List.mem_append.mp hj with h | h
    · have := ((wfI_m c).mp h).1
      omega
    · exact (wfB_m.mp h).1)
  rw [List.length_append, List.length_range] at h2
  exact h2
/-- what is closed under mates may stand alone -/
theorem wkF_sub {C : List (List Nat)} {P : Nat → Prop} (hF : wkF A.flatten) (hP : ∀ j, P j → j < A.flatten.length) (hc : ∀ j, P j → P (mtf A j)) (h3 : C.flatten.Nodup) (h4 : ∀ j, j ∈ C.flatten ↔ P j) : wkF (C.map (List.map (vAt A))).flatten := by
  have hd := wkF_ok hF
  have inj : ∀ i j, i < A.flatten.length → j < A.flatten.length → vAt A i = vAt A j → i = j := fun i j hi hj e => nodup_at hF.1 (vAt_of hi) (by rw [e]; exact vAt_of hj)
  refine ⟨?_, fun p hp => ?_⟩
  · rw [fl_map]
    exact nodup_map h3 (fun i j hi hj e => inj i j (hP i ((h4 i).mp hi)) (hP j ((h4 j).mp hj)) e)
  · rw [fl_map] at hp ⊢
    obtain ⟨j, hj, e⟩ := List.mem_map.mp hp
    have hjP := (h4 j).mp hj
    have hjl := hP j hjP
    obtain ⟨g1, g2, -⟩ := hF.2 _ (List.mem_of_getElem? (vAt_of hjl))
    rw [← e]
    refine ⟨g1, g2, ?_⟩
    have hm := mtf_mt hd hjl
    obtain ⟨n1, p1, p2, a1, a2, a3⟩ := hm
    rw [vAt_of hjl] at a1
    cases a1
    have hml := hP _ (hc j hjP)
    have e2 := vAt_eq a2
    obtain ⟨-, k2, -⟩ := hF.2 _ (List.mem_of_getElem? a2)
    refine List.mem_map.mpr ⟨mtf A j, (h4 _).mpr (hc j hjP), ?_⟩
    have hne : (vAt A j).2 ≠ p2.2 := fun e9 => n1 (inj j (mtf A j) hjl hml (by rw [e2]; exact Prod.ext a3 e9))
    rw [e2]
    exact Prod.ext a3.symm (by show p2.2 = 1 - (vAt A j).2; omega)
theorem wfW_wk (hF : wkF A.flatten) (hc : ∀ j, j < A.flatten.length → σ j = true → σ (mtf A j) = true) : wkF (wfW A σ A.length).flatten := wkF_sub (P := fun j => j < A.flatten.length ∧ σ j = true) hF (fun j h => h.1) (fun j h => ⟨mtf_lt (wkF_ok hF) h.1, hc j h.1 h.2⟩) (wfI_nd _) (fun j => by rw [wfI_m, rn_b_len])
theorem xp_waits {n at9 : Nat} {b : Bool} (hn : mw_net n) (hn3 : n ≠ 3000) (ha : at9 < 16) (hO : oNet z n A sg) (hcl : ∀ v, v < A.flatten.length → z.2.1 38 v = bZ b → z.2.1 38 (mtf A v) = bZ b) : Te (fun K => qe_X13_waitsFor K n (bZ b) (nI at9) z) (fun z1 => (∃ m P, mk (wfW A (fun v => decide (z.2.1 38 v = bZ b)) A.length) m P ∧ rc_At z1 37 (32 * at9) (pkR (wfW A (fun v => decide (z.2.1 38 v = bZ b)) A.length) sg m P)) ∧ fr (fun g => 2 ≤ g ∧ g ≤ 9 ∨ g = 37 ∨ 3001 ≤ g ∧ g ≤ 3013) z z1 ∧ ∀ i, i < 32 * at9 ∨ 32 * at9 + 32 ≤ i → z1.2.1 37 i = z.2.1 37 i) := by
  have hmn := net_mod hn
  have hl := hO.len
  have hC := hO.2.2.2
  have hd := wkF_ok hO.wk
  let σ : Nat → Bool := fun v => decide (z.2.1 38 v = bZ b)
  let Q : ow_MS → Prop := fun z1 => (∃ m P, mk (wfW A σ A.length) m P ∧ rc_At z1 37 (32 * at9) (pkR (wfW A σ A.length) sg m P)) ∧ fr (fun g => 2 ≤ g ∧ g ≤ 9 ∨ g = 37 ∨ 3001 ≤ g ∧ g ≤ 3013) z z1 ∧ ∀ i, i < 32 * at9 ∨ 32 * at9 + 32 ≤ i → z1.2.1 37 i = z.2.1 37 i
  refine e_X13_waitsFor ?_
  refine u_X13_waitsFor_0 ?_; unfold qm_X13_waitsFor_0
  refine w_cs0 (tn_clear pn3) (fun z3 ⟨b3, f3⟩ => w_cs0 (tn_signs pn3 hn (fun e => hn3 e.symm)) (fun z4 ⟨f4, s4⟩ => ?_))
  let I : ow_MS → Prop := fun y => fr (fun g => 3001 ≤ g ∧ g ≤ 3006) z y ∧ ∀ x, x < 40 → y.2.1 3006 x = z.2.1 (n + 6) x
  have oI : ∀ {y : ow_MS}, I y → oNet y n A sg := fun hI => oNet_fr hI.1 (fun g hg => by omega) hO
  have stI : ∀ {P : Nat → Prop} {y y2 : ow_MS}, I y → fr P y y2 → (∀ g, P g → 3001 ≤ g ∧ g ≤ 3005) → I y2 := fun hI hf hP => ⟨fr_tr hI.1 (fr_mono (fun g hg => by have := hP g hg; omega) hf), fun x hx => by rw [(hf 3006 (fun h9 => by have := hP _ h9; omega)).2.1]; exact hI.2 x hx⟩
  have e38 : ∀ {y : ow_MS}, I y → y.2.1 38 = z.2.1 38 := fun hI => (hI.1 38 (by omega)).2.1
  have out : ∀ (k c : Nat) (y : ow_MS), c + k = A.length → I y → rn_At y 3000 (wfW A σ c) [] → Tt (fun K i => q_X13_waitsFor K i 1 (bZ b) (nI at9) (nI c) 0 0 n y) Q := by
    intro k
    induction k with
    | zero =>
      intro c y hc hI hb
      have hce : c = A.length := by omega
      rw [hce] at hb
      have hlen : (wfW A σ A.length).flatten.length ≤ A.flatten.length := by
        have := wf_len (A := A) (σ := σ) (c := A.length) (i := A.flatten.length) (by rw [rn_b_len]; exact Nat.le_refl _)
        unfold wfW
        rw [fl_map, List.length_map]
        omega
      have hn6 : (wfW A σ A.length).length ≤ A.length := by
        unfold wfW
        rw [List.length_map]
        exact wfI_n _
      have hwk : wkF (wfW A σ A.length).flatten := wfW_wk hO.wk (fun j hj h9 => decide_eq_true (hcl j hj (of_decide_eq_true h9)))
      have hsg : rn_sg y 3000 (wfW A σ A.length).flatten sg := fun p hp => by
        unfold wfW at hp
        rw [fl_map] at hp
        obtain ⟨j, hj, e⟩ := List.mem_map.mp hp
        have hj2 := (wfI_m _).mp hj
        rw [rn_b_len] at hj2
        obtain ⟨x1, x2, x3⟩ := hO.cx hj2.1
        rw [← e]
        show y.2.1 3006 (crs A j) = if sg (crs A j) then -1 else 1
        rw [hI.2 _ (by omega)]
        exact x3
      refine u_X13_waitsFor_1 ?_; unfold qm_X13_waitsFor_1
      rw [show (32 : Int32) * nI at9 = nI (32 * at9) from pk_mul 32 at9]
      refine w_rdF (lk_C (oI hI).1) (w_leT (by omega) (by omega) (w_cs0 (tr_pack pn3 (by omega) ml37 (by omega) (by omega) (by omega) (by omega) hwk hb hsg) (fun y2 hy2 => w_some ?_)))
      obtain ⟨m, P, k1, k2, k3, k4, -, -⟩ := hy2
      refine ⟨⟨m, P, k1, k2⟩, fr_tr (fr_mono (fun g hg => by omega) hI.1) (fr_mono (fun g hg => by unfold frQ at hg; omega) k3), fun i hi => ?_⟩
      rw [k4 i hi, (hI.1 37 (by omega)).2.1]
    | succ k ih =>
      intro c y hc hI hb
      have m1 := rn_b_mono A c
      have m2 := rn_b_le A (c + 1)
      have c4 : ∀ (x5 x6 : Int32) (y2 : ow_MS), I y2 → rn_At y2 3000 (wfW A σ (c + 1)) [] → Tt (fun K i => q_X13_waitsFor K i 4 (bZ b) (nI at9) (nI c) x5 x6 n y2) Q := by
        intro x5 x6 y2 hI2 hb2
        refine u_X13_waitsFor_4 ?_; unfold qm_X13_waitsFor_4
        rw [nI_1]
        exact ih (c + 1) y2 (by omega) hI2 hb2
      have inn : ∀ (d i : Nat) (y : ow_MS), i + d = rn_b A (c + 1) → rn_b A c ≤ i → I y → rn_At y 3000 (wfW A σ c) ((wfB A σ c i).map (vAt A)) → Tt (fun K i9 => q_X13_waitsFor K i9 2 (bZ b) (nI at9) (nI c) (nI (wfB A σ c i).length) (nI i) n y) Q := by
        intro d
        induction d with
        | zero =>
          intro i y hi hlo hI hb
          have hie : i = rn_b A (c + 1) := by omega
          rw [hie] at hb ⊢
          have hwl := wf_len (A := A) (σ := σ) m1
          have hwn := wfI_n (A := A) (σ := σ) c
          refine u_X13_waitsFor_2 ?_; unfold qm_X13_waitsFor_2
          rw [nI_1]
          refine w_rdI (pl3 hn) rfl (by omega) (lk_b (oI hI).1 (by omega)) (w_leT (by omega) (Nat.le_refl _) (w_le (b := 0) (by omega) (by omega) (fun h0 => c4 _ _ y hI ?_) (fun h0 => w_cs0 (tn_end pn3 hb (by unfold wfW; rw [List.length_map]; omega)) (fun y2 ⟨g1, g2⟩ => c4 _ _ y2 (stI hI g2 (fun g hg => by omega)) ?_))))
          · have e0 : wfB A σ c (rn_b A (c + 1)) = [] := List.eq_nil_of_length_eq_zero (by omega)
            rw [e0] at hb
            unfold wfW
            rw [wfI, e0, if_pos List.isEmpty_nil]
            exact hb
          · have e0 : ¬ (wfB A σ c (rn_b A (c + 1))).isEmpty = true := fun e => by
              rw [List.isEmpty_iff.mp e] at h0
              exact absurd h0 (by show ¬ (0 < 0); omega)
            unfold wfW
            rw [wfI, if_neg e0, List.map_append]
            exact g1
        | succ d ihd =>
          intro i y hi hlo hI hb
          have hil : i < A.flatten.length := by omega
          have hwl := wf_len (A := A) (σ := σ) hlo
          refine u_X13_waitsFor_2 ?_; unfold qm_X13_waitsFor_2
          rw [nI_1, nI_1]
          refine w_rdI (pl3 hn) rfl (by omega) (lk_b (oI hI).1 (by omega)) (w_leF (by omega) (by omega) (w_rdI ml38 rfl (by omega) (by rw [e38 hI]) (w_if (fun h9 => w_rdI (pl4 hn) rfl (by omega) (lk_cu (oI hI).1 hil).1 (w_rdI (pl5 hn) rfl (by omega) (lk_cu (oI hI).1 hil).2 (w_cs0 (tn_add pn3 hb (by unfold wfW; rw [List.length_append, fl_map, List.length_map, List.length_map]; omega)) (fun y2 ⟨g1, g2⟩ => ?_)))) (fun h9 => ?_))))
          · refine u_X13_waitsFor_3 ?_; unfold qm_X13_waitsFor_3
            rw [nI_1]
            have es : wfB A σ c (i + 1) = wfB A σ c i ++ [i] := by
              rw [wfB_s hlo, if_pos (decide_eq_true h9)]
            have := ihd (i + 1) y2 (by omega) (by omega) (stI hI g2 (fun g hg => by omega)) (by rw [es, List.map_append]; exact g1)
            rw [es, List.length_append] at this
            exact this
          · refine u_X13_waitsFor_3 ?_; unfold qm_X13_waitsFor_3
            rw [nI_1]
            have es : wfB A σ c (i + 1) = wfB A σ c i := by
              rw [wfB_s hlo, if_neg (fun e => h9 (of_decide_eq_true e))]
            have := ihd (i + 1) y (by omega) (by omega) hI (by rw [es]; exact hb)
            rw [es] at this
            exact this
      refine u_X13_waitsFor_1 ?_; unfold qm_X13_waitsFor_1
      refine w_rdF (lk_C (oI hI).1) (w_leF (by omega) (by omega) (w_rdI (pl3 hn) rfl (by omega) (lk_b (oI hI).1 (by omega)) ?_))
      have := inn (rn_b A (c + 1) - rn_b A c) (rn_b A c) y (by omega) (Nat.le_refl _) hI (by rw [wfB_0]; exact hb)
      rw [wfB_0] at this
      exact this
  refine out A.length 0 z4 (by omega) ⟨fr_tr (fr_mono (fun g hg => by omega) f3) (fr_mono (fun g hg => by omega) f4), fun x hx => ?_⟩ (fr_At f4 (fun g hg => by omega) b3)
  rw [show z4.2.1 3006 x = z3.2.1 (n + 6) x from s4 x hx, (f3 (n + 6) (by omega)).2.1]
end XSQ
end
section
/-! 99zzzzzzzzzzzzx.xsu6 -/
/-! the two pieces of a parted list -/
def sg9 (a b : Nat) : List Nat := (List.range b).filter (fun j => decide (a ≤ j))
section XSR
variable {A : rn_L} {sg : Nat → Bool} {σ : Nat → Bool} {f : Nat → Nat} {T : ow_NT}
theorem sg9_0 {a : Nat} : sg9 a a = [] := by
  unfold sg9
  refine List.filter_eq_nil_iff.mpr (fun j hj => ?_)
  have := List.mem_range.mp hj
  rw [decide_eq_false (by omega)]
  decide
theorem sg9_s {a b : Nat} (h : a ≤ b) : sg9 a (b + 1) = sg9 a b ++ [b] := by
  unfold sg9
  rw [List.range_succ, List.filter_append, List.filter_cons_of_pos (p := fun j => decide (a ≤ j)) (a := b) (decide_eq_true h)]
  rfl
theorem sg9_m {a b j : Nat} : j ∈ sg9 a b ↔ a ≤ j ∧ j < b := by
  unfold sg9
  rw [List.mem_filter, List.mem_range, decide_eq_true_iff]
  exact ⟨fun h => ⟨h.2, h.1⟩, fun h => ⟨h.2, h.1⟩⟩
theorem sg9_app {a b : Nat} (h : a ≤ b) : ∀ d, sg9 a (b + d) = sg9 a b ++ sg9 b (b + d)
  | 0 => by
    rw [Nat.add_zero, sg9_0, List.append_nil]
  | d + 1 => by
    rw [show b + (d + 1) = b + d + 1 by omega, sg9_s (by omega), sg9_app h d, sg9_s (by omega), List.append_assoc]
theorem sg9_ap {a b c : Nat} (h : a ≤ b) (h2 : b ≤ c) : sg9 a c = sg9 a b ++ sg9 b c := by
  have := sg9_app h (c - b)
  rw [show b + (c - b) = c by omega] at this
  exact this
theorem sg9_nd {a b : Nat} : (sg9 a b).Nodup := nodup_filter List.nodup_range
theorem wfB_sg {c i : Nat} : wfB A σ c i = (sg9 (rn_b A c) i).filter σ := by
  unfold wfB sg9
  rw [List.filter_filter]
  refine List.filter_congr (fun j _ => ?_)
  rw [Bool.and_comm]
theorem fil_all {l : List Nat} (h : ∀ j, j ∈ l → σ j = true) : l.filter σ = l := List.filter_eq_self.mpr h
theorem fil_3 (U V W : List Nat) : (U ++ (V ++ W)).filter σ = U.filter σ ++ (V.filter σ ++ W.filter σ) := by rw [List.filter_append, List.filter_append]
theorem fil_no {l : List Nat} (h : ∀ j, j ∈ l → σ j = false) : l.filter σ = [] := List.filter_eq_nil_iff.mpr (fun j hj => by rw [h j hj]; decide)
/-- the ring k as it stands in the list -/
theorem ring_sg : ∀ (A : rn_L) (k : Nat), k < A.length → ∃ L, L ∈ A ∧ (sg9 (rn_b A k) (rn_b A (k + 1))).map (vAt A) = L := by
  intro A k hk
  refine ⟨A[k], List.getElem_mem hk, ?_⟩
  have e1 : rn_b A (k + 1) = rn_b A k + A[k].length := by
    unfold rn_b
    rw [List.take_succ_eq_append_getElem hk, List.flatten_append, List.length_append, List.flatten_cons, List.flatten_nil, List.append_nil]
  have at9 : ∀ i, i < A[k].length → vAt A (rn_b A k + i) = A[k][i]! := fun i hi => by
    have e2 : A.flatten = (A.take k).flatten ++ (A[k] ++ (A.drop (k + 1)).flatten) := by
      rw [← List.flatten_cons, ← List.flatten_append, ← List.drop_eq_getElem_cons hk, List.take_append_drop]
    have e3 : A.flatten[rn_b A k + i]? = some A[k][i] := by
      rw [e2, List.getElem?_append_right (by unfold rn_b; omega), show rn_b A k + i - (A.take k).flatten.length = i by unfold rn_b; omega, List.getElem?_append_left hi, List.getElem?_eq_getElem hi]
    rw [vAt_eq e3, getElem!_pos A[k] i hi]
  have sh : ∀ d, sg9 (rn_b A k) (rn_b A k + d) = (List.range d).map (fun i => rn_b A k + i) := by
    intro d
    induction d with
    | zero =>
      rw [Nat.add_zero, sg9_0]
      rfl
    | succ d ih => rw [show rn_b A k + (d + 1) = rn_b A k + d + 1 by omega, sg9_s (by omega), ih, List.range_succ, List.map_append]; rfl
  rw [e1, sh, List.map_map]
  refine List.ext_getElem (by rw [List.length_map, List.length_range]) (fun i h1 h2 => ?_)
  rw [List.getElem_map, List.getElem_range]
  show vAt A (rn_b A k + i) = _
  rw [at9 i h2, getElem!_pos A[k] i h2]
theorem wfW_in {L : List vT} : ∀ n, L ∈ wfW A σ n → ∃ k, k < n ∧ L = ((sg9 (rn_b A k) (rn_b A (k + 1))).filter σ).map (vAt A) ∧ (sg9 (rn_b A k) (rn_b A (k + 1))).filter σ ≠ []
  | 0, h => by
    exact absurd h List.not_mem_nil
  | n + 1, h => by
    have h : L ∈ (wfI A σ (n + 1)).map (List.map (vAt A)) := h
    rw [wfI, wfB_sg] at h
    by_cases e : ((sg9 (rn_b A n) (rn_b A (n + 1))).filter σ).isEmpty = true
    · rw [if_pos e] at h
      obtain ⟨k, k1, k2⟩ := wfW_in n h
      exact ⟨k, by omega, k2⟩
    · rw [if_neg e, List.map_append] at h
      rcases List.mem_append.mp h with h | h
      · obtain ⟨k, k1, k2⟩ := wfW_in n h
        exact ⟨k, by omega, k2⟩
      · have h : L ∈ [((sg9 (rn_b A n) (rn_b A (n + 1))).filter σ).map (vAt A)] := h
        exact ⟨n, by omega, List.mem_singleton.mp h, fun e9 => e (by rw [e9]; rfl)⟩
theorem em_to (h : emN A sg f T) : (∀ p, p ∈ A.flatten → f p.1 < T.1) ∧ (∀ p q, p ∈ A.flatten → q ∈ A.flatten → f p.1 = f q.1 → p.1 = q.1) ∧ shw T.2.2.1.1 (gl f) A ∧ (∀ p, p ∈ A.flatten → (T.2.2.2 (f p.1) < 0 ↔ sg p.1 = true)) := by
  obtain ⟨h1, h2, h3, h4, h5, h6, h7, h8⟩ := h
  refine ⟨fun p hp => ?_, fun p q hp hq => ?_, (shw_iff h1.1).mpr h6, fun p hp => ?_⟩
  · obtain ⟨v, hv, rfl⟩ := mem_vAt hp
    exact h4 v hv
  · obtain ⟨v, hv, rfl⟩ := mem_vAt hp
    obtain ⟨w, hw, rfl⟩ := mem_vAt hq
    exact h5 v w hv hw
  · obtain ⟨v, hv, rfl⟩ := mem_vAt hp
    exact h7 v hv
theorem em_of (h1 : wkF A.flatten) (h2 : A.flatten.length ≤ 2 * T.1) (h3 : T.1 ≤ 12) (h4 : ∀ p, p ∈ A.flatten → f p.1 < T.1) (h5 : ∀ p q, p ∈ A.flatten → q ∈ A.flatten → f p.1 = f q.1 → p.1 = q.1) (h6 : shw T.2.2.1.1 (gl f) A) (h7 : ∀ p, p ∈ A.flatten → (T.2.2.2 (f p.1) < 0 ↔ sg p.1 = true)) : emN A sg f T := ⟨h1, h2, h3, fun v hv => h4 _ (vAt_mem hv), fun v w hv hw => h5 _ _ (vAt_mem hv) (vAt_mem hw), fun v hv => (shw_iff h1.1).mp h6 v hv, fun v hv => h7 _ (vAt_mem hv), trivial⟩
theorem gl_inj (h : emN A sg f T) {p q : vT} (hp : p ∈ A.flatten) (hq : q ∈ A.flatten) (e : gl f p = gl f q) : p = q := by
  have u1 := (h.1.2 p hp).2.1
  have u2 := (h.1.2 q hq).2.1
  have e : 2 * f p.1 + p.2 = 2 * f q.1 + q.2 := e
  exact Prod.ext ((em_to h).2.1 p q hp hq (by omega)) (by omega)
/-- rings of the two pieces -/
theorem shw_prt (h : emN A sg f T) {c g k : Nat} (hc : c < A.length) (hg1 : rn_b A c ≤ g) (hgh : g < k) (hh : k < rn_b A (c + 1)) (hs1 : (∀ v, rn_b A c ≤ v → v < rn_b A (c + 1) → (σ v = true ↔ g < v ∧ v ≤ k)) ∨ ∀ v, rn_b A c ≤ v → v < rn_b A (c + 1) → (σ v = true ↔ ¬ (g < v ∧ v ≤ k))) (hs2 : ∀ a b, a < A.flatten.length → b < A.flatten.length → rn_c A a = rn_c A b → rn_c A a ≠ c → σ a = σ b) : shw (exN T.2.2.1.1 (lbv A f g) (lbv A f k)) (gl f) (wfW A σ A.length) := by
  intro L hL p hp
  obtain ⟨r, r1, r2, r3⟩ := wfW_in _ hL
  obtain ⟨R, R1, R2⟩ := ring_sg A r r1
  have hle := rn_b_le A (r + 1)
  have hle2 := rn_b_le A (c + 1)
  have inF : ∀ j, j < A.flatten.length → vAt A j ∈ A.flatten := fun j hj => vAt_mem hj
  have hsh := (em_to h).2.2.1
  have hnd : R.Nodup := L_nd h.1.1 R1
  have vinj : ∀ i j, i < A.flatten.length → j < A.flatten.length → vAt A i = vAt A j → i = j := fun i j hi hj e => nodup_at h.1.1 (vAt_of hi) (by rw [e]; exact vAt_of hj)
  have other : ∀ q, q ∈ A.flatten → q ≠ vAt A g → q ≠ vAt A k → exN T.2.2.1.1 (lbv A f g) (lbv A f k) (gl f q) = T.2.2.1.1 (gl f q) := fun q hq n1 n2 => exN_o (fun e => n1 (gl_inj h hq (inF g (by omega)) e)) (fun e => n2 (gl_inj h hq (inF k (by omega)) e))
  by_cases e : r = c
  · rw [e] at r2 r3 R2
    have sp : sg9 (rn_b A c) (rn_b A (c + 1)) = (sg9 (rn_b A c) g ++ [g]) ++ ((sg9 (g + 1) k ++ [k]) ++ sg9 (k + 1) (rn_b A (c + 1))) := by
      rw [sg9_ap (b := g + 1) (by omega) (by omega), sg9_s hg1, sg9_ap (a := g + 1) (b := k + 1) (by omega) (by omega), sg9_s (by omega)]
    rw [sp, List.map_append, List.map_append, List.map_append, List.map_append] at R2
    generalize hX : (sg9 (rn_b A c) g).map (vAt A) = X at R2
    generalize hY : (sg9 (g + 1) k).map (vAt A) = Y at R2
    generalize hZ : (sg9 (k + 1) (rn_b A (c + 1))).map (vAt A) = Z at R2
    have R2 : (X ++ [vAt A g]) ++ ((Y ++ [vAt A k]) ++ Z) = R := R2
    have nk : vAt A g ≠ vAt A k := fun e9 => by
      have := vinj g k (by omega) (by omega) e9
      omega
    have rot : ∀ q, q ∈ R → sc (((Z ++ X) ++ [vAt A g]) ++ (Y ++ [vAt A k])) q = sc R q := fun q hq => by
      have e1 : R = ((X ++ [vAt A g]) ++ (Y ++ [vAt A k])) ++ Z := by
        rw [← R2]
        simp only [List.append_assoc]
      have := sc_rot (p := q) (X := (X ++ [vAt A g]) ++ (Y ++ [vAt A k])) (Y := Z) (by rw [← e1]; exact hnd) (by rw [← e1]; exact hq)
      rw [← e1] at this
      rw [← this]
      simp only [List.append_assoc]
    have nd2 : (((Z ++ X) ++ [vAt A g]) ++ (Y ++ [vAt A k])).Nodup := by
      have e1 : R = ((X ++ [vAt A g]) ++ (Y ++ [vAt A k])) ++ Z := by
        rw [← R2]
        simp only [List.append_assoc]
      have := nd_rot (X := (X ++ [vAt A g]) ++ (Y ++ [vAt A k])) (Y := Z) (by rw [← e1]; exact hnd)
      simp only [List.append_assoc] at this ⊢
      exact this
    have mR : ∀ q, q ∈ R ↔ q ∈ X ∨ q = vAt A g ∨ q ∈ Y ∨ q = vAt A k ∨ q ∈ Z := fun q => by
      rw [← R2, List.mem_append, List.mem_append, List.mem_append, List.mem_append, List.mem_singleton, List.mem_singleton, or_assoc, or_assoc]
    have gR : vAt A g ∈ R := (mR _).mpr (Or.inr (Or.inl rfl))
    have kR : vAt A k ∈ R := (mR _).mpr (Or.inr (Or.inr (Or.inr (Or.inl rfl))))
    have Nat9 : ∀ q, q ∈ R → q ∈ A.flatten := fun q hq => List.mem_flatten.mpr ⟨R, R1, hq⟩
    have at_g : exN T.2.2.1.1 (lbv A f g) (lbv A f k) (gl f (vAt A g)) = gl f (sc R (vAt A k)) := by
      show exN T.2.2.1.1 (gl f (vAt A g)) (gl f (vAt A k)) (gl f (vAt A g)) = _
      rw [exN_v (fun e9 => nk (gl_inj h (Nat9 _ gR) (Nat9 _ kR) e9))]
      exact hsh R R1 _ kR
    have at_k : exN T.2.2.1.1 (lbv A f g) (lbv A f k) (gl f (vAt A k)) = gl f (sc R (vAt A g)) := by
      show exN T.2.2.1.1 (gl f (vAt A g)) (gl f (vAt A k)) (gl f (vAt A k)) = _
      rw [exN_w]
      exact hsh R R1 _ gR
    rcases hs1 with hs1 | hs1
    · have eL : L = Y ++ [vAt A k] := by
        rw [r2, sp, fil_3, fil_no (l := sg9 (rn_b A c) g ++ [g]) (fun j hj => ?_), fil_all (l := sg9 (g + 1) k ++ [k]) (fun j hj => ?_), fil_no (l := sg9 (k + 1) (rn_b A (c + 1))) (fun j hj => ?_), List.nil_append, List.append_nil, List.map_append, hY]
        · rfl
        · have hj := sg9_m.mp hj
          exact Bool.eq_false_iff.mpr (fun e9 => by have := (hs1 j (by omega) (by omega)).mp e9; omega)
        · have hj : g + 1 ≤ j ∧ j < k ∨ j = k := by
            rcases List.mem_append.mp hj with hj | hj
            · exact Or.inl (sg9_m.mp hj)
            · exact Or.inr (List.mem_singleton.mp hj)
          exact (hs1 j (by omega) (by omega)).mpr (by omega)
        · have hj : rn_b A c ≤ j ∧ j < g ∨ j = g := by
            rcases List.mem_append.mp hj with hj | hj
            · exact Or.inl (sg9_m.mp hj)
            · exact Or.inr (List.mem_singleton.mp hj)
          exact Bool.eq_false_iff.mpr (fun e9 => by have := (hs1 j (by omega) (by omega)).mp e9; omega)
      rw [eL] at hp ⊢
      have pR : p ∈ R := (mR p).mpr (by
        rcases List.mem_append.mp hp with hp | hp
        · exact Or.inr (Or.inr (Or.inl hp))
        · exact Or.inr (Or.inr (Or.inr (Or.inl (List.mem_singleton.mp hp)))))
      have ng : p ≠ vAt A g := fun e9 => (List.nodup_append.mp nd2).2.2 (vAt A g) (List.mem_append.mpr (Or.inr (List.mem_singleton.mpr rfl))) p hp e9.symm
      rw [sc_spl2 nd2 hp]
      by_cases ek : p = vAt A k
      · rw [if_pos ek, rot _ gR, ek, at_k]
      · rw [if_neg ek, rot _ pR, other p (Nat9 p pR) ng ek]
        exact hsh R R1 p pR
    · have eL : L = (X ++ [vAt A g]) ++ Z := by
        rw [r2, sp, fil_3, fil_all (l := sg9 (rn_b A c) g ++ [g]) (fun j hj => ?_), fil_no (l := sg9 (g + 1) k ++ [k]) (fun j hj => ?_), fil_all (l := sg9 (k + 1) (rn_b A (c + 1))) (fun j hj => ?_), List.nil_append, List.map_append, List.map_append, hX, hZ]
        · rfl
        · have hj := sg9_m.mp hj
          exact (hs1 j (by omega) (by omega)).mpr (by omega)
        · have hj : g + 1 ≤ j ∧ j < k ∨ j = k := by
            rcases List.mem_append.mp hj with hj | hj
            · exact Or.inl (sg9_m.mp hj)
            · exact Or.inr (List.mem_singleton.mp hj)
          exact Bool.eq_false_iff.mpr (fun e9 => by have := (hs1 j (by omega) (by omega)).mp e9; omega)
        · have hj : rn_b A c ≤ j ∧ j < g ∨ j = g := by
            rcases List.mem_append.mp hj with hj | hj
            · exact Or.inl (sg9_m.mp hj)
            · exact Or.inr (List.mem_singleton.mp hj)
          exact (hs1 j (by omega) (by omega)).mpr (by omega)
      have ndL : L.Nodup := by
        rw [r2]
        exact nodup_map (nodup_filter sg9_nd) (fun i j hi hj e9 => vinj i j (by have := sg9_m.mp (List.mem_filter.mp hi).1; omega) (by have := sg9_m.mp (List.mem_filter.mp hj).1; omega) e9)
      rw [eL] at hp ndL ⊢
      have hp2 : p ∈ (Z ++ X) ++ [vAt A g] := by
        rw [List.append_assoc]
        exact List.mem_append.mpr ((List.mem_append.mp hp).symm)
      have pR : p ∈ R := (mR p).mpr (by
        rcases List.mem_append.mp hp with hp | hp
        · rcases List.mem_append.mp hp with hp | hp
          · exact Or.inl hp
          · exact Or.inr (Or.inl (List.mem_singleton.mp hp))
        · exact Or.inr (Or.inr (Or.inr (Or.inr hp))))
      have nk2 : p ≠ vAt A k := fun e9 => (List.nodup_append.mp nd2).2.2 p hp2 (vAt A k) (List.mem_append.mpr (Or.inr (List.mem_singleton.mpr rfl))) e9
      rw [← sc_rot ndL hp, ← List.append_assoc, sc_spl1 nd2 hp2]
      by_cases eg : p = vAt A g
      · rw [if_pos eg, rot _ kR, eg, at_g]
      · rw [if_neg eg, rot _ pR, other p (Nat9 p pR) eg nk2]
        exact hsh R R1 p pR
  · have cR : ∀ j, j ∈ sg9 (rn_b A r) (rn_b A (r + 1)) → j < A.flatten.length ∧ rn_c A j = r := fun j hj => by
      have hj := sg9_m.mp hj
      exact ⟨by omega, rn_c_of A r j hj.1 hj.2⟩
    have all : ∀ j, j ∈ sg9 (rn_b A r) (rn_b A (r + 1)) → σ j = true := fun j hj => by
      obtain ⟨i, hi⟩ := List.exists_mem_of_ne_nil _ r3
      obtain ⟨i1, i2⟩ := List.mem_filter.mp hi
      rw [← i2]
      exact hs2 j i (cR j hj).1 (cR i i1).1 (by rw [(cR j hj).2, (cR i i1).2]) (by rw [(cR j hj).2]; exact e)
    rw [fil_all all, R2] at r2
    rw [r2] at hp ⊢
    have hpF : p ∈ A.flatten := List.mem_flatten.mpr ⟨R, R1, hp⟩
    have off : ∀ j, rn_b A c ≤ j → j < rn_b A (c + 1) → p ≠ vAt A j := fun j j1 j2 e9 => by
      rw [← R2] at hp
      obtain ⟨i, i1, i2⟩ := List.mem_map.mp hp
      have := vinj i j (cR i i1).1 (by omega) (i2.trans e9)
      rw [this] at i1
      exact e ((cR j i1).2.symm.trans (rn_c_of A c j j1 j2))
    rw [other p hpF (off g hg1 (by omega)) (off k (by omega) hh)]
    exact hsh R R1 p hp
end XSR
end
section
/-! 99zzzzzzzzzzzzy.xsu7 -/
/-! a list can be parted where its part of the net can -/
section XST
variable {A : rn_L} {sg : Nat → Bool} {σ : Nat → Bool} {f : Nat → Nat} {T : ow_NT} {c g k : Nat}
theorem wfW_el {p : vT} (h : p ∈ (wfW A σ A.length).flatten) : ∃ j, j < A.flatten.length ∧ σ j = true ∧ vAt A j = p := by
  unfold wfW at h
  rw [fl_map] at h
  obtain ⟨j, hj, e⟩ := List.mem_map.mp h
  have := (wfI_m _).mp hj
  rw [rn_b_len] at this
  exact ⟨j, this.1, this.2, e⟩
theorem wfW_le {j : Nat} (h1 : j < A.flatten.length) (h2 : σ j = true) : vAt A j ∈ (wfW A σ A.length).flatten := by
  unfold wfW
  rw [fl_map]
  exact List.mem_map.mpr ⟨j, (wfI_m _).mpr ⟨by rw [rn_b_len]; exact h1, h2⟩, rfl⟩
/-- what the two pieces are -/
def prS (A : rn_L) (c g k : Nat) (σ : Nat → Bool) : Prop := ((∀ v, rn_b A c ≤ v → v < rn_b A (c + 1) → (σ v = true ↔ g < v ∧ v ≤ k)) ∨ ∀ v, rn_b A c ≤ v → v < rn_b A (c + 1) → (σ v = true ↔ ¬ (g < v ∧ v ≤ k))) ∧ (∀ a b, a < A.flatten.length → b < A.flatten.length → rn_c A a = rn_c A b → rn_c A a ≠ c → σ a = σ b) ∧ ∀ v, v < A.flatten.length → σ v = true → σ (mtf A v) = true
theorem prS_not (h : prS A c g k σ) (hd : rn_ok A.flatten) : prS A c g k (fun v => !σ v) := by
  obtain ⟨h1, h2, h3⟩ := h
  have key : ∀ {b : Bool} {P : Prop}, (b = true ↔ P) → ((!b) = true ↔ ¬ P) := fun {b P} h => by
    rw [← h]
    cases b <;> decide
  refine ⟨?_, fun a b ha hb e1 e2 => congrArg (fun b => !b) (h2 a b ha hb e1 e2), fun v hv e => ?_⟩
  · rcases h1 with h1 | h1
    · exact Or.inr (fun v a b => key (h1 v a b))
    · refine Or.inl (fun v a b => (key (h1 v a b)).trans ?_)
      omega
  · have e : (!σ v) = true := e
    show (!σ (mtf A v)) = true
    cases e9 : σ (mtf A v) with
    | false => rfl
    | true =>
      have := h3 _ (mtf_lt hd hv) e9
      rw [mtf_mtf hd hv] at this
      rw [this] at e
      exact e
theorem em_prt (h : emN A sg f T) (hc : c < A.length) (hg1 : rn_b A c ≤ g) (hgh : g < k) (hh : k < rn_b A (c + 1)) (hs : prS A c g k σ) : emN (wfW A σ A.length) sg f (ntS T (np_exchange T.2.2.1 (lbv A f g) (lbv A f k))) := by
  obtain ⟨t1, t2, t3, t4⟩ := em_to h
  have sub : ∀ p, p ∈ (wfW A σ A.length).flatten → p ∈ A.flatten := fun p hp => by
    obtain ⟨j, j1, _, rfl⟩ := wfW_el hp
    exact vAt_mem j1
  refine em_of (wfW_wk h.1 hs.2.2) ?_ h.2.2.1 (fun p hp => t1 p (sub p hp)) (fun p q hp hq => t2 p q (sub p hp) (sub q hq)) (shw_prt h hc hg1 hgh hh hs.1 hs.2.1) (fun p hp => t4 p (sub p hp))
  have := wf_len (A := A) (σ := σ) (c := A.length) (i := A.flatten.length) (by rw [rn_b_len]; exact Nat.le_refl _)
  have h2 := h.2.1
  show (wfW A σ A.length).flatten.length ≤ 2 * T.1
  unfold wfW
  rw [fl_map, List.length_map]
  omega
theorem em_nx (h : emN A sg f T) {r v : Nat} (h1 : rn_b A r ≤ v) (h2 : v + 1 < rn_b A (r + 1)) : T.2.2.1.1 (lbv A f v) = lbv A f (v + 1) := by
  have hle := rn_b_le A (r + 1)
  rw [h.2.2.2.2.2.1 v (by omega)]
  unfold rn_nx
  rw [rn_c_of A r v h1 (by omega), if_pos h2]
theorem em_it (h : emN A sg f T) {r v : Nat} (h1 : rn_b A r ≤ v) : ∀ i, v + i < rn_b A (r + 1) → it T.2.2.1.1 i (lbv A f v) = lbv A f (v + i)
  | 0, _ => rfl
  | i + 1, hi => by
    show T.2.2.1.1 (it T.2.2.1.1 i (lbv A f v)) = _
    rw [em_it h h1 i (by omega), em_nx h (r := r) (by omega) (by omega)]
    rfl
/-- chosen visits go to chosen visits -/
theorem prt_go (h : emN A sg f T) (hc : c < A.length) (hg1 : rn_b A c ≤ g) (hgh : g < k) (hh : k < rn_b A (c + 1)) (hs : prS A c g k σ) {v : Nat} (hv : v < A.flatten.length) (e : σ v = true) : ∃ j, j < A.flatten.length ∧ σ j = true ∧ exN T.2.2.1.1 (lbv A f g) (lbv A f k) (lbv A f v) = lbv A f j := by
  obtain ⟨L, hL, hp⟩ := List.mem_flatten.mp (wfW_le hv e)
  have hnd : L.Nodup := L_nd (wfW_wk h.1 hs.2.2).1 hL
  obtain ⟨j, j1, j2, j3⟩ := wfW_el (List.mem_flatten.mpr ⟨L, hL, sc_in hp hnd⟩)
  refine ⟨j, j1, j2, ?_⟩
  have := shw_prt h hc hg1 hgh hh hs.1 hs.2.1 L hL _ hp
  rw [← j3] at this
  exact this
theorem pr_of (h : emN A sg f T) (hv : vn T.1 T.2.2.1) (hc : c < A.length) (hg1 : rn_b A c ≤ g) (hgh : g < k) (hh : k < rn_b A (c + 1)) (hs : prS A c g k σ) : prN T.1 T.2.2.1.1 (lbv A f g) (lbv A f k) := by
  have hle := rn_b_le A (c + 1)
  have gl' : g < A.flatten.length := by omega
  have kl : k < A.flatten.length := by omega
  have hd := wkF_ok h.1
  refine ⟨em_lt h gl', em_lt h kl, fun e => ?_, ⟨k - g, ?_⟩, fun p => ?_⟩
  · have := em_inj h gl' kl e
    omega
  · rw [em_it h hg1 (k - g) (by omega), show g + (k - g) = k by omega]
  · have hdec : DecidablePred (fun j => ∃ v, v < A.flatten.length ∧ σ v = true ∧ lbv A f v = j) := fun j => Classical.propDecidable _
    have hs' := prS_not hs hd
    have key := p (fun j => if ∃ v, v < A.flatten.length ∧ σ v = true ∧ lbv A f v = j then 1 else 0) (fun j hj => ?_)
    · have iff9 : ∀ v, v < A.flatten.length → ((∃ u, u < A.flatten.length ∧ σ u = true ∧ lbv A f u = lbv A f v) ↔ σ v = true) := fun v hv => ⟨fun ⟨u, u1, u2, u3⟩ => by rw [← em_inj h u1 hv u3]; exact u2, fun e => ⟨v, hv, e, rfl⟩⟩
      have dif : σ g ≠ σ k := fun e => by
        rcases hs.1 with h1 | h1
        · have a1 := h1 g hg1 (by omega)
          have a2 := (h1 k (by omega) hh).mpr ⟨hgh, Nat.le_refl _⟩
          have := a1.mp (e.trans a2)
          omega
        · have a1 := (h1 g hg1 (by omega)).mpr (by omega)
          have a2 := (h1 k (by omega) hh).mp (e.symm.trans a1)
          omega
      by_cases eg : σ g = true
      · rw [if_pos ((iff9 g gl').mpr eg)] at key
        by_cases ek : σ k = true
        · exact dif (eg.trans ek.symm)
        · rw [if_neg (fun h9 => ek ((iff9 k kl).mp h9))] at key
          exact absurd key (by decide)
      · rw [if_neg (fun h9 => eg ((iff9 g gl').mp h9))] at key
        by_cases ek : σ k = true
        · rw [if_pos ((iff9 k kl).mpr ek)] at key
          exact absurd key (by decide)
        · exact dif (by rw [Bool.eq_false_iff.mpr eg, Bool.eq_false_iff.mpr ek])
    · have eqv : ∀ {P Q : Prop} [Decidable P] [Decidable Q], (P ↔ Q) → (if P then (1 : Nat) else 0) = if Q then 1 else 0 := fun {P Q} _ _ h => by
        by_cases hp : P
        · rw [if_pos hp, if_pos (h.mp hp)]
        · rw [if_neg hp, if_neg (fun q => hp (h.mpr q))]
      refine ⟨eqv ⟨?_, ?_⟩, eqv ⟨?_, ?_⟩⟩
      · rintro ⟨v, v1, v2, v3⟩
        refine Classical.byContradiction (fun h9 => ?_)
        by_cases hin : ∃ u, u < A.flatten.length ∧ lbv A f u = j
        · obtain ⟨u, u1, u2⟩ := hin
          have hu : (!σ u) = true := by
            cases e : σ u with
            | false => rfl
            | true => exact absurd ⟨u, u1, e, u2⟩ h9
          obtain ⟨i, i1, i2, i3⟩ := prt_go h hc hg1 hgh hh hs' u1 hu
          rw [u2, ← v3] at i3
          rw [← em_inj h v1 i1 i3, v2] at i2
          exact absurd i2 (by decide)
        · have n1 : j ≠ lbv A f g := fun e => hin ⟨g, gl', e.symm⟩
          have n2 : j ≠ lbv A f k := fun e => hin ⟨k, kl, e.symm⟩
          rw [exN_o n1 n2, ← nx_pv v1, ← h.2.2.2.2.2.1 _ (rn_pv_lt v1)] at v3
          exact hin ⟨rn_pv A v, rn_pv_lt v1, (bj_vn hv).2 _ _ (em_lt h (rn_pv_lt v1)) hj v3⟩
      · rintro ⟨v, v1, v2, v3⟩
        obtain ⟨i, i1, i2, i3⟩ := prt_go h hc hg1 hgh hh hs v1 v2
        rw [v3] at i3
        exact ⟨i, i1, i2, i3.symm⟩
      · rintro ⟨v, v1, v2, v3⟩
        obtain ⟨m1, m2, m3, m4⟩ := em_mt h v1
        refine ⟨mtf A v, m1, hs.2.2 v v1 v2, ?_⟩
        rw [m3, v3]
        exact mt_mt j
      · rintro ⟨v, v1, v2, v3⟩
        obtain ⟨m1, m2, m3, m4⟩ := em_mt h v1
        exact ⟨mtf A v, m1, hs.2.2 v v1 v2, by rw [m3, v3]⟩
theorem pr_no (h : emN A sg f T) (hc : c < A.length) (hg1 : rn_b A c ≤ g) (hgh : g < k) (hh : k < rn_b A (c + 1)) (hz : ∀ M, gdM A c g k M → ∃ u, u < A.flatten.length ∧ rn_c A u = c ∧ ¬ (g < u ∧ u ≤ k) ∧ M u = M k) : ¬ prN T.1 T.2.2.1.1 (lbv A f g) (lbv A f k) := by
  intro hp
  have hle := rn_b_le A (c + 1)
  have gl' : g < A.flatten.length := by omega
  have kl : k < A.flatten.length := by omega
  obtain ⟨m, hm, hd⟩ := sepE hp.2.2.2.2
  have go : ∀ v, v < A.flatten.length → v ≠ g → v ≠ k → m (lbv A f (rn_nx A v)) = m (lbv A f v) := fun v hv n1 n2 => by
    have := (hm _ (em_lt h hv)).1
    rw [exN_o (fun e => n1 (em_inj h hv gl' e)) (fun e => n2 (em_inj h hv kl e)), h.2.2.2.2.2.1 v hv] at this
    exact this
  have ch : ∀ (r a d : Nat), rn_b A r ≤ a → a + d < rn_b A (r + 1) → (∀ v, a ≤ v → v < a + d → v ≠ g ∧ v ≠ k) → m (lbv A f (a + d)) = m (lbv A f a) := by
    intro r a d
    induction d with
    | zero => exact fun _ _ _ => rfl
    | succ d ih =>
      intro h1 h2 h3
      have hl2 := rn_b_le A (r + 1)
      have := go (a + d) (by omega) (h3 _ (by omega) (by omega)).1 (h3 _ (by omega) (by omega)).2
      unfold rn_nx at this
      rw [rn_c_of A r (a + d) (by omega) (by omega), if_pos (by omega)] at this
      exact this.trans (ih h1 (by omega) (fun v v1 v2 => h3 v v1 (by omega)))
  have cg : rn_c A g = c := rn_c_of A c g hg1 (by omega)
  have ck : rn_c A k = c := rn_c_of A c k (by omega) hh
  obtain ⟨u, u1, u2, u3, u4⟩ := hz (fun v => m (lbv A f v)) ⟨fun v hv => by
    show m (lbv A f (mtf A v)) = m (lbv A f v)
    rw [(em_mt h hv).2.2.1]
    exact (hm _ (em_lt h hv)).2, fun a b ha hb e1 e2 => by
    have base : ∀ a, a < A.flatten.length → rn_c A a ≠ c → m (lbv A f a) = m (lbv A f (rn_b A (rn_c A a))) := fun a ha hn => by
      obtain ⟨q1, q2, q3⟩ := rn_c_in A a ha
      have := ch (rn_c A a) (rn_b A (rn_c A a)) (a - rn_b A (rn_c A a)) (Nat.le_refl _) (by omega) (fun v v1 v2 => by
        have e9 : rn_c A v = rn_c A a := rn_c_of A _ v v1 (by omega)
        exact ⟨fun e => hn (by rw [← e9, e, cg]), fun e => hn (by rw [← e9, e, ck])⟩)
      rw [show rn_b A (rn_c A a) + (a - rn_b A (rn_c A a)) = a by omega] at this
      exact this
    show m (lbv A f a) = m (lbv A f b)
    rw [base a ha e2, base b hb (by rw [← e1]; exact e2), e1], fun v v1 v2 => by
    have := ch c v (k - v) (by omega) (by omega) (fun x x1 x2 => by omega)
    rw [show v + (k - v) = k by omega] at this
    exact this.symm⟩
  refine hd ?_
  have u4 : m (lbv A f u) = m (lbv A f k) := u4
  rw [← u4]
  obtain ⟨q1, q2, q3⟩ := rn_c_in A u u1
  rw [u2] at q1 q2 q3
  rcases Nat.lt_or_ge k u with q | q
  · have e1 := ch c u (rn_b A (c + 1) - 1 - u) q2 (by omega) (fun x x1 x2 => by omega)
    rw [show u + (rn_b A (c + 1) - 1 - u) = rn_b A (c + 1) - 1 by omega] at e1
    have e2 := go (rn_b A (c + 1) - 1) (by omega) (by omega) (by omega)
    unfold rn_nx at e2
    rw [rn_c_of A c (rn_b A (c + 1) - 1) (by omega) (by omega), if_neg (by omega)] at e2
    have e3 := ch c (rn_b A c) (g - rn_b A c) (Nat.le_refl _) (by omega) (fun x x1 x2 => by omega)
    rw [show rn_b A c + (g - rn_b A c) = g by omega] at e3
    rw [e3, e2, e1]
  · have e1 := ch c u (g - u) q2 (by omega) (fun x x1 x2 => by omega)
    rw [show u + (g - u) = g by omega] at e1
    exact e1
end XST
end
section
/-! 99zzzzzzzzzzzzz.xsu8 -/
/-! a net of its own for a list -/
section XSU8
variable {A B E : rn_L} {sg sB sE : Nat → Bool} {f g h k : Nat → Nat} {T R : ow_NT}
/-- the crossings of a list -/
def crL (A : rn_L) : List Nat := (A.flatten.filter (fun p => decide (p.2 = 0))).map Prod.fst
theorem crL_m (hF : wkF A.flatten) {x u : Nat} (hx : (x, u) ∈ A.flatten) : x ∈ crL A := by
  unfold crL
  refine List.mem_map.mpr ⟨(x, 0), List.mem_filter.mpr ⟨?_, decide_eq_true rfl⟩, rfl⟩
  obtain ⟨h1, h2, h3⟩ := hF.2 _ hx
  have h2 : u < 2 := h2
  have h3 : (x, 1 - u) ∈ A.flatten := h3
  rcases (show u = 0 ∨ u = 1 by omega) with e | e
  · rw [e] at hx
    exact hx
  · rw [e] at h3
    exact h3
theorem crL_of {x : Nat} (h : x ∈ crL A) : (x, 0) ∈ A.flatten := by
  unfold crL at h
  obtain ⟨p, hp, e⟩ := List.mem_map.mp h
  obtain ⟨p1, p2⟩ := List.mem_filter.mp hp
  have p2 := of_decide_eq_true p2
  rw [← e, ← p2]
  exact p1
theorem crL_nd (hF : wkF A.flatten) : (crL A).Nodup := by
  unfold crL
  refine nodup_map (nodup_filter hF.1) (fun p q hp hq e => ?_)
  have p2 := of_decide_eq_true (List.mem_filter.mp hp).2
  have q2 := of_decide_eq_true (List.mem_filter.mp hq).2
  exact Prod.ext e (by rw [p2, q2])
theorem crL_len (hF : wkF A.flatten) : A.flatten.length = 2 * (crL A).length := by
  have e : ((crL A).map (fun x => (x, 0)) ++ (crL A).map (fun x => (x, 1))).length = A.flatten.length := by
    refine nodup_eq ?_ hF.1 (fun p => ?_)
    · refine List.nodup_append.mpr ⟨nodup_map (crL_nd hF) (fun a b _ _ e => (Prod.mk.inj e).1), nodup_map (crL_nd hF) (fun a b _ _ e => (Prod.mk.inj e).1), fun a ha b hb e => ?_⟩
      obtain ⟨x, _, e1⟩ := List.mem_map.mp ha
      obtain ⟨y, _, e2⟩ := List.mem_map.mp hb
      rw [← e1, ← e2] at e
      exact absurd (Prod.mk.inj e).2 (by decide)
    · rw [List.mem_append, List.mem_map, List.mem_map]
      constructor
      · rintro (⟨x, hx, e⟩ | ⟨x, hx, e⟩)
        · rw [← e]
          exact crL_of hx
        · rw [← e]
          exact (hF.2 _ (crL_of hx)).2.2
      · intro hp
        have hu : p.2 < 2 := (hF.2 p hp).2.1
        have hm : p.1 ∈ crL A := crL_m hF (u := p.2) hp
        rcases (show p.2 = 0 ∨ p.2 = 1 by omega) with e | e
        · exact Or.inl ⟨p.1, hm, Prod.ext rfl e.symm⟩
        · exact Or.inr ⟨p.1, hm, Prod.ext rfl e.symm⟩
  rw [List.length_append, List.length_map, List.length_map] at e
  omega
theorem net_of (hF : wkF A.flatten) (hl : A.flatten.length ≤ 24) (h6 : A.length ≤ 6) (sg : Nat → Bool) : ∃ f R, isoN A sg f R ∧ nv R := by
  have hlen := crL_len hF
  have ex : ∀ x, ∃ i, x ∈ crL A → (crL A)[i]? = some x := fun x => by
    by_cases hx : x ∈ crL A
    · obtain ⟨i, hi⟩ := List.getElem?_of_mem hx
      exact ⟨i, fun _ => hi⟩
    · exact ⟨0, fun h9 => absurd h9 hx⟩
  obtain ⟨f, hf⟩ := Classical.axiomOfChoice ex
  have inK : ∀ v, v < A.flatten.length → crs A v ∈ crL A := fun v hv => crL_m hF (u := uns A v) (vAt_mem hv)
  have flt : ∀ v, v < A.flatten.length → f (crs A v) < (crL A).length := fun v hv => (List.getElem?_eq_some_iff.mp (hf _ (inK v hv))).1
  have fin : ∀ v w, v < A.flatten.length → w < A.flatten.length → f (crs A v) = f (crs A w) → crs A v = crs A w := fun v w hv hw e => by
    have h1 := hf _ (inK v hv)
    have h2 := hf _ (inK w hw)
    rw [e, h2] at h1
    exact (Option.some.inj h1).symm
  have vin : ∀ v w, v < A.flatten.length → w < A.flatten.length → lbv A f v = lbv A f w → v = w := fun v w hv hw e => by
    have u1 := uns_lt hF hv
    have u2 := uns_lt hF hw
    unfold lbv at e
    have h6 : vAt A v = vAt A w := Prod.ext (fin v w hv hw (by omega)) (show uns A v = uns A w by omega)
    refine nodup_at hF.1 (vAt_of hv) ?_
    rw [h6]
    exact vAt_of hw
  have vlt : ∀ v, v < A.flatten.length → lbv A f v < 2 * (crL A).length := fun v hv => by
    have := uns_lt hF hv
    have := flt v hv
    unfold lbv
    omega
  have exN9 : ∀ j, ∃ b : Nat × Nat, b.1 < 24 ∧ b.2 < 24 ∧ ∀ v, v < A.flatten.length → lbv A f v = j → b = (lbv A f (rn_nx A v), lbv A f (rn_pv A v)) := fun j => by
    by_cases hj : ∃ v, v < A.flatten.length ∧ lbv A f v = j
    · obtain ⟨v, v1, v2⟩ := hj
      refine ⟨(lbv A f (rn_nx A v), lbv A f (rn_pv A v)), ?_, ?_, fun w w1 w2 => by rw [vin w v w1 v1 (w2.trans v2.symm)]⟩
      · have := vlt _ (rnx_lt v1)
        show lbv A f (rn_nx A v) < 24
        omega
      · have := vlt _ (rn_pv_lt v1)
        show lbv A f (rn_pv A v) < 24
        omega
    · exact ⟨(0, 0), by decide, by decide, fun v v1 v2 => absurd ⟨v, v1, v2⟩ hj⟩
  obtain ⟨N, hN⟩ := Classical.axiomOfChoice exN9
  have exG : ∀ i, ∃ b : Int32, ∀ v, v < A.flatten.length → f (crs A v) = i → (b < 0 ↔ sg (crs A v) = true) := fun i => by
    by_cases hj : ∃ v, v < A.flatten.length ∧ f (crs A v) = i
    · obtain ⟨v, v1, v2⟩ := hj
      refine ⟨if sg (crs A v) then -1 else 1, fun w w1 w2 => ?_⟩
      rw [fin w v w1 v1 (w2.trans v2.symm)]
      cases sg (crs A v) <;> decide
    · exact ⟨0, fun v v1 v2 => absurd ⟨v, v1, v2⟩ hj⟩
  obtain ⟨G, hG⟩ := Classical.axiomOfChoice exG
  let R : ow_NT := ((crL A).length, cirs A, (fun j => (N j).1, fun j => (N j).2), G)
  have hi : isoN A sg f R := ⟨hF, hlen, by show (crL A).length ≤ 12; omega, flt, fin, fun v hv => congrArg Prod.fst ((hN (lbv A f v)).2.2 v hv rfl), fun v hv => hG _ v hv rfl, rfl⟩
  have hv : vn R.1 R.2.2.1 := fun j hj => by
    obtain ⟨v, v1, v2⟩ := lbv_sur hi hj
    have e1 := (hN j).2.2 v v1 v2
    have a1 : R.2.2.1.1 j = lbv A f (rn_nx A v) := congrArg Prod.fst e1
    have a2 : R.2.2.1.2 j = lbv A f (rn_pv A v) := congrArg Prod.snd e1
    rw [a1, a2]
    refine ⟨vlt _ (rnx_lt v1), vlt _ (rn_pv_lt v1), ?_, ?_⟩
    · have := congrArg Prod.snd ((hN _).2.2 (rn_nx A v) (rnx_lt v1) rfl)
      rw [pv_nx v1, v2] at this
      exact this
    · have := congrArg Prod.fst ((hN _).2.2 (rn_pv A v) (rn_pv_lt v1) rfl)
      rw [nx_pv v1, v2] at this
      exact this
  refine ⟨f, R, hi, hv, by show (crL A).length ≤ 12; omega, ⟨fun j => (hN j).1, fun j => (hN j).2.1⟩, ?_⟩
  have := iso_rg hi
  omega
/-- what a part shows of a list, it shows of that list's code -/
theorem em_tr (hB : isoV B sB g T) (hE : isoV E sE h T) (hR : emN E sE k R) : ∃ g', emN B sB g' R ∧ ∀ p, p ∈ B.flatten → ∃ q, q ∈ E.flatten ∧ gl g' p = gl k q := by
  obtain ⟨R1, R2, R3, R4⟩ := em_to hR
  have ex : ∀ y, ∃ x, y < T.1 → ((x, 0) : vT) ∈ E.flatten ∧ ((x, 1) : vT) ∈ E.flatten ∧ h x = y := fun y => by
    by_cases hy : y < T.1
    · obtain ⟨x, x1, x2⟩ := iso_vis hE hy (u := 0) (by omega)
      obtain ⟨x', y1, y2⟩ := iso_vis hE hy (u := 1) (by omega)
      have := hE.1.2.2.2.2.1 _ _ x1 y1 (x2.trans y2.symm)
      have this : x = x' := this
      rw [← this] at y1
      exact ⟨x, fun _ => ⟨x1, y1, x2⟩⟩
    · exact ⟨0, fun h9 => absurd h9 hy⟩
  obtain ⟨τ, hτ⟩ := Classical.axiomOfChoice ex
  have hu : ∀ {p : vT}, p ∈ B.flatten → p.2 < 2 := fun {p} hp => (hB.1.1.2 p hp).2.1
  have huE : ∀ {p : vT}, p ∈ E.flatten → p.2 < 2 := fun {p} hp => (hE.1.1.2 p hp).2.1
  have tB : ∀ {p : vT}, p ∈ B.flatten → ((τ (g p.1), p.2) : vT) ∈ E.flatten ∧ h (τ (g p.1)) = g p.1 := fun {p} hp => by
    obtain ⟨a1, a2, a3⟩ := hτ (g p.1) (hB.1.2.2.2.1 p hp)
    refine ⟨?_, a3⟩
    have := hu hp
    rcases (show p.2 = 0 ∨ p.2 = 1 by omega) with e | e <;> rw [e]
    · exact a1
    · exact a2
  have tE : ∀ {q : vT}, q ∈ E.flatten → τ (h q.1) = q.1 := fun {q} hq => by
    obtain ⟨a1, a2, a3⟩ := hτ (h q.1) (hE.1.2.2.2.1 q hq)
    have := hE.1.2.2.2.2.1 _ _ a1 hq a3
    exact this
  refine ⟨fun x => k (τ (g x)), em_of hB.1.1 ?_ hR.2.2.1 (fun p hp => R1 _ (tB hp).1) (fun p q hp hq e => ?_) (fun L hL p hp => ?_) (fun p hp => ?_), fun p hp => ⟨_, (tB hp).1, rfl⟩⟩
  · have := hR.2.1
    rw [hB.1.2.1, ← hE.1.2.1]
    exact this
  · have e1 := R2 _ _ (tB hp).1 (tB hq).1 e
    have e1 : τ (g p.1) = τ (g q.1) := e1
    have e2 : g p.1 = g q.1 := by rw [← (tB hp).2, ← (tB hq).2, e1]
    exact hB.1.2.2.2.2.1 p q hp hq e2
  · have hpB : p ∈ B.flatten := List.mem_flatten.mpr ⟨L, hL, hp⟩
    have hsB : sc L p ∈ B.flatten := List.mem_flatten.mpr ⟨L, hL, sc_in hp (L_nd hB.1.1.1 hL)⟩
    obtain ⟨m1, m2⟩ := tB hpB
    obtain ⟨M, hM, hq⟩ := List.mem_flatten.mp m1
    have hsE : sc M (τ (g p.1), p.2) ∈ E.flatten := List.mem_flatten.mpr ⟨M, hM, sc_in hq (L_nd hE.1.1.1 hM)⟩
    have a1 := (hB.2 L hL p hp).1
    have a2 := (hE.2 M hM _ hq).1
    have a3 := R3 M hM _ hq
    have e0 : gl h (τ (g p.1), p.2) = gl g p := by
      show 2 * h (τ (g p.1)) + p.2 = 2 * g p.1 + p.2
      rw [m2]
    rw [e0, a1] at a2
    have a2 : 2 * g (sc L p).1 + (sc L p).2 = 2 * h (sc M (τ (g p.1), p.2)).1 + (sc M (τ (g p.1), p.2)).2 := a2
    have u1 := hu hsB
    have u2 := huE hsE
    have e1 : g (sc L p).1 = h (sc M (τ (g p.1), p.2)).1 := by omega
    have e2 : (sc L p).2 = (sc M (τ (g p.1), p.2)).2 := by omega
    show R.2.2.1.1 (gl k (τ (g p.1), p.2)) = 2 * k (τ (g (sc L p).1)) + (sc L p).2
    rw [a3, e1, tE hsE, e2]
    rfl
  · obtain ⟨m1, m2⟩ := tB hp
    have a1 := R4 _ m1
    have a2 := hE.1.2.2.2.2.2.2.1 _ m1
    have a3 := hB.1.2.2.2.2.2.2.1 p hp
    have a2 : T.2.2.2 (h (τ (g p.1))) < 0 ↔ sE (τ (g p.1)) = true := a2
    rw [m2] at a2
    exact a1.trans (a2.symm.trans a3)
end XSU8
end
section
/-! 99zzzzzzzzzzzzza.xsu9 -/
/-! the row of a piece -/
section XSU9
variable {A W : rn_L} {sg : Nat → Bool} {f k : Nat → Nat} {T R : ow_NT} {m : Nat → Nat} {P : Nat}
/-- marks of a list's visits reach no further than the list -/
theorem em_lab (h : emN A sg f T) (hv : vn T.1 T.2.2.1) {q : Nat → Nat} (hq1 : ∀ v, v < A.flatten.length → q (rn_nx A v) = q v) (hq2 : ∀ v, v < A.flatten.length → q (mtf A v) = q v) {u j : Nat} (hu : u < A.flatten.length) (hp : ptN T.1 T.2.2.1.1 (lbv A f u) j) : ∃ v, v < A.flatten.length ∧ lbv A f v = j ∧ q v = q u := by
  have ex : ∀ j, ∃ x, (∀ v, v < A.flatten.length → lbv A f v = j → x = q v + 1) ∧ ((¬ ∃ v, v < A.flatten.length ∧ lbv A f v = j) → x = 0) := fun j => by
    by_cases hj : ∃ v, v < A.flatten.length ∧ lbv A f v = j
    · obtain ⟨v, v1, v2⟩ := hj
      exact ⟨q v + 1, fun w w1 w2 => by rw [em_inj h w1 v1 (w2.trans v2.symm)], fun h9 => absurd ⟨v, v1, v2⟩ h9⟩
    · exact ⟨0, fun v v1 v2 => absurd ⟨v, v1, v2⟩ hj, fun _ => rfl⟩
  obtain ⟨L, hL⟩ := Classical.axiomOfChoice ex
  have key := hp L (fun i hi => by
    by_cases hj : ∃ v, v < A.flatten.length ∧ lbv A f v = i
    · obtain ⟨v, v1, v2⟩ := hj
      obtain ⟨m1, m2, m3, m4⟩ := em_mt h v1
      have a1 : T.2.2.1.1 i = lbv A f (rn_nx A v) := by
        rw [← v2]
        exact h.2.2.2.2.2.1 v v1
      rw [(hL i).1 v v1 v2, (hL _).1 _ (rnx_lt v1) a1.symm, (hL _).1 _ m1 (by rw [m3, v2]), hq1 v v1, hq2 v v1]
      exact ⟨rfl, rfl⟩
    · have n1 : ¬ ∃ v, v < A.flatten.length ∧ lbv A f v = T.2.2.1.1 i := by
        rintro ⟨v, v1, v2⟩
        refine hj ⟨rn_pv A v, rn_pv_lt v1, (bj_vn hv).2 _ _ (em_lt h (rn_pv_lt v1)) hi ?_⟩
        rw [h.2.2.2.2.2.1 _ (rn_pv_lt v1), nx_pv v1]
        exact v2
      have n2 : ¬ ∃ v, v < A.flatten.length ∧ lbv A f v = mt i := by
        rintro ⟨v, v1, v2⟩
        refine hj ⟨mtf A v, (em_mt h v1).1, ?_⟩
        rw [(em_mt h v1).2.2.1, v2]
        exact mt_mt i
      rw [(hL i).2 hj, (hL _).2 n1, (hL _).2 n2]
      exact ⟨rfl, rfl⟩)
  rw [(hL _).1 u hu rfl] at key
  by_cases hj : ∃ v, v < A.flatten.length ∧ lbv A f v = j
  · obtain ⟨v, v1, v2⟩ := hj
    rw [(hL j).1 v v1 v2] at key
    exact ⟨v, v1, v2, by omega⟩
  · rw [(hL j).2 hj] at key
    omega
/-- all of a list is one part -/
def cnA (A : rn_L) (f : Nat → Nat) (T : ow_NT) : Prop := A.flatten ≠ [] ∧ ∀ u v, u < A.flatten.length → v < A.flatten.length → ptN T.1 T.2.2.1.1 (lbv A f u) (lbv A f v)
/-- a list is its own least code -/
def lsA9 (A : rn_L) (sg : Nat → Bool) : Prop := lsC A sg (List.range A.flatten.length) = some (tk sg A)
theorem sft_0 (U : List Nat) : sft 0 U = U := by
  unfold sft
  rw [show (fun t => if t = 0 then 0 else t + 4 * 0) = (id : Nat → Nat) from funext (fun t => by
    show (if t = 0 then 0 else t + 4 * 0) = t
    split <;> omega), List.map_id]
theorem pkR_one (h : emN W sg k R) (hv : vn R.1 R.2.2.1) (hc : cnA W k R) (hne : ∀ L, L ∈ W → L ≠ []) (hk : mk W m P) : lsC W sg (List.range W.flatten.length) = some (pkR W sg m P) := by
  have hl : 0 < W.flatten.length := List.length_pos_iff.mpr hc.1
  have hd := wkF_ok h.1
  have vis : ∀ c, c < W.length → ∃ v, v < W.flatten.length ∧ rn_c W v = c := fun c hcl => by
    obtain ⟨L, L1, L2⟩ := ring_sg W c hcl
    have hL := hne L L1
    rw [← L2] at hL
    have : sg9 (rn_b W c) (rn_b W (c + 1)) ≠ [] := fun e => hL (by rw [e]; rfl)
    obtain ⟨j, hj⟩ := List.exists_mem_of_ne_nil _ this
    have hj := sg9_m.mp hj
    have := rn_b_le W (c + 1)
    exact ⟨j, by omega, rn_c_of W c j hj.1 hj.2⟩
  have one : ∀ u v, u < W.flatten.length → v < W.flatten.length → m (rn_c W u) = m (rn_c W v) := fun u v hu hv9 => by
    obtain ⟨w, w1, w2, w3⟩ := em_lab h hv (q := fun v => m (rn_c W v)) (fun v hv => by
      show m (rn_c W (rn_nx W v)) = m (rn_c W v)
      rw [c_nx hv]) (fun v hv => (hk.2.1 _ _ ⟨v, mtf W v, mtf_mt hd hv, rfl, rfl⟩).symm) hu (hc.2 u v hu hv9)
    rw [← em_inj h w1 hv9 w2]
    exact w3.symm
  have hP : P = 1 := by
    have h0 := hk.1 _ (rn_c_in W 0 hl).1
    have key : ∀ p, p < P → p = m (rn_c W 0) := fun p hp => by
      obtain ⟨c, c1, c2⟩ := hk.2.2.2 p hp
      obtain ⟨v, v1, v2⟩ := vis c c1
      rw [← c2, ← v2]
      exact one v 0 v1 hl
    have a1 := key 0 (by omega)
    rcases Nat.lt_or_ge 1 P with q | q
    · have := key 1 q
      omega
    · omega
  subst hP
  have m0 : ∀ v, v < W.flatten.length → m (rn_c W v) = 0 := fun v hv => by
    have := hk.1 _ (rn_c_in W v hv).1
    omega
  have hpv : pvl W m 0 W.flatten.length = List.range W.flatten.length := by
    unfold pvl
    exact List.filter_eq_self.mpr (fun v hv => decide_eq_true (m0 v (List.mem_range.mp hv)))
  obtain ⟨U, hU⟩ := lsC_ne (A := W) (sg := sg) (vs := List.range W.flatten.length) (fun e => by
    have := congrArg List.length e
    rw [List.length_range] at this
    have : W.flatten.length = 0 := this
    omega)
  have hrw : rwL W sg m 1 = [(W.flatten.length, U)] := by
    rw [rwL_s]
    unfold rwA
    rw [hpv, hU, List.length_range]
    rfl
  have hcir : cir W m 1 = 0 := by
    rw [cir_eq hk]
    unfold cirs
    exact List.countP_eq_zero.mpr (fun L hL e => hne L hL (List.isEmpty_iff.mp e))
  rw [hU]
  unfold pkR
  rw [hrw, hcir]
  have hs := (sel_perm (R := [(W.flatten.length, U)])).1
  generalize sel [(W.flatten.length, U)] [(W.flatten.length, U)].length (fun _ => false) = ps at hs
  have hs := List.perm_singleton.mp hs
  cases ps with
  | nil => cases hs
  | cons p ps =>
    cases ps with
    | cons p2 ps => exact absurd (List.cons.inj hs).2 (List.cons_ne_nil _ _)
    | nil =>
      have hs : rAt [(W.flatten.length, U)] p = (W.flatten.length, U) := (List.cons.inj hs).1
      show some U = some (sft 0 (rAt [(W.flatten.length, U)] p).2 ++ [] ++ [])
      rw [hs, List.append_nil, List.append_nil, sft_0]
/-- the row of a piece is its own least code, and the net shows it -/
theorem em_row (h : emN W sg k R) (hv : vn R.1 R.2.2.1) (hc : cnA W k R) (hne : ∀ L, L ∈ W → L ≠ []) (h6 : W.length ≤ 6) (hk : mk W m P) : ∃ A' sg' g', pkR W sg m P = tk sg' A' ∧ okF A'.flatten (W.flatten.length / 2) ∧ A'.length = W.length ∧ emN A' sg' g' R ∧ cnA A' g' R ∧ lsA9 A' sg' ∧ ∀ u, u < A'.flatten.length → ∃ v, v < W.flatten.length ∧ lbv A' g' u = lbv W k v := by
  have hlen := h.2.1
  have h12 := h.2.2.1
  obtain ⟨f, R0, i1, i2⟩ := net_of h.1 (by omega) h6 sg
  obtain ⟨Cs, os, hZ⟩ := cp_ex i2
  obtain ⟨A', sg', e1, e2, e3, e4, f', e5⟩ := enc_iso i1 h6 i2 hk hZ
  obtain ⟨g', g1, g2⟩ := em_tr e5 (isoV_of i1 i2.1) h
  have hR0 : W.flatten.length / 2 = R0.1 := by
    have := i1.2.1
    omega
  have hlA : A'.flatten.length = W.flatten.length := by
    rw [okF_len e2.1, i1.2.1]
  have im : ∀ u, u < A'.flatten.length → ∃ v, v < W.flatten.length ∧ lbv A' g' u = lbv W k v := fun u hu => by
    obtain ⟨q, q1, q2⟩ := g2 _ (vAt_mem hu)
    obtain ⟨v, v1, rfl⟩ := mem_vAt q1
    exact ⟨v, v1, q2⟩
  have hcA : cnA A' g' R := by
    refine ⟨fun e => hc.1 (List.eq_nil_of_length_eq_zero (by rw [← hlA, e]; rfl)), fun u v hu hv => ?_⟩
    obtain ⟨a, a1, a2⟩ := im u hu
    obtain ⟨b, b1, b2⟩ := im v hv
    rw [a2, b2]
    exact hc.2 a b a1 b1
  have hU := pkR_one h hv hc hne hk
  have hl : 0 < W.flatten.length := List.length_pos_iff.mpr hc.1
  refine ⟨A', sg', g', e1, by rw [hR0]; exact e2.1, e4, g1, hcA, ?_, im⟩
  unfold lsA9
  rw [e1] at hU
  generalize tk sg' A' = U at hU
  obtain ⟨U', hU'⟩ := lsC_ne (A := A') (sg := sg') (vs := List.range A'.flatten.length) (fun e => by
    have := congrArg List.length e
    rw [List.length_range] at this
    have : A'.flatten.length = 0 := this
    omega)
  obtain ⟨w0, w1, w2⟩ := lsC_mem _ hU
  obtain ⟨s0, s1, s2⟩ := lsC_mem _ hU'
  have w1 := List.mem_range.mp w1
  have s1 := List.mem_range.mp s1
  have a1 : lexD U U' ≤ 0 := by
    obtain ⟨w, x1, x2⟩ := im s0 s1
    rw [s2, ← em_code g1 (by omega) s1, x2, em_code h (by omega) x1]
    exact lsC_le _ U hU w (List.mem_range.mpr x1)
  have a2 : lexD U' U ≤ 0 := by
    have hq : ∃ s, s < A'.flatten.length ∧ lbv A' g' s = lbv W k w0 := by
      obtain ⟨w, x1, x2⟩ := im 0 (by omega)
      obtain ⟨s, y1, y2, _⟩ := em_lab g1 hv (q := fun _ => 0) (fun _ _ => rfl) (fun _ _ => rfl) (u := 0) (by omega) (j := lbv W k w0) (by rw [x2]; exact hc.2 w w0 x1 w1)
      exact ⟨s, y1, y2⟩
    obtain ⟨s, y1, y2⟩ := hq
    rw [w2, ← em_code h (by omega) w1, ← y2, em_code g1 (by omega) y1]
    exact lsC_le _ U' hU' s (List.mem_range.mpr y1)
  have a3 := lexD_sym U U'
  rw [hU', lexD_0 U U' (by omega)]
end XSU9
end
