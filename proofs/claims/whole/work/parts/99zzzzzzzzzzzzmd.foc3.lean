/-! frames of the class, on -/
theorem fb_X5_identityOf_0 {K : Nat} {vl : Nat → Nat} {z0 z : ow_MS}  {go : Nat → Int32 → Int32 → Int32 → ow_MS → Option (Int32 × ow_MS)} {x0 : Int32} {x1 : Int32} {x2 : Int32} (hgo : ∀ (L : Nat) (x0 : Int32) (x1 : Int32) (x2 : Int32) (z : ow_MS), fr (fun _ => False) z0 z → Fo Prod.snd (fun _ => False) z0 (go L x0 x1 x2 z)) (hz : fr (fun _ => False) z0 z)  : Fo Prod.snd (fun _ => False) z0 (cm_X5_identityOf_0 vl K go x0 x1 x2 z) := by
  unfold cm_X5_identityOf_0
  exact (hgo 1 _ _ _ z hz)
theorem fb_X5_identityOf_1 {K : Nat} {vl : Nat → Nat} {z0 z : ow_MS}  {go : Nat → Int32 → Int32 → Int32 → ow_MS → Option (Int32 × ow_MS)} {x0 : Int32} {x1 : Int32} {x2 : Int32} (hgo : ∀ (L : Nat) (x0 : Int32) (x1 : Int32) (x2 : Int32) (z : ow_MS), fr (fun _ => False) z0 z → Fo Prod.snd (fun _ => False) z0 (go L x0 x1 x2 z)) (hz : fr (fun _ => False) z0 z)  : Fo Prod.snd (fun _ => False) z0 (cm_X5_identityOf_1 vl K go x0 x1 x2 z) := by
  unfold cm_X5_identityOf_1
  exact (fo_if (fo_some hz) (hgo 1 _ _ _ z hz))
theorem fq_X5_identityOf {K : Nat} {vl : Nat → Nat} {z0 : ow_MS}  : ∀ (k L : Nat) (x0 : Int32) (x1 : Int32) (x2 : Int32) (z : ow_MS), fr (fun _ => False) z0 z → Fo Prod.snd (fun _ => False) z0 (c_X5_identityOf vl K k L x0 x1 x2 z)
  | 0 => by
    intros
    exact fo_none
  | k + 1 => by
    intro L x0 x1 x2 z hz 
    show Fo Prod.snd (fun _ => False) z0 (cb_X5_identityOf vl K (c_X5_identityOf vl K k) L x0 x1 x2 z)
    unfold cb_X5_identityOf
    split
    · exact fb_X5_identityOf_0 (fq_X5_identityOf k) hz 
    · exact fb_X5_identityOf_1 (fq_X5_identityOf k) hz 
    · exact fo_none
theorem ff_X5_identityOf {vl : Nat → Nat} {K : Nat} {x0 : Int32} {z : ow_MS} : Fo Prod.snd (fun _ => False) z (ce_X5_identityOf vl K x0 z) := fq_X5_identityOf K 0 _ _ _ z fr_rf 
theorem fb_X5_deltaOf_0 {K : Nat} {vl : Nat → Nat} {z0 z : ow_MS}  {go : Nat → Int32 → Int32 → Int32 → ow_MS → Option (Int32 × ow_MS)} {x0 : Int32} {x1 : Int32} {x2 : Int32} (hgo : ∀ (L : Nat) (x0 : Int32) (x1 : Int32) (x2 : Int32) (z : ow_MS), fr (fun _ => False) z0 z → Fo Prod.snd (fun _ => False) z0 (go L x0 x1 x2 z)) (hz : fr (fun _ => False) z0 z)  : Fo Prod.snd (fun _ => False) z0 (cm_X5_deltaOf_0 vl K go x0 x1 x2 z) := by
  unfold cm_X5_deltaOf_0
  exact (hgo 1 _ _ _ z hz)
theorem fb_X5_deltaOf_1 {K : Nat} {vl : Nat → Nat} {z0 z : ow_MS}  {go : Nat → Int32 → Int32 → Int32 → ow_MS → Option (Int32 × ow_MS)} {x0 : Int32} {x1 : Int32} {x2 : Int32} (hgo : ∀ (L : Nat) (x0 : Int32) (x1 : Int32) (x2 : Int32) (z : ow_MS), fr (fun _ => False) z0 z → Fo Prod.snd (fun _ => False) z0 (go L x0 x1 x2 z)) (hz : fr (fun _ => False) z0 z)  : Fo Prod.snd (fun _ => False) z0 (cm_X5_deltaOf_1 vl K go x0 x1 x2 z) := by
  unfold cm_X5_deltaOf_1
  exact (fo_if (fo_some hz) (hgo 1 _ _ _ z hz))
theorem fq_X5_deltaOf {K : Nat} {vl : Nat → Nat} {z0 : ow_MS}  : ∀ (k L : Nat) (x0 : Int32) (x1 : Int32) (x2 : Int32) (z : ow_MS), fr (fun _ => False) z0 z → Fo Prod.snd (fun _ => False) z0 (c_X5_deltaOf vl K k L x0 x1 x2 z)
  | 0 => by
    intros
    exact fo_none
  | k + 1 => by
    intro L x0 x1 x2 z hz 
    show Fo Prod.snd (fun _ => False) z0 (cb_X5_deltaOf vl K (c_X5_deltaOf vl K k) L x0 x1 x2 z)
    unfold cb_X5_deltaOf
    split
    · exact fb_X5_deltaOf_0 (fq_X5_deltaOf k) hz 
    · exact fb_X5_deltaOf_1 (fq_X5_deltaOf k) hz 
    · exact fo_none
theorem ff_X5_deltaOf {vl : Nat → Nat} {K : Nat} {x0 : Int32} {z : ow_MS} : Fo Prod.snd (fun _ => False) z (ce_X5_deltaOf vl K x0 z) := fq_X5_deltaOf K 0 _ _ _ z fr_rf 
theorem ff_X5_begin {vl : Nat → Nat} {K : Nat} {r0 : Nat} {x1 : Int32} {z : ow_MS} : Fo id (fun g => r0 + 1 ≤ g ∧ g ≤ r0 + 6) z (ce_X5_begin vl K r0 x1 z) := by
  unfold ce_X5_begin cm_X5_begin_0
  exact (fo_wrF (by omega) fr_rf (fun z1 h_z1 => (fo_wrF (by omega) h_z1 (fun z2 h_z2 => (fo_wrF (by omega) h_z2 (fun z3 h_z3 => (fo_cs1 ff_X5_identityOf (fun g hg => hg.elim) h_z3 (fun v5 z4 h_z4 => (fo_wrF (by omega) h_z4 (fun z6 h_z6 => (fo_cs1 ff_X5_deltaOf (fun g hg => hg.elim) h_z6 (fun v8 z7 h_z7 => (fo_wrF (by omega) h_z7 (fun z9 h_z9 => (fo_some h_z9)))))))))))))))
theorem ff_X5_image {vl : Nat → Nat} {K : Nat} {x0 : Int32} {x1 : Int32} {z : ow_MS} : Fo Prod.snd (fun _ => False) z (ce_X5_image vl K x0 x1 z) := by
  unfold ce_X5_image cm_X5_image_0
  exact (fo_some fr_rf)
theorem ff_X5_exchanged {vl : Nat → Nat} {K : Nat} {x0 : Int32} {x1 : Int32} {z : ow_MS} : Fo Prod.snd (fun _ => False) z (ce_X5_exchanged vl K x0 x1 z) := by
  unfold ce_X5_exchanged cm_X5_exchanged_0
  exact (fo_cs1 ff_X5_image (fun g hg => hg.elim) fr_rf (fun v2 z1 h_z1 => (fo_cs1 ff_X5_image (fun g hg => hg.elim) h_z1 (fun v4 z3 h_z3 => (fo_some h_z3)))))
theorem fb_X5_invert_0 {K : Nat} {vl : Nat → Nat} {z0 z : ow_MS}  {go : Nat → Int32 → Int32 → Int32 → Int32 → ow_MS → Option (Int32 × ow_MS)} {x0 : Int32} {x1 : Int32} {x2 : Int32} {x3 : Int32} (hgo : ∀ (L : Nat) (x0 : Int32) (x1 : Int32) (x2 : Int32) (x3 : Int32) (z : ow_MS), fr (fun _ => False) z0 z → Fo Prod.snd (fun _ => False) z0 (go L x0 x1 x2 x3 z)) (hz : fr (fun _ => False) z0 z)  : Fo Prod.snd (fun _ => False) z0 (cm_X5_invert_0 vl K go x0 x1 x2 x3 z) := by
  unfold cm_X5_invert_0
  exact (hgo 1 _ _ _ _ z hz)
theorem fb_X5_invert_1 {K : Nat} {vl : Nat → Nat} {z0 z : ow_MS}  {go : Nat → Int32 → Int32 → Int32 → Int32 → ow_MS → Option (Int32 × ow_MS)} {x0 : Int32} {x1 : Int32} {x2 : Int32} {x3 : Int32} (hgo : ∀ (L : Nat) (x0 : Int32) (x1 : Int32) (x2 : Int32) (x3 : Int32) (z : ow_MS), fr (fun _ => False) z0 z → Fo Prod.snd (fun _ => False) z0 (go L x0 x1 x2 x3 z)) (hz : fr (fun _ => False) z0 z)  : Fo Prod.snd (fun _ => False) z0 (cm_X5_invert_1 vl K go x0 x1 x2 x3 z) := by
  unfold cm_X5_invert_1
  exact (fo_if (fo_some hz) (fo_cs1 ff_X5_image (fun g hg => hg.elim) hz (fun v2 z1 h_z1 => (hgo 1 _ _ _ _ z1 h_z1))))
theorem fq_X5_invert {K : Nat} {vl : Nat → Nat} {z0 : ow_MS}  : ∀ (k L : Nat) (x0 : Int32) (x1 : Int32) (x2 : Int32) (x3 : Int32) (z : ow_MS), fr (fun _ => False) z0 z → Fo Prod.snd (fun _ => False) z0 (c_X5_invert vl K k L x0 x1 x2 x3 z)
  | 0 => by
    intros
    exact fo_none
  | k + 1 => by
    intro L x0 x1 x2 x3 z hz 
    show Fo Prod.snd (fun _ => False) z0 (cb_X5_invert vl K (c_X5_invert vl K k) L x0 x1 x2 x3 z)
    unfold cb_X5_invert
    split
    · exact fb_X5_invert_0 (fq_X5_invert k) hz 
    · exact fb_X5_invert_1 (fq_X5_invert k) hz 
    · exact fo_none
theorem ff_X5_invert {vl : Nat → Nat} {K : Nat} {x0 : Int32} {x1 : Int32} {z : ow_MS} : Fo Prod.snd (fun _ => False) z (ce_X5_invert vl K x0 x1 z) := fq_X5_invert K 0 _ _ _ _ z fr_rf 
theorem fb_X5_movable_0 {K : Nat} {vl : Nat → Nat} {z0 z : ow_MS} {pr0 : Nat} {go : Nat → Int32 → Int32 → Int32 → Nat → ow_MS → Option (Int32 × ow_MS)} {x1 : Int32} {x2 : Int32} {x3 : Int32} {r0 : Nat} (hgo : ∀ (L : Nat) (x1 : Int32) (x2 : Int32) (x3 : Int32) (r0 : Nat) (z : ow_MS), fr (fun _ => False) z0 z → (L = 0 ∨ L = 1 ∨ L = 2 → r0 = pr0) → Fo Prod.snd (fun _ => False) z0 (go L x1 x2 x3 r0 z)) (hz : fr (fun _ => False) z0 z) (e_r0 : r0 = pr0) : Fo Prod.snd (fun _ => False) z0 (cm_X5_movable_0 vl K go x1 x2 x3 r0 z) := by
  unfold cm_X5_movable_0
  exact (hgo 1 _ _ _ _ z hz (fun _ => by omega))
theorem fb_X5_movable_1 {K : Nat} {vl : Nat → Nat} {z0 z : ow_MS} {pr0 : Nat} {go : Nat → Int32 → Int32 → Int32 → Nat → ow_MS → Option (Int32 × ow_MS)} {x1 : Int32} {x2 : Int32} {x3 : Int32} {r0 : Nat} (hgo : ∀ (L : Nat) (x1 : Int32) (x2 : Int32) (x3 : Int32) (r0 : Nat) (z : ow_MS), fr (fun _ => False) z0 z → (L = 0 ∨ L = 1 ∨ L = 2 → r0 = pr0) → Fo Prod.snd (fun _ => False) z0 (go L x1 x2 x3 r0 z)) (hz : fr (fun _ => False) z0 z) (e_r0 : r0 = pr0) : Fo Prod.snd (fun _ => False) z0 (cm_X5_movable_1 vl K go x1 x2 x3 r0 z) := by
  unfold cm_X5_movable_1
  exact (fo_rdF (fun v1 => (fo_if (fo_some hz) (fo_cs1 ff_X5_image (fun g hg => hg.elim) hz (fun v3 z2 h_z2 => (fo_cs1 ff_X5_image (fun g hg => hg.elim) h_z2 (fun v5 z4 h_z4 => (fo_if (hgo 2 _ _ _ _ z4 h_z4 (fun _ => by omega)) (fo_cs1 ff_X5_image (fun g hg => hg.elim) h_z4 (fun v7 z6 h_z6 => (fo_cs1 ff_X5_image (fun g hg => hg.elim) h_z6 (fun v9 z8 h_z8 => (fo_if (hgo 2 _ _ _ _ z8 h_z8 (fun _ => by omega)) (fo_some h_z8))))))))))))))
theorem fb_X5_movable_2 {K : Nat} {vl : Nat → Nat} {z0 z : ow_MS} {pr0 : Nat} {go : Nat → Int32 → Int32 → Int32 → Nat → ow_MS → Option (Int32 × ow_MS)} {x1 : Int32} {x2 : Int32} {x3 : Int32} {r0 : Nat} (hgo : ∀ (L : Nat) (x1 : Int32) (x2 : Int32) (x3 : Int32) (r0 : Nat) (z : ow_MS), fr (fun _ => False) z0 z → (L = 0 ∨ L = 1 ∨ L = 2 → r0 = pr0) → Fo Prod.snd (fun _ => False) z0 (go L x1 x2 x3 r0 z)) (hz : fr (fun _ => False) z0 z) (e_r0 : r0 = pr0) : Fo Prod.snd (fun _ => False) z0 (cm_X5_movable_2 vl K go x1 x2 x3 r0 z) := by
  unfold cm_X5_movable_2
  exact (hgo 1 _ _ _ _ z hz (fun _ => by omega))
theorem fq_X5_movable {K : Nat} {vl : Nat → Nat} {z0 : ow_MS} {pr0 : Nat} : ∀ (k L : Nat) (x1 : Int32) (x2 : Int32) (x3 : Int32) (r0 : Nat) (z : ow_MS), fr (fun _ => False) z0 z → (L = 0 ∨ L = 1 ∨ L = 2 → r0 = pr0) → Fo Prod.snd (fun _ => False) z0 (c_X5_movable vl K k L x1 x2 x3 r0 z)
  | 0 => by
    intros
    exact fo_none
  | k + 1 => by
    intro L x1 x2 x3 r0 z hz h9_r0
    show Fo Prod.snd (fun _ => False) z0 (cb_X5_movable vl K (c_X5_movable vl K k) L x1 x2 x3 r0 z)
    unfold cb_X5_movable
    split
    · exact fb_X5_movable_0 (fq_X5_movable k) hz (h9_r0 (by decide))
    · exact fb_X5_movable_1 (fq_X5_movable k) hz (h9_r0 (by decide))
    · exact fb_X5_movable_2 (fq_X5_movable k) hz (h9_r0 (by decide))
    · exact fo_none
theorem ff_X5_movable {vl : Nat → Nat} {K : Nat} {r0 : Nat} {x1 : Int32} {x2 : Int32} {z : ow_MS} : Fo Prod.snd (fun _ => False) z (ce_X5_movable vl K r0 x1 x2 z) := fq_X5_movable (pr0 := r0) K 0 _ _ _ _ z fr_rf (fun _ => rfl)
theorem fb_X5_weigh_0 {K : Nat} {vl : Nat → Nat} {z0 z : ow_MS} {pr0 : Nat} {go : Nat → Int32 → Int32 → Int32 → Int32 → Int32 → Nat → ow_MS → Option (Int32 × ow_MS)} {x1 : Int32} {x2 : Int32} {x3 : Int32} {x4 : Int32} {x5 : Int32} {r0 : Nat} (hgo : ∀ (L : Nat) (x1 : Int32) (x2 : Int32) (x3 : Int32) (x4 : Int32) (x5 : Int32) (r0 : Nat) (z : ow_MS), fr (fun g => g = pr0 + 4) z0 z → (L = 0 ∨ L = 1 ∨ L = 2 → r0 = pr0) → Fo Prod.snd (fun g => g = pr0 + 4) z0 (go L x1 x2 x3 x4 x5 r0 z)) (hz : fr (fun g => g = pr0 + 4) z0 z) (e_r0 : r0 = pr0) : Fo Prod.snd (fun g => g = pr0 + 4) z0 (cm_X5_weigh_0 vl K go x1 x2 x3 x4 x5 r0 z) := by
  unfold cm_X5_weigh_0
  exact (fc_crI (fun v1 => (fo_rdF (fun v2 => (fo_cs1 ff_X5_invert (fun g hg => hg.elim) hz (fun v4 z3 h_z3 => (fc_crI (fun v5 => (fo_cs1 ff_X5_movable (fun g hg => hg.elim) h_z3 (fun v7 z6 h_z6 => (fo_if (fo_okZ (fo_some h_z6)) (hgo 1 _ _ _ _ _ _ z6 h_z6 (fun _ => by omega)))))))))))))
theorem fb_X5_weigh_1 {K : Nat} {vl : Nat → Nat} {z0 z : ow_MS} {pr0 : Nat} {go : Nat → Int32 → Int32 → Int32 → Int32 → Int32 → Nat → ow_MS → Option (Int32 × ow_MS)} {x1 : Int32} {x2 : Int32} {x3 : Int32} {x4 : Int32} {x5 : Int32} {r0 : Nat} (hgo : ∀ (L : Nat) (x1 : Int32) (x2 : Int32) (x3 : Int32) (x4 : Int32) (x5 : Int32) (r0 : Nat) (z : ow_MS), fr (fun g => g = pr0 + 4) z0 z → (L = 0 ∨ L = 1 ∨ L = 2 → r0 = pr0) → Fo Prod.snd (fun g => g = pr0 + 4) z0 (go L x1 x2 x3 x4 x5 r0 z)) (hz : fr (fun g => g = pr0 + 4) z0 z) (e_r0 : r0 = pr0) : Fo Prod.snd (fun g => g = pr0 + 4) z0 (cm_X5_weigh_1 vl K go x1 x2 x3 x4 x5 r0 z) := by
  unfold cm_X5_weigh_1
  exact (fo_if (hgo 2 _ _ _ _ _ _ z hz (fun _ => by omega)) (fo_if (hgo 2 _ _ _ _ _ _ z hz (fun _ => by omega)) (fo_cs1 ff_X5_exchanged (fun g hg => hg.elim) hz (fun v9 z8 h_z8 => (fo_cs1 ff_X5_exchanged (fun g hg => hg.elim) h_z8 (fun v11 z10 h_z10 => (fo_cs1 ff_X5_movable (fun g hg => hg.elim) h_z10 (fun v13 z12 h_z12 => (hgo 1 _ _ _ _ _ _ z12 h_z12 (fun _ => by omega))))))))))
theorem fb_X5_weigh_2 {K : Nat} {vl : Nat → Nat} {z0 z : ow_MS} {pr0 : Nat} {go : Nat → Int32 → Int32 → Int32 → Int32 → Int32 → Nat → ow_MS → Option (Int32 × ow_MS)} {x1 : Int32} {x2 : Int32} {x3 : Int32} {x4 : Int32} {x5 : Int32} {r0 : Nat} (hgo : ∀ (L : Nat) (x1 : Int32) (x2 : Int32) (x3 : Int32) (x4 : Int32) (x5 : Int32) (r0 : Nat) (z : ow_MS), fr (fun g => g = pr0 + 4) z0 z → (L = 0 ∨ L = 1 ∨ L = 2 → r0 = pr0) → Fo Prod.snd (fun g => g = pr0 + 4) z0 (go L x1 x2 x3 x4 x5 r0 z)) (hz : fr (fun g => g = pr0 + 4) z0 z) (e_r0 : r0 = pr0) : Fo Prod.snd (fun g => g = pr0 + 4) z0 (cm_X5_weigh_2 vl K go x1 x2 x3 x4 x5 r0 z) := by
  unfold cm_X5_weigh_2
  exact (fo_rdF (fun v14 => (fo_cs1 ff_X5_invert (fun g hg => hg.elim) hz (fun v16 z15 h_z15 => (fc_ctI (by omega) h_z15 (fun z17 h_z17 => (fc_ctI (by omega) h_z17 (fun z18 h_z18 => (fo_okZ (fo_some h_z18))))))))))
theorem fq_X5_weigh {K : Nat} {vl : Nat → Nat} {z0 : ow_MS} {pr0 : Nat} : ∀ (k L : Nat) (x1 : Int32) (x2 : Int32) (x3 : Int32) (x4 : Int32) (x5 : Int32) (r0 : Nat) (z : ow_MS), fr (fun g => g = pr0 + 4) z0 z → (L = 0 ∨ L = 1 ∨ L = 2 → r0 = pr0) → Fo Prod.snd (fun g => g = pr0 + 4) z0 (c_X5_weigh vl K k L x1 x2 x3 x4 x5 r0 z)
  | 0 => by
    intros
    exact fo_none
  | k + 1 => by
    intro L x1 x2 x3 x4 x5 r0 z hz h9_r0
    show Fo Prod.snd (fun g => g = pr0 + 4) z0 (cb_X5_weigh vl K (c_X5_weigh vl K k) L x1 x2 x3 x4 x5 r0 z)
    unfold cb_X5_weigh
    split
    · exact fb_X5_weigh_0 (fq_X5_weigh k) hz (h9_r0 (by decide))
    · exact fb_X5_weigh_1 (fq_X5_weigh k) hz (h9_r0 (by decide))
    · exact fb_X5_weigh_2 (fq_X5_weigh k) hz (h9_r0 (by decide))
    · exact fo_none
theorem ff_X5_weigh {vl : Nat → Nat} {K : Nat} {r0 : Nat} {x1 : Int32} {z : ow_MS} : Fo Prod.snd (fun g => g = r0 + 4) z (ce_X5_weigh vl K r0 x1 z) := fq_X5_weigh (pr0 := r0) K 0 _ _ _ _ _ _ z fr_rf (fun _ => rfl)
theorem fb_X5_strip_0 {K : Nat} {vl : Nat → Nat} {z0 z : ow_MS} {pr0 : Nat} {go : Nat → Int32 → Nat → ow_MS → Option ow_MS} {x1 : Int32} {r0 : Nat} (hgo : ∀ (L : Nat) (x1 : Int32) (r0 : Nat) (z : ow_MS), fr (fun g => pr0 + 2 ≤ g ∧ g ≤ pr0 + 4) z0 z → (L = 0 ∨ L = 1 ∨ L = 2 ∨ L = 3 → r0 = pr0) → Fo id (fun g => pr0 + 2 ≤ g ∧ g ≤ pr0 + 4) z0 (go L x1 r0 z)) (hz : fr (fun g => pr0 + 2 ≤ g ∧ g ≤ pr0 + 4) z0 z) (e_r0 : r0 = pr0) : Fo id (fun g => pr0 + 2 ≤ g ∧ g ≤ pr0 + 4) z0 (cm_X5_strip_0 vl K go x1 r0 z) := by
  unfold cm_X5_strip_0
  exact (hgo 1 _ _ z hz (fun _ => by omega))
theorem fb_X5_strip_1 {K : Nat} {vl : Nat → Nat} {z0 z : ow_MS} {pr0 : Nat} {go : Nat → Int32 → Nat → ow_MS → Option ow_MS} {x1 : Int32} {r0 : Nat} (hgo : ∀ (L : Nat) (x1 : Int32) (r0 : Nat) (z : ow_MS), fr (fun g => pr0 + 2 ≤ g ∧ g ≤ pr0 + 4) z0 z → (L = 0 ∨ L = 1 ∨ L = 2 ∨ L = 3 → r0 = pr0) → Fo id (fun g => pr0 + 2 ≤ g ∧ g ≤ pr0 + 4) z0 (go L x1 r0 z)) (hz : fr (fun g => pr0 + 2 ≤ g ∧ g ≤ pr0 + 4) z0 z) (e_r0 : r0 = pr0) : Fo id (fun g => pr0 + 2 ≤ g ∧ g ≤ pr0 + 4) z0 (cm_X5_strip_1 vl K go x1 r0 z) := by
  unfold cm_X5_strip_1
  exact (fo_rdF (fun v1 => (fo_if (hgo 2 _ _ z hz (fun _ => by omega)) (fc_crI (fun v2 => (fo_rdF (fun v3 => (fo_if (hgo 1 _ _ z hz (fun _ => by omega)) (hgo 2 _ _ z hz (fun _ => by omega))))))))))
theorem fb_X5_strip_2 {K : Nat} {vl : Nat → Nat} {z0 z : ow_MS} {pr0 : Nat} {go : Nat → Int32 → Nat → ow_MS → Option ow_MS} {x1 : Int32} {r0 : Nat} (hgo : ∀ (L : Nat) (x1 : Int32) (r0 : Nat) (z : ow_MS), fr (fun g => pr0 + 2 ≤ g ∧ g ≤ pr0 + 4) z0 z → (L = 0 ∨ L = 1 ∨ L = 2 ∨ L = 3 → r0 = pr0) → Fo id (fun g => pr0 + 2 ≤ g ∧ g ≤ pr0 + 4) z0 (go L x1 r0 z)) (hz : fr (fun g => pr0 + 2 ≤ g ∧ g ≤ pr0 + 4) z0 z) (e_r0 : r0 = pr0) : Fo id (fun g => pr0 + 2 ≤ g ∧ g ≤ pr0 + 4) z0 (cm_X5_strip_2 vl K go x1 r0 z) := by
  unfold cm_X5_strip_2
  exact (fo_rdF (fun v4 => (fo_wrF (by omega) hz (fun z5 h_z5 => (fo_rdF (fun v6 => (fo_wrF (by omega) h_z5 (fun z7 h_z7 => (fo_rdF (fun v8 => (fc_cpI (by omega) h_z7 (fun z9 h_z9 => (hgo 3 _ _ z9 h_z9 (fun _ => by omega))))))))))))))
theorem fb_X5_strip_3 {K : Nat} {vl : Nat → Nat} {z0 z : ow_MS} {pr0 : Nat} {go : Nat → Int32 → Nat → ow_MS → Option ow_MS} {x1 : Int32} {r0 : Nat} (hgo : ∀ (L : Nat) (x1 : Int32) (r0 : Nat) (z : ow_MS), fr (fun g => pr0 + 2 ≤ g ∧ g ≤ pr0 + 4) z0 z → (L = 0 ∨ L = 1 ∨ L = 2 ∨ L = 3 → r0 = pr0) → Fo id (fun g => pr0 + 2 ≤ g ∧ g ≤ pr0 + 4) z0 (go L x1 r0 z)) (hz : fr (fun g => pr0 + 2 ≤ g ∧ g ≤ pr0 + 4) z0 z) (e_r0 : r0 = pr0) : Fo id (fun g => pr0 + 2 ≤ g ∧ g ≤ pr0 + 4) z0 (cm_X5_strip_3 vl K go x1 r0 z) := by
  unfold cm_X5_strip_3
  exact (fo_rdF (fun v10 => (fo_if (fo_some hz) (fo_rdF (fun v11 => (fc_crI (fun v12 => (fo_rdF (fun v13 => (fo_if (fo_rdF (fun v14 => (fo_wrF (by omega) hz (fun z15 h_z15 => (hgo 3 _ _ z15 h_z15 (fun _ => by omega)))))) (fo_some hz)))))))))))
theorem fq_X5_strip {K : Nat} {vl : Nat → Nat} {z0 : ow_MS} {pr0 : Nat} : ∀ (k L : Nat) (x1 : Int32) (r0 : Nat) (z : ow_MS), fr (fun g => pr0 + 2 ≤ g ∧ g ≤ pr0 + 4) z0 z → (L = 0 ∨ L = 1 ∨ L = 2 ∨ L = 3 → r0 = pr0) → Fo id (fun g => pr0 + 2 ≤ g ∧ g ≤ pr0 + 4) z0 (c_X5_strip vl K k L x1 r0 z)
  | 0 => by
    intros
    exact fo_none
  | k + 1 => by
    intro L x1 r0 z hz h9_r0
    show Fo id (fun g => pr0 + 2 ≤ g ∧ g ≤ pr0 + 4) z0 (cb_X5_strip vl K (c_X5_strip vl K k) L x1 r0 z)
    unfold cb_X5_strip
    split
    · exact fb_X5_strip_0 (fq_X5_strip k) hz (h9_r0 (by decide))
    · exact fb_X5_strip_1 (fq_X5_strip k) hz (h9_r0 (by decide))
    · exact fb_X5_strip_2 (fq_X5_strip k) hz (h9_r0 (by decide))
    · exact fb_X5_strip_3 (fq_X5_strip k) hz (h9_r0 (by decide))
    · exact fo_none
theorem ff_X5_strip {vl : Nat → Nat} {K : Nat} {r0 : Nat} {z : ow_MS} : Fo id (fun g => r0 + 2 ≤ g ∧ g ≤ r0 + 4) z (ce_X5_strip vl K r0 z) := fq_X5_strip (pr0 := r0) K 0 _ _ z fr_rf (fun _ => rfl)
theorem fb_X5_putBehind_0 {K : Nat} {vl : Nat → Nat} {z0 z : ow_MS} {pr0 : Nat} {go : Nat → Int32 → Int32 → Int32 → Nat → ow_MS → Option ow_MS} {x1 : Int32} {x2 : Int32} {x3 : Int32} {r0 : Nat} (hgo : ∀ (L : Nat) (x1 : Int32) (x2 : Int32) (x3 : Int32) (r0 : Nat) (z : ow_MS), fr (fun g => pr0 + 2 ≤ g ∧ g ≤ pr0 + 4) z0 z → (L = 0 ∨ L = 1 ∨ L = 2 → r0 = pr0) → Fo id (fun g => pr0 + 2 ≤ g ∧ g ≤ pr0 + 4) z0 (go L x1 x2 x3 r0 z)) (hz : fr (fun g => pr0 + 2 ≤ g ∧ g ≤ pr0 + 4) z0 z) (e_r0 : r0 = pr0) : Fo id (fun g => pr0 + 2 ≤ g ∧ g ≤ pr0 + 4) z0 (cm_X5_putBehind_0 vl K go x1 x2 x3 r0 z) := by
  unfold cm_X5_putBehind_0
  exact (fo_rdF (fun v1 => (fo_if (fo_rdF (fun v2 => (fc_ctI (by omega) hz (fun z3 h_z3 => (fo_rdF (fun v4 => (fo_wrF (by omega) h_z3 (fun z5 h_z5 => (fo_rdF (fun v6 => (hgo 1 _ _ _ _ z5 h_z5 (fun _ => by omega)))))))))))) (fo_some hz))))
theorem fb_X5_putBehind_1 {K : Nat} {vl : Nat → Nat} {z0 z : ow_MS} {pr0 : Nat} {go : Nat → Int32 → Int32 → Int32 → Nat → ow_MS → Option ow_MS} {x1 : Int32} {x2 : Int32} {x3 : Int32} {r0 : Nat} (hgo : ∀ (L : Nat) (x1 : Int32) (x2 : Int32) (x3 : Int32) (r0 : Nat) (z : ow_MS), fr (fun g => pr0 + 2 ≤ g ∧ g ≤ pr0 + 4) z0 z → (L = 0 ∨ L = 1 ∨ L = 2 → r0 = pr0) → Fo id (fun g => pr0 + 2 ≤ g ∧ g ≤ pr0 + 4) z0 (go L x1 x2 x3 r0 z)) (hz : fr (fun g => pr0 + 2 ≤ g ∧ g ≤ pr0 + 4) z0 z) (e_r0 : r0 = pr0) : Fo id (fun g => pr0 + 2 ≤ g ∧ g ≤ pr0 + 4) z0 (cm_X5_putBehind_1 vl K go x1 x2 x3 r0 z) := by
  unfold cm_X5_putBehind_1
  exact (fo_if (hgo 2 _ _ _ _ z hz (fun _ => by omega)) (fo_if (hgo 2 _ _ _ _ z hz (fun _ => by omega)) (fo_cs1 ff_X5_weigh (fun g hg => by omega) hz (fun v8 z7 h_z7 => (hgo 1 _ _ _ _ z7 h_z7 (fun _ => by omega))))))
theorem fb_X5_putBehind_2 {K : Nat} {vl : Nat → Nat} {z0 z : ow_MS} {pr0 : Nat} {go : Nat → Int32 → Int32 → Int32 → Nat → ow_MS → Option ow_MS} {x1 : Int32} {x2 : Int32} {x3 : Int32} {r0 : Nat} (hgo : ∀ (L : Nat) (x1 : Int32) (x2 : Int32) (x3 : Int32) (r0 : Nat) (z : ow_MS), fr (fun g => pr0 + 2 ≤ g ∧ g ≤ pr0 + 4) z0 z → (L = 0 ∨ L = 1 ∨ L = 2 → r0 = pr0) → Fo id (fun g => pr0 + 2 ≤ g ∧ g ≤ pr0 + 4) z0 (go L x1 x2 x3 r0 z)) (hz : fr (fun g => pr0 + 2 ≤ g ∧ g ≤ pr0 + 4) z0 z) (e_r0 : r0 = pr0) : Fo id (fun g => pr0 + 2 ≤ g ∧ g ≤ pr0 + 4) z0 (cm_X5_putBehind_2 vl K go x1 x2 x3 r0 z) := by
  unfold cm_X5_putBehind_2
  exact (fo_cs0 ff_X5_strip (fun g hg => by omega) hz (fun z9 h_z9 => (fo_some h_z9)))
theorem fq_X5_putBehind {K : Nat} {vl : Nat → Nat} {z0 : ow_MS} {pr0 : Nat} : ∀ (k L : Nat) (x1 : Int32) (x2 : Int32) (x3 : Int32) (r0 : Nat) (z : ow_MS), fr (fun g => pr0 + 2 ≤ g ∧ g ≤ pr0 + 4) z0 z → (L = 0 ∨ L = 1 ∨ L = 2 → r0 = pr0) → Fo id (fun g => pr0 + 2 ≤ g ∧ g ≤ pr0 + 4) z0 (c_X5_putBehind vl K k L x1 x2 x3 r0 z)
  | 0 => by
    intros
    exact fo_none
  | k + 1 => by
    intro L x1 x2 x3 r0 z hz h9_r0
    show Fo id (fun g => pr0 + 2 ≤ g ∧ g ≤ pr0 + 4) z0 (cb_X5_putBehind vl K (c_X5_putBehind vl K k) L x1 x2 x3 r0 z)
    unfold cb_X5_putBehind
    split
    · exact fb_X5_putBehind_0 (fq_X5_putBehind k) hz (h9_r0 (by decide))
    · exact fb_X5_putBehind_1 (fq_X5_putBehind k) hz (h9_r0 (by decide))
    · exact fb_X5_putBehind_2 (fq_X5_putBehind k) hz (h9_r0 (by decide))
    · exact fo_none
theorem ff_X5_putBehind {vl : Nat → Nat} {K : Nat} {r0 : Nat} {x1 : Int32} {z : ow_MS} : Fo id (fun g => r0 + 2 ≤ g ∧ g ≤ r0 + 4) z (ce_X5_putBehind vl K r0 x1 z) := fq_X5_putBehind (pr0 := r0) K 0 _ _ _ _ z fr_rf (fun _ => rfl)
theorem ff_X5_exchangedBehind {vl : Nat → Nat} {K : Nat} {x0 : Int32} {x1 : Int32} {x2 : Int32} {z : ow_MS} : Fo Prod.snd (fun _ => False) z (ce_X5_exchangedBehind vl K x0 x1 x2 z) := by
  unfold ce_X5_exchangedBehind cm_X5_exchangedBehind_0
  exact (fo_cs1 ff_X5_invert (fun g hg => hg.elim) fr_rf (fun v2 z1 h_z1 => (fo_cs1 ff_X5_exchanged (fun g hg => hg.elim) h_z1 (fun v4 z3 h_z3 => (fo_cs1 ff_X5_invert (fun g hg => hg.elim) h_z3 (fun v6 z5 h_z5 => (fo_some h_z5)))))))
theorem fb_X5_turned_0 {K : Nat} {vl : Nat → Nat} {z0 z : ow_MS}  {go : Nat → Int32 → Int32 → Int32 → Int32 → ow_MS → Option (Int32 × ow_MS)} {x0 : Int32} {x1 : Int32} {x2 : Int32} {x3 : Int32} (hgo : ∀ (L : Nat) (x0 : Int32) (x1 : Int32) (x2 : Int32) (x3 : Int32) (z : ow_MS), fr (fun _ => False) z0 z → Fo Prod.snd (fun _ => False) z0 (go L x0 x1 x2 x3 z)) (hz : fr (fun _ => False) z0 z)  : Fo Prod.snd (fun _ => False) z0 (cm_X5_turned_0 vl K go x0 x1 x2 x3 z) := by
  unfold cm_X5_turned_0
  exact (hgo 1 _ _ _ _ z hz)
theorem fb_X5_turned_1 {K : Nat} {vl : Nat → Nat} {z0 z : ow_MS}  {go : Nat → Int32 → Int32 → Int32 → Int32 → ow_MS → Option (Int32 × ow_MS)} {x0 : Int32} {x1 : Int32} {x2 : Int32} {x3 : Int32} (hgo : ∀ (L : Nat) (x0 : Int32) (x1 : Int32) (x2 : Int32) (x3 : Int32) (z : ow_MS), fr (fun _ => False) z0 z → Fo Prod.snd (fun _ => False) z0 (go L x0 x1 x2 x3 z)) (hz : fr (fun _ => False) z0 z)  : Fo Prod.snd (fun _ => False) z0 (cm_X5_turned_1 vl K go x0 x1 x2 x3 z) := by
  unfold cm_X5_turned_1
  exact (fo_if (fo_some hz) (fo_cs1 ff_X5_image (fun g hg => hg.elim) hz (fun v2 z1 h_z1 => (hgo 1 _ _ _ _ z1 h_z1))))
theorem fq_X5_turned {K : Nat} {vl : Nat → Nat} {z0 : ow_MS}  : ∀ (k L : Nat) (x0 : Int32) (x1 : Int32) (x2 : Int32) (x3 : Int32) (z : ow_MS), fr (fun _ => False) z0 z → Fo Prod.snd (fun _ => False) z0 (c_X5_turned vl K k L x0 x1 x2 x3 z)
  | 0 => by
    intros
    exact fo_none
  | k + 1 => by
    intro L x0 x1 x2 x3 z hz 
    show Fo Prod.snd (fun _ => False) z0 (cb_X5_turned vl K (c_X5_turned vl K k) L x0 x1 x2 x3 z)
    unfold cb_X5_turned
    split
    · exact fb_X5_turned_0 (fq_X5_turned k) hz 
    · exact fb_X5_turned_1 (fq_X5_turned k) hz 
    · exact fo_none
theorem ff_X5_turned {vl : Nat → Nat} {K : Nat} {x0 : Int32} {x1 : Int32} {z : ow_MS} : Fo Prod.snd (fun _ => False) z (ce_X5_turned vl K x0 x1 z) := fq_X5_turned K 0 _ _ _ _ z fr_rf 
theorem fb_X5_takeLetter_0 {K : Nat} {vl : Nat → Nat} {z0 z : ow_MS} {pr0 : Nat} {go : Nat → Int32 → Int32 → Int32 → Nat → ow_MS → Option ow_MS} {x1 : Int32} {x2 : Int32} {x3 : Int32} {r0 : Nat} (hgo : ∀ (L : Nat) (x1 : Int32) (x2 : Int32) (x3 : Int32) (r0 : Nat) (z : ow_MS), fr (fun g => pr0 + 2 ≤ g ∧ g ≤ pr0 + 4) z0 z → (L = 0 ∨ L = 1 → r0 = pr0) → Fo id (fun g => pr0 + 2 ≤ g ∧ g ≤ pr0 + 4) z0 (go L x1 x2 x3 r0 z)) (hz : fr (fun g => pr0 + 2 ≤ g ∧ g ≤ pr0 + 4) z0 z) (e_r0 : r0 = pr0) : Fo id (fun g => pr0 + 2 ≤ g ∧ g ≤ pr0 + 4) z0 (cm_X5_takeLetter_0 vl K go x1 x2 x3 r0 z) := by
  unfold cm_X5_takeLetter_0
  exact (fo_if (hgo 1 _ _ _ _ z hz (fun _ => by omega)) (fo_rdF (fun v1 => (fo_cs1 ff_X5_exchanged (fun g hg => hg.elim) hz (fun v3 z2 h_z2 => (fo_cs0 ff_X5_putBehind (fun g hg => by omega) h_z2 (fun z4 h_z4 => (fo_some h_z4))))))))
theorem fb_X5_takeLetter_1 {K : Nat} {vl : Nat → Nat} {z0 z : ow_MS} {pr0 : Nat} {go : Nat → Int32 → Int32 → Int32 → Nat → ow_MS → Option ow_MS} {x1 : Int32} {x2 : Int32} {x3 : Int32} {r0 : Nat} (hgo : ∀ (L : Nat) (x1 : Int32) (x2 : Int32) (x3 : Int32) (r0 : Nat) (z : ow_MS), fr (fun g => pr0 + 2 ≤ g ∧ g ≤ pr0 + 4) z0 z → (L = 0 ∨ L = 1 → r0 = pr0) → Fo id (fun g => pr0 + 2 ≤ g ∧ g ≤ pr0 + 4) z0 (go L x1 x2 x3 r0 z)) (hz : fr (fun g => pr0 + 2 ≤ g ∧ g ≤ pr0 + 4) z0 z) (e_r0 : r0 = pr0) : Fo id (fun g => pr0 + 2 ≤ g ∧ g ≤ pr0 + 4) z0 (cm_X5_takeLetter_1 vl K go x1 x2 x3 r0 z) := by
  unfold cm_X5_takeLetter_1
  exact (fo_rdF (fun v5 => (fo_if (fo_rdF (fun v6 => (fo_wrF (by omega) hz (fun z7 h_z7 => (fo_rdF (fun v8 => (fo_rdF (fun v9 => (fo_cs1 ff_X5_exchangedBehind (fun g hg => hg.elim) h_z7 (fun v11 z10 h_z10 => (fo_cs0 ff_X5_putBehind (fun g hg => by omega) h_z10 (fun z12 h_z12 => (fo_some h_z12))))))))))))) (fc_crI (fun v13 => (fo_rdF (fun v14 => (fo_cs1 ff_X5_turned (fun g hg => hg.elim) hz (fun v16 z15 h_z15 => (fc_ctI (by omega) h_z15 (fun z17 h_z17 => (hgo 1 _ _ _ _ z17 h_z17 (fun _ => by omega)))))))))))))
theorem fq_X5_takeLetter {K : Nat} {vl : Nat → Nat} {z0 : ow_MS} {pr0 : Nat} : ∀ (k L : Nat) (x1 : Int32) (x2 : Int32) (x3 : Int32) (r0 : Nat) (z : ow_MS), fr (fun g => pr0 + 2 ≤ g ∧ g ≤ pr0 + 4) z0 z → (L = 0 ∨ L = 1 → r0 = pr0) → Fo id (fun g => pr0 + 2 ≤ g ∧ g ≤ pr0 + 4) z0 (c_X5_takeLetter vl K k L x1 x2 x3 r0 z)
  | 0 => by
    intros
    exact fo_none
  | k + 1 => by
    intro L x1 x2 x3 r0 z hz h9_r0
    show Fo id (fun g => pr0 + 2 ≤ g ∧ g ≤ pr0 + 4) z0 (cb_X5_takeLetter vl K (c_X5_takeLetter vl K k) L x1 x2 x3 r0 z)
    unfold cb_X5_takeLetter
    split
    · exact fb_X5_takeLetter_0 (fq_X5_takeLetter k) hz (h9_r0 (by decide))
    · exact fb_X5_takeLetter_1 (fq_X5_takeLetter k) hz (h9_r0 (by decide))
    · exact fo_none
theorem ff_X5_takeLetter {vl : Nat → Nat} {K : Nat} {r0 : Nat} {x1 : Int32} {z : ow_MS} : Fo id (fun g => r0 + 2 ≤ g ∧ g ≤ r0 + 4) z (ce_X5_takeLetter vl K r0 x1 z) := fq_X5_takeLetter (pr0 := r0) K 0 _ _ _ _ z fr_rf (fun _ => rfl)
theorem fb_X11_write_0 {K : Nat} {vl : Nat → Nat} {z0 z : ow_MS} {pr0 : Nat} {pr1 : Nat} {go : Nat → Int32 → Int32 → Nat → Nat → ow_MS → Option ow_MS} {x2 : Int32} {x3 : Int32} {r0 : Nat} {r1 : Nat} (hgo : ∀ (L : Nat) (x2 : Int32) (x3 : Int32) (r0 : Nat) (r1 : Nat) (z : ow_MS), fr (fun g => pr1 + 1 ≤ g ∧ g ≤ pr1 + 6) z0 z → (L = 0 ∨ L = 1 → r0 = pr0) → (L = 0 ∨ L = 1 → r1 = pr1) → Fo id (fun g => pr1 + 1 ≤ g ∧ g ≤ pr1 + 6) z0 (go L x2 x3 r0 r1 z)) (hz : fr (fun g => pr1 + 1 ≤ g ∧ g ≤ pr1 + 6) z0 z) (e_r0 : r0 = pr0) (e_r1 : r1 = pr1) : Fo id (fun g => pr1 + 1 ≤ g ∧ g ≤ pr1 + 6) z0 (cm_X11_write_0 vl K go x2 x3 r0 r1 z) := by
  unfold cm_X11_write_0
  exact (fc_crI (fun v1 => (fo_cs0 ff_X5_begin (fun g hg => by omega) hz (fun z2 h_z2 => (hgo 1 _ _ _ _ z2 h_z2 (fun _ => by omega) (fun _ => by omega))))))
theorem fb_X11_write_1 {K : Nat} {vl : Nat → Nat} {z0 z : ow_MS} {pr0 : Nat} {pr1 : Nat} {go : Nat → Int32 → Int32 → Nat → Nat → ow_MS → Option ow_MS} {x2 : Int32} {x3 : Int32} {r0 : Nat} {r1 : Nat} (hgo : ∀ (L : Nat) (x2 : Int32) (x3 : Int32) (r0 : Nat) (r1 : Nat) (z : ow_MS), fr (fun g => pr1 + 1 ≤ g ∧ g ≤ pr1 + 6) z0 z → (L = 0 ∨ L = 1 → r0 = pr0) → (L = 0 ∨ L = 1 → r1 = pr1) → Fo id (fun g => pr1 + 1 ≤ g ∧ g ≤ pr1 + 6) z0 (go L x2 x3 r0 r1 z)) (hz : fr (fun g => pr1 + 1 ≤ g ∧ g ≤ pr1 + 6) z0 z) (e_r0 : r0 = pr0) (e_r1 : r1 = pr1) : Fo id (fun g => pr1 + 1 ≤ g ∧ g ≤ pr1 + 6) z0 (cm_X11_write_1 vl K go x2 x3 r0 r1 z) := by
  unfold cm_X11_write_1
  exact (fc_crI (fun v3 => (fo_if (fo_some hz) (fc_crI (fun v4 => (fo_cs0 ff_X5_takeLetter (fun g hg => by omega) hz (fun z5 h_z5 => (hgo 1 _ _ _ _ z5 h_z5 (fun _ => by omega) (fun _ => by omega)))))))))
theorem fq_X11_write {K : Nat} {vl : Nat → Nat} {z0 : ow_MS} {pr0 : Nat} {pr1 : Nat} : ∀ (k L : Nat) (x2 : Int32) (x3 : Int32) (r0 : Nat) (r1 : Nat) (z : ow_MS), fr (fun g => pr1 + 1 ≤ g ∧ g ≤ pr1 + 6) z0 z → (L = 0 ∨ L = 1 → r0 = pr0) → (L = 0 ∨ L = 1 → r1 = pr1) → Fo id (fun g => pr1 + 1 ≤ g ∧ g ≤ pr1 + 6) z0 (c_X11_write vl K k L x2 x3 r0 r1 z)
  | 0 => by
    intros
    exact fo_none
  | k + 1 => by
    intro L x2 x3 r0 r1 z hz h9_r0 h9_r1
    show Fo id (fun g => pr1 + 1 ≤ g ∧ g ≤ pr1 + 6) z0 (cb_X11_write vl K (c_X11_write vl K k) L x2 x3 r0 r1 z)
    unfold cb_X11_write
    split
    · exact fb_X11_write_0 (fq_X11_write k) hz (h9_r0 (by decide)) (h9_r1 (by decide))
    · exact fb_X11_write_1 (fq_X11_write k) hz (h9_r0 (by decide)) (h9_r1 (by decide))
    · exact fo_none
theorem ff_X11_write {vl : Nat → Nat} {K : Nat} {r0 : Nat} {r1 : Nat} {x2 : Int32} {z : ow_MS} : Fo id (fun g => r1 + 1 ≤ g ∧ g ≤ r1 + 6) z (ce_X11_write vl K r0 r1 x2 z) := fq_X11_write (pr0 := r0) (pr1 := r1) K 0 _ _ _ _ z fr_rf (fun _ => rfl) (fun _ => rfl)
theorem ff_X11_normal {vl : Nat → Nat} {K : Nat} {r0 : Nat} {x1 : Int32} {x2 : Int32} {z : ow_MS} : Fo (fun r => r.2.2) (fun g => r0 + 46001 ≤ g ∧ g ≤ r0 + 46006) z (ce_X11_normal vl K r0 x1 x2 z) := by
  unfold ce_X11_normal cm_X11_normal_0
  exact (fc_tc0 ff_X11_needBraid (fun g hg => hg.elim) fr_rf (fun k z h_e => (fo_some h_e)) (fun z1 h_z1 => (fo_if (fo_some h_z1) (fo_if (fo_cs0 ff_X11_write (fun g hg => by omega) h_z1 (fun z3 h_z3 => (fo_if (fc_crI (fun v4 => (fo_some h_z3))) (fo_if (fo_rdF (fun v5 => (fo_some h_z3))) (fo_if (fo_rdF (fun v6 => (fo_some h_z3))) (fo_if (fc_crI (fun v7 => (fo_some h_z3))) fo_none)))))) (fo_some h_z1)))))
theorem ff_X11_factor {vl : Nat → Nat} {K : Nat} {r0 : Nat} {x1 : Int32} {x2 : Int32} {x3 : Int32} {z : ow_MS} : Fo (fun r => r.2.2) (fun g => r0 + 46001 ≤ g ∧ g ≤ r0 + 46006) z (ce_X11_factor vl K r0 x1 x2 x3 z) := by
  unfold ce_X11_factor cm_X11_factor_0
  exact (fc_tc0 ff_X11_needBraid (fun g hg => hg.elim) fr_rf (fun k z h_e => (fo_some h_e)) (fun z1 h_z1 => (fo_cs0 ff_X11_write (fun g hg => by omega) h_z1 (fun z3 h_z3 => (fo_if (fo_some h_z3) (fo_rdF (fun v4 => (fo_if (fo_some h_z3) (fo_if (fo_some h_z3) (fc_crI (fun v5 => (fo_if (fc_crI (fun v6 => (fo_cs1 ff_X5_image (fun g hg => hg.elim) h_z3 (fun v8 z7 h_z7 => (fo_some h_z7))))) (fo_some h_z3)))))))))))))
theorem fb_X5_sameAs_0 {K : Nat} {vl : Nat → Nat} {z0 z : ow_MS} {pr0 : Nat} {pr1 : Nat} {go : Nat → Int32 → Nat → Nat → ow_MS → Option (Int32 × ow_MS)} {x2 : Int32} {r0 : Nat} {r1 : Nat} (hgo : ∀ (L : Nat) (x2 : Int32) (r0 : Nat) (r1 : Nat) (z : ow_MS), fr (fun _ => False) z0 z → (L = 0 ∨ L = 1 → r0 = pr0) → (L = 0 ∨ L = 1 → r1 = pr1) → Fo Prod.snd (fun _ => False) z0 (go L x2 r0 r1 z)) (hz : fr (fun _ => False) z0 z) (e_r0 : r0 = pr0) (e_r1 : r1 = pr1) : Fo Prod.snd (fun _ => False) z0 (cm_X5_sameAs_0 vl K go x2 r0 r1 z) := by
  unfold cm_X5_sameAs_0
  exact (fo_rdF (fun v1 => (fo_rdF (fun v2 => (fo_if (fo_rdF (fun v3 => (fo_rdF (fun v4 => (fo_if (fo_rdF (fun v5 => (fo_rdF (fun v6 => (fo_if (hgo 1 _ _ _ z hz (fun _ => by omega) (fun _ => by omega)) (fo_okZ (fo_some hz))))))) (fo_okZ (fo_some hz))))))) (fo_okZ (fo_some hz)))))))
theorem fb_X5_sameAs_1 {K : Nat} {vl : Nat → Nat} {z0 z : ow_MS} {pr0 : Nat} {pr1 : Nat} {go : Nat → Int32 → Nat → Nat → ow_MS → Option (Int32 × ow_MS)} {x2 : Int32} {r0 : Nat} {r1 : Nat} (hgo : ∀ (L : Nat) (x2 : Int32) (r0 : Nat) (r1 : Nat) (z : ow_MS), fr (fun _ => False) z0 z → (L = 0 ∨ L = 1 → r0 = pr0) → (L = 0 ∨ L = 1 → r1 = pr1) → Fo Prod.snd (fun _ => False) z0 (go L x2 r0 r1 z)) (hz : fr (fun _ => False) z0 z) (e_r0 : r0 = pr0) (e_r1 : r1 = pr1) : Fo Prod.snd (fun _ => False) z0 (cm_X5_sameAs_1 vl K go x2 r0 r1 z) := by
  unfold cm_X5_sameAs_1
  exact (fo_rdF (fun v7 => (fo_if (fo_okZ (fo_some hz)) (fc_crI (fun v8 => (fc_crI (fun v9 => (fo_if (hgo 1 _ _ _ z hz (fun _ => by omega) (fun _ => by omega)) (fo_okZ (fo_some hz))))))))))
theorem fq_X5_sameAs {K : Nat} {vl : Nat → Nat} {z0 : ow_MS} {pr0 : Nat} {pr1 : Nat} : ∀ (k L : Nat) (x2 : Int32) (r0 : Nat) (r1 : Nat) (z : ow_MS), fr (fun _ => False) z0 z → (L = 0 ∨ L = 1 → r0 = pr0) → (L = 0 ∨ L = 1 → r1 = pr1) → Fo Prod.snd (fun _ => False) z0 (c_X5_sameAs vl K k L x2 r0 r1 z)
  | 0 => by
    intros
    exact fo_none
  | k + 1 => by
    intro L x2 r0 r1 z hz h9_r0 h9_r1
    show Fo Prod.snd (fun _ => False) z0 (cb_X5_sameAs vl K (c_X5_sameAs vl K k) L x2 r0 r1 z)
    unfold cb_X5_sameAs
    split
    · exact fb_X5_sameAs_0 (fq_X5_sameAs k) hz (h9_r0 (by decide)) (h9_r1 (by decide))
    · exact fb_X5_sameAs_1 (fq_X5_sameAs k) hz (h9_r0 (by decide)) (h9_r1 (by decide))
    · exact fo_none
theorem ff_X5_sameAs {vl : Nat → Nat} {K : Nat} {r0 : Nat} {r1 : Nat} {z : ow_MS} : Fo Prod.snd (fun _ => False) z (ce_X5_sameAs vl K r0 r1 z) := fq_X5_sameAs (pr0 := r0) (pr1 := r1) K 0 _ _ _ z fr_rf (fun _ => rfl) (fun _ => rfl)
theorem ff_X11_equal {vl : Nat → Nat} {K : Nat} {r0 : Nat} {x1 : Int32} {x2 : Int32} {z : ow_MS} : Fo Prod.snd (fun g => r0 + 46001 ≤ g ∧ g ≤ r0 + 46006 ∨ r0 + 47001 ≤ g ∧ g ≤ r0 + 47006) z (ce_X11_equal vl K r0 x1 x2 z) := by
  unfold ce_X11_equal cm_X11_equal_0
  exact (fo_cs1 ff_X11_hasBraid (fun g hg => hg.elim) fr_rf (fun v2 z1 h_z1 => (fo_if (fo_okZ (fo_some h_z1)) (fo_cs1 ff_X11_hasBraid (fun g hg => hg.elim) h_z1 (fun v4 z3 h_z3 => (fo_if (fo_okZ (fo_some h_z3)) (fc_crI (fun v5 => (fc_crI (fun v6 => (fo_if (fo_cs0 ff_X11_write (fun g hg => by omega) h_z3 (fun z7 h_z7 => (fo_cs0 ff_X11_write (fun g hg => by omega) h_z7 (fun z8 h_z8 => (fo_cs1 ff_X5_sameAs (fun g hg => hg.elim) h_z8 (fun v10 z9 h_z9 => (fo_okZ (fo_some h_z9)))))))) (fo_okZ (fo_some h_z3)))))))))))))
theorem fb_X1_rankAt_0 {K : Nat} {vl : Nat → Nat} {z0 z : ow_MS} {pr0 : Nat} {go : Nat → Int32 → Int32 → Int64 → Int64 → Nat → ow_MS → Option (Int32 × ow_MS)} {x1 : Int32} {x2 : Int32} {w3 : Int64} {w5 : Int64} {r0 : Nat} (hgo : ∀ (L : Nat) (x1 : Int32) (x2 : Int32) (w3 : Int64) (w5 : Int64) (r0 : Nat) (z : ow_MS), fr (fun _ => False) z0 z → (L = 0 ∨ L = 1 → r0 = pr0) → Fo Prod.snd (fun _ => False) z0 (go L x1 x2 w3 w5 r0 z)) (hz : fr (fun _ => False) z0 z) (e_r0 : r0 = pr0) : Fo Prod.snd (fun _ => False) z0 (cm_X1_rankAt_0 vl K go x1 x2 w3 w5 r0 z) := by
  unfold cm_X1_rankAt_0
  exact (fo_rdF (fun v1 => (fo_rdF (fun v2 => (fo_rdF (fun v3 => (fo_if (hgo 1 _ _ _ _ _ z hz (fun _ => by omega)) (fo_if (hgo 1 _ _ _ _ _ z hz (fun _ => by omega)) (fo_if (hgo 1 _ _ _ _ _ z hz (fun _ => by omega)) (fo_if (fc_crI (fun v4 => (fo_some hz))) (hgo 1 _ _ _ _ _ z hz (fun _ => by omega))))))))))))
theorem fb_X1_rankAt_1 {K : Nat} {vl : Nat → Nat} {z0 z : ow_MS} {pr0 : Nat} {go : Nat → Int32 → Int32 → Int64 → Int64 → Nat → ow_MS → Option (Int32 × ow_MS)} {x1 : Int32} {x2 : Int32} {w3 : Int64} {w5 : Int64} {r0 : Nat} (hgo : ∀ (L : Nat) (x1 : Int32) (x2 : Int32) (w3 : Int64) (w5 : Int64) (r0 : Nat) (z : ow_MS), fr (fun _ => False) z0 z → (L = 0 ∨ L = 1 → r0 = pr0) → Fo Prod.snd (fun _ => False) z0 (go L x1 x2 w3 w5 r0 z)) (hz : fr (fun _ => False) z0 z) (e_r0 : r0 = pr0) : Fo Prod.snd (fun _ => False) z0 (cm_X1_rankAt_1 vl K go x1 x2 w3 w5 r0 z) := by
  unfold cm_X1_rankAt_1
  exact (fo_some hz)
theorem fq_X1_rankAt {K : Nat} {vl : Nat → Nat} {z0 : ow_MS} {pr0 : Nat} : ∀ (k L : Nat) (x1 : Int32) (x2 : Int32) (w3 : Int64) (w5 : Int64) (r0 : Nat) (z : ow_MS), fr (fun _ => False) z0 z → (L = 0 ∨ L = 1 → r0 = pr0) → Fo Prod.snd (fun _ => False) z0 (c_X1_rankAt vl K k L x1 x2 w3 w5 r0 z)
  | 0 => by
    intros
    exact fo_none
  | k + 1 => by
    intro L x1 x2 w3 w5 r0 z hz h9_r0
    show Fo Prod.snd (fun _ => False) z0 (cb_X1_rankAt vl K (c_X1_rankAt vl K k) L x1 x2 w3 w5 r0 z)
    unfold cb_X1_rankAt
    split
    · exact fb_X1_rankAt_0 (fq_X1_rankAt k) hz (h9_r0 (by decide))
    · exact fb_X1_rankAt_1 (fq_X1_rankAt k) hz (h9_r0 (by decide))
    · exact fo_none
theorem ff_X1_rankAt {vl : Nat → Nat} {K : Nat} {r0 : Nat} {x1 : Int32} {x2 : Int32} {z : ow_MS} : Fo Prod.snd (fun _ => False) z (ce_X1_rankAt vl K r0 x1 x2 z) := fq_X1_rankAt (pr0 := r0) K 0 _ _ _ _ _ z fr_rf (fun _ => rfl)
theorem ff_X11_rank {vl : Nat → Nat} {K : Nat} {r0 : Nat} {x1 : Int32} {x2 : Int32} {z : ow_MS} : Fo Prod.snd (fun _ => False) z (ce_X11_rank vl K r0 x1 x2 z) := by
  unfold ce_X11_rank cm_X11_rank_0
  exact (fo_cs1 ff_X1_rankAt (fun g hg => hg.elim) fr_rf (fun v2 z1 h_z1 => (fo_some h_z1)))
theorem ff_X11_needFewStrands {vl : Nat → Nat} {K : Nat} {r0 : Nat} {x1 : Int32} {z : ow_MS} : Fo Prod.snd (fun _ => False) z (ce_X11_needFewStrands vl K r0 x1 z) := by
  unfold ce_X11_needFewStrands cm_X11_needFewStrands_0
  exact (fc_crI (fun v1 => (fo_if (fo_some fr_rf) (fo_some fr_rf))))
theorem ff_X5_copy {vl : Nat → Nat} {K : Nat} {r0 : Nat} {r1 : Nat} {z : ow_MS} : Fo id (fun g => r0 + 1 ≤ g ∧ g ≤ r0 + 6) z (ce_X5_copy vl K r0 r1 z) := by
  unfold ce_X5_copy cm_X5_copy_0
  exact (fo_rdF (fun v1 => (fo_cs0 ff_X5_begin (fun g hg => by omega) fr_rf (fun z2 h_z2 => (fo_rdF (fun v3 => (fo_wrF (by omega) h_z2 (fun z4 h_z4 => (fo_rdF (fun v5 => (fo_wrF (by omega) h_z4 (fun z6 h_z6 => (fo_rdF (fun v7 => (fc_cpI (by omega) h_z6 (fun z8 h_z8 => (fo_some h_z8)))))))))))))))))
theorem fb_X10_changesOf_0 {K : Nat} {vl : Nat → Nat} {z0 z : ow_MS} {pr0 : Nat} {go : Nat → Int32 → Int32 → Int32 → Int32 → Nat → Int32 → Int32 → ow_MS → Option (Int32 × ow_MS)} {x1 : Int32} {x2 : Int32} {x3 : Int32} {x4 : Int32} {r0 : Nat} {t0 : Int32} {t1 : Int32} (hgo : ∀ (L : Nat) (x1 : Int32) (x2 : Int32) (x3 : Int32) (x4 : Int32) (r0 : Nat) (t0 : Int32) (t1 : Int32) (z : ow_MS), fr (fun _ => False) z0 z → (L = 0 ∨ L = 1 ∨ L = 2 ∨ L = 3 → r0 = pr0) → Fo Prod.snd (fun _ => False) z0 (go L x1 x2 x3 x4 r0 t0 t1 z)) (hz : fr (fun _ => False) z0 z) (e_r0 : r0 = pr0) : Fo Prod.snd (fun _ => False) z0 (cm_X10_changesOf_0 vl K go x1 x2 x3 x4 r0 t0 t1 z) := by
  unfold cm_X10_changesOf_0
  exact (hgo 1 _ _ _ _ _ _ _ z hz (fun _ => by omega))
theorem fb_X10_changesOf_1 {K : Nat} {vl : Nat → Nat} {z0 z : ow_MS} {pr0 : Nat} {go : Nat → Int32 → Int32 → Int32 → Int32 → Nat → Int32 → Int32 → ow_MS → Option (Int32 × ow_MS)} {x1 : Int32} {x2 : Int32} {x3 : Int32} {x4 : Int32} {r0 : Nat} {t0 : Int32} {t1 : Int32} (hgo : ∀ (L : Nat) (x1 : Int32) (x2 : Int32) (x3 : Int32) (x4 : Int32) (r0 : Nat) (t0 : Int32) (t1 : Int32) (z : ow_MS), fr (fun _ => False) z0 z → (L = 0 ∨ L = 1 ∨ L = 2 ∨ L = 3 → r0 = pr0) → Fo Prod.snd (fun _ => False) z0 (go L x1 x2 x3 x4 r0 t0 t1 z)) (hz : fr (fun _ => False) z0 z) (e_r0 : r0 = pr0) : Fo Prod.snd (fun _ => False) z0 (cm_X10_changesOf_1 vl K go x1 x2 x3 x4 r0 t0 t1 z) := by
  unfold cm_X10_changesOf_1
  exact (fo_rdF (fun v1 => (fo_if (fo_some hz) (hgo 2 _ _ _ _ _ _ _ z hz (fun _ => by omega)))))
theorem fb_X10_changesOf_2 {K : Nat} {vl : Nat → Nat} {z0 z : ow_MS} {pr0 : Nat} {go : Nat → Int32 → Int32 → Int32 → Int32 → Nat → Int32 → Int32 → ow_MS → Option (Int32 × ow_MS)} {x1 : Int32} {x2 : Int32} {x3 : Int32} {x4 : Int32} {r0 : Nat} {t0 : Int32} {t1 : Int32} (hgo : ∀ (L : Nat) (x1 : Int32) (x2 : Int32) (x3 : Int32) (x4 : Int32) (r0 : Nat) (t0 : Int32) (t1 : Int32) (z : ow_MS), fr (fun _ => False) z0 z → (L = 0 ∨ L = 1 ∨ L = 2 ∨ L = 3 → r0 = pr0) → Fo Prod.snd (fun _ => False) z0 (go L x1 x2 x3 x4 r0 t0 t1 z)) (hz : fr (fun _ => False) z0 z) (e_r0 : r0 = pr0) : Fo Prod.snd (fun _ => False) z0 (cm_X10_changesOf_2 vl K go x1 x2 x3 x4 r0 t0 t1 z) := by
  unfold cm_X10_changesOf_2
  exact (fo_rdF (fun v2 => (fo_if (hgo 1 _ _ _ _ _ _ _ z hz (fun _ => by omega)) (fo_cs1 ff_X5_image (fun g hg => hg.elim) hz (fun v4 z3 h_z3 => (fo_cs1 ff_X5_image (fun g hg => hg.elim) h_z3 (fun v6 z5 h_z5 => (fo_if (hgo 3 _ _ _ _ _ _ _ z5 h_z5 (fun _ => by omega)) (hgo 3 _ _ _ _ _ _ _ z5 h_z5 (fun _ => by omega))))))))))
theorem fb_X10_changesOf_3 {K : Nat} {vl : Nat → Nat} {z0 z : ow_MS} {pr0 : Nat} {go : Nat → Int32 → Int32 → Int32 → Int32 → Nat → Int32 → Int32 → ow_MS → Option (Int32 × ow_MS)} {x1 : Int32} {x2 : Int32} {x3 : Int32} {x4 : Int32} {r0 : Nat} {t0 : Int32} {t1 : Int32} (hgo : ∀ (L : Nat) (x1 : Int32) (x2 : Int32) (x3 : Int32) (x4 : Int32) (r0 : Nat) (t0 : Int32) (t1 : Int32) (z : ow_MS), fr (fun _ => False) z0 z → (L = 0 ∨ L = 1 ∨ L = 2 ∨ L = 3 → r0 = pr0) → Fo Prod.snd (fun _ => False) z0 (go L x1 x2 x3 x4 r0 t0 t1 z)) (hz : fr (fun _ => False) z0 z) (e_r0 : r0 = pr0) : Fo Prod.snd (fun _ => False) z0 (cm_X10_changesOf_3 vl K go x1 x2 x3 x4 r0 t0 t1 z) := by
  unfold cm_X10_changesOf_3
  exact (hgo 2 _ _ _ _ _ _ _ z hz (fun _ => by omega))
theorem fq_X10_changesOf {K : Nat} {vl : Nat → Nat} {z0 : ow_MS} {pr0 : Nat} : ∀ (k L : Nat) (x1 : Int32) (x2 : Int32) (x3 : Int32) (x4 : Int32) (r0 : Nat) (t0 : Int32) (t1 : Int32) (z : ow_MS), fr (fun _ => False) z0 z → (L = 0 ∨ L = 1 ∨ L = 2 ∨ L = 3 → r0 = pr0) → Fo Prod.snd (fun _ => False) z0 (c_X10_changesOf vl K k L x1 x2 x3 x4 r0 t0 t1 z)
  | 0 => by
    intros
    exact fo_none
  | k + 1 => by
    intro L x1 x2 x3 x4 r0 t0 t1 z hz h9_r0
    show Fo Prod.snd (fun _ => False) z0 (cb_X10_changesOf vl K (c_X10_changesOf vl K k) L x1 x2 x3 x4 r0 t0 t1 z)
    unfold cb_X10_changesOf
    split
    · exact fb_X10_changesOf_0 (fq_X10_changesOf k) hz (h9_r0 (by decide))
    · exact fb_X10_changesOf_1 (fq_X10_changesOf k) hz (h9_r0 (by decide))
    · exact fb_X10_changesOf_2 (fq_X10_changesOf k) hz (h9_r0 (by decide))
    · exact fb_X10_changesOf_3 (fq_X10_changesOf k) hz (h9_r0 (by decide))
    · exact fo_none
theorem ff_X10_changesOf {vl : Nat → Nat} {K : Nat} {r0 : Nat} {x1 : Int32} {z : ow_MS} : Fo Prod.snd (fun _ => False) z (ce_X10_changesOf vl K r0 x1 z) := fq_X10_changesOf (pr0 := r0) K 0 _ _ _ _ _ _ _ z fr_rf (fun _ => rfl)
theorem fb_X10_listSimples_0 {K : Nat} {vl : Nat → Nat} {z0 z : ow_MS} {pr0 : Nat} {go : Nat → Int32 → Int32 → Int32 → Int32 → Int32 → Nat → Int32 → ow_MS → Option ow_MS} {x1 : Int32} {x2 : Int32} {x3 : Int32} {x4 : Int32} {x5 : Int32} {r0 : Nat} {t0 : Int32} (hgo : ∀ (L : Nat) (x1 : Int32) (x2 : Int32) (x3 : Int32) (x4 : Int32) (x5 : Int32) (r0 : Nat) (t0 : Int32) (z : ow_MS), fr (fun g => pr0 + 8 ≤ g ∧ g ≤ pr0 + 11) z0 z → (L = 0 ∨ L = 1 ∨ L = 2 ∨ L = 3 ∨ L = 4 ∨ L = 5 ∨ L = 6 → r0 = pr0) → Fo id (fun g => pr0 + 8 ≤ g ∧ g ≤ pr0 + 11) z0 (go L x1 x2 x3 x4 x5 r0 t0 z)) (hz : fr (fun g => pr0 + 8 ≤ g ∧ g ≤ pr0 + 11) z0 z) (e_r0 : r0 = pr0) : Fo id (fun g => pr0 + 8 ≤ g ∧ g ≤ pr0 + 11) z0 (cm_X10_listSimples_0 vl K go x1 x2 x3 x4 x5 r0 t0 z) := by
  unfold cm_X10_listSimples_0
  exact (fo_wrF (by omega) hz (fun z1 h_z1 => (hgo 1 _ _ _ _ _ _ _ z1 h_z1 (fun _ => by omega))))
theorem fb_X10_listSimples_1 {K : Nat} {vl : Nat → Nat} {z0 z : ow_MS} {pr0 : Nat} {go : Nat → Int32 → Int32 → Int32 → Int32 → Int32 → Nat → Int32 → ow_MS → Option ow_MS} {x1 : Int32} {x2 : Int32} {x3 : Int32} {x4 : Int32} {x5 : Int32} {r0 : Nat} {t0 : Int32} (hgo : ∀ (L : Nat) (x1 : Int32) (x2 : Int32) (x3 : Int32) (x4 : Int32) (x5 : Int32) (r0 : Nat) (t0 : Int32) (z : ow_MS), fr (fun g => pr0 + 8 ≤ g ∧ g ≤ pr0 + 11) z0 z → (L = 0 ∨ L = 1 ∨ L = 2 ∨ L = 3 ∨ L = 4 ∨ L = 5 ∨ L = 6 → r0 = pr0) → Fo id (fun g => pr0 + 8 ≤ g ∧ g ≤ pr0 + 11) z0 (go L x1 x2 x3 x4 x5 r0 t0 z)) (hz : fr (fun g => pr0 + 8 ≤ g ∧ g ≤ pr0 + 11) z0 z) (e_r0 : r0 = pr0) : Fo id (fun g => pr0 + 8 ≤ g ∧ g ≤ pr0 + 11) z0 (cm_X10_listSimples_1 vl K go x1 x2 x3 x4 x5 r0 t0 z) := by
  unfold cm_X10_listSimples_1
  exact (fo_if (fo_some hz) (hgo 2 _ _ _ _ _ _ _ z hz (fun _ => by omega)))
theorem fb_X10_listSimples_2 {K : Nat} {vl : Nat → Nat} {z0 z : ow_MS} {pr0 : Nat} {go : Nat → Int32 → Int32 → Int32 → Int32 → Int32 → Nat → Int32 → ow_MS → Option ow_MS} {x1 : Int32} {x2 : Int32} {x3 : Int32} {x4 : Int32} {x5 : Int32} {r0 : Nat} {t0 : Int32} (hgo : ∀ (L : Nat) (x1 : Int32) (x2 : Int32) (x3 : Int32) (x4 : Int32) (x5 : Int32) (r0 : Nat) (t0 : Int32) (z : ow_MS), fr (fun g => pr0 + 8 ≤ g ∧ g ≤ pr0 + 11) z0 z → (L = 0 ∨ L = 1 ∨ L = 2 ∨ L = 3 ∨ L = 4 ∨ L = 5 ∨ L = 6 → r0 = pr0) → Fo id (fun g => pr0 + 8 ≤ g ∧ g ≤ pr0 + 11) z0 (go L x1 x2 x3 x4 x5 r0 t0 z)) (hz : fr (fun g => pr0 + 8 ≤ g ∧ g ≤ pr0 + 11) z0 z) (e_r0 : r0 = pr0) : Fo id (fun g => pr0 + 8 ≤ g ∧ g ≤ pr0 + 11) z0 (cm_X10_listSimples_2 vl K go x1 x2 x3 x4 x5 r0 t0 z) := by
  unfold cm_X10_listSimples_2
  exact (fo_rdF (fun v2 => (fo_if (hgo 1 _ _ _ _ _ _ _ z hz (fun _ => by omega)) (hgo 3 _ _ _ _ _ _ _ z hz (fun _ => by omega)))))
theorem fb_X10_listSimples_3 {K : Nat} {vl : Nat → Nat} {z0 z : ow_MS} {pr0 : Nat} {go : Nat → Int32 → Int32 → Int32 → Int32 → Int32 → Nat → Int32 → ow_MS → Option ow_MS} {x1 : Int32} {x2 : Int32} {x3 : Int32} {x4 : Int32} {x5 : Int32} {r0 : Nat} {t0 : Int32} (hgo : ∀ (L : Nat) (x1 : Int32) (x2 : Int32) (x3 : Int32) (x4 : Int32) (x5 : Int32) (r0 : Nat) (t0 : Int32) (z : ow_MS), fr (fun g => pr0 + 8 ≤ g ∧ g ≤ pr0 + 11) z0 z → (L = 0 ∨ L = 1 ∨ L = 2 ∨ L = 3 ∨ L = 4 ∨ L = 5 ∨ L = 6 → r0 = pr0) → Fo id (fun g => pr0 + 8 ≤ g ∧ g ≤ pr0 + 11) z0 (go L x1 x2 x3 x4 x5 r0 t0 z)) (hz : fr (fun g => pr0 + 8 ≤ g ∧ g ≤ pr0 + 11) z0 z) (e_r0 : r0 = pr0) : Fo id (fun g => pr0 + 8 ≤ g ∧ g ≤ pr0 + 11) z0 (cm_X10_listSimples_3 vl K go x1 x2 x3 x4 x5 r0 t0 z) := by
  unfold cm_X10_listSimples_3
  exact (fo_rdF (fun v3 => (fo_if (fo_rdF (fun v4 => (fo_if (fo_rdF (fun v5 => (fo_if (hgo 4 _ _ _ _ _ _ _ z hz (fun _ => by omega)) (hgo 5 _ _ _ _ _ _ _ z hz (fun _ => by omega))))) (hgo 4 _ _ _ _ _ _ _ z hz (fun _ => by omega))))) (hgo 3 _ _ _ _ _ _ _ z hz (fun _ => by omega)))))
theorem fb_X10_listSimples_4 {K : Nat} {vl : Nat → Nat} {z0 z : ow_MS} {pr0 : Nat} {go : Nat → Int32 → Int32 → Int32 → Int32 → Int32 → Nat → Int32 → ow_MS → Option ow_MS} {x1 : Int32} {x2 : Int32} {x3 : Int32} {x4 : Int32} {x5 : Int32} {r0 : Nat} {t0 : Int32} (hgo : ∀ (L : Nat) (x1 : Int32) (x2 : Int32) (x3 : Int32) (x4 : Int32) (x5 : Int32) (r0 : Nat) (t0 : Int32) (z : ow_MS), fr (fun g => pr0 + 8 ≤ g ∧ g ≤ pr0 + 11) z0 z → (L = 0 ∨ L = 1 ∨ L = 2 ∨ L = 3 ∨ L = 4 ∨ L = 5 ∨ L = 6 → r0 = pr0) → Fo id (fun g => pr0 + 8 ≤ g ∧ g ≤ pr0 + 11) z0 (go L x1 x2 x3 x4 x5 r0 t0 z)) (hz : fr (fun g => pr0 + 8 ≤ g ∧ g ≤ pr0 + 11) z0 z) (e_r0 : r0 = pr0) : Fo id (fun g => pr0 + 8 ≤ g ∧ g ≤ pr0 + 11) z0 (cm_X10_listSimples_4 vl K go x1 x2 x3 x4 x5 r0 t0 z) := by
  unfold cm_X10_listSimples_4
  exact (hgo 5 _ _ _ _ _ _ _ z hz (fun _ => by omega))
theorem fb_X10_listSimples_5 {K : Nat} {vl : Nat → Nat} {z0 z : ow_MS} {pr0 : Nat} {go : Nat → Int32 → Int32 → Int32 → Int32 → Int32 → Nat → Int32 → ow_MS → Option ow_MS} {x1 : Int32} {x2 : Int32} {x3 : Int32} {x4 : Int32} {x5 : Int32} {r0 : Nat} {t0 : Int32} (hgo : ∀ (L : Nat) (x1 : Int32) (x2 : Int32) (x3 : Int32) (x4 : Int32) (x5 : Int32) (r0 : Nat) (t0 : Int32) (z : ow_MS), fr (fun g => pr0 + 8 ≤ g ∧ g ≤ pr0 + 11) z0 z → (L = 0 ∨ L = 1 ∨ L = 2 ∨ L = 3 ∨ L = 4 ∨ L = 5 ∨ L = 6 → r0 = pr0) → Fo id (fun g => pr0 + 8 ≤ g ∧ g ≤ pr0 + 11) z0 (go L x1 x2 x3 x4 x5 r0 t0 z)) (hz : fr (fun g => pr0 + 8 ≤ g ∧ g ≤ pr0 + 11) z0 z) (e_r0 : r0 = pr0) : Fo id (fun g => pr0 + 8 ≤ g ∧ g ≤ pr0 + 11) z0 (cm_X10_listSimples_5 vl K go x1 x2 x3 x4 x5 r0 t0 z) := by
  unfold cm_X10_listSimples_5
  exact (fo_if (hgo 6 _ _ _ _ _ _ _ z hz (fun _ => by omega)) (fo_cs1 ff_X10_changesOf (fun g hg => hg.elim) hz (fun v7 z6 h_z6 => (fo_if (fo_rdF (fun v9 => (fc_ctI (by omega) h_z6 (fun z10 h_z10 => (fo_rdF (fun v11 => (fo_cs1 ff_X10_changesOf (fun g hg => hg.elim) h_z10 (fun v13 z12 h_z12 => (fc_ctI (by omega) h_z12 (fun z14 h_z14 => (fo_rdF (fun v15 => (fo_wrF (by omega) h_z14 (fun z16 h_z16 => (hgo 6 _ _ _ _ _ _ _ z16 h_z16 (fun _ => by omega)))))))))))))))) (hgo 6 _ _ _ _ _ _ _ z6 h_z6 (fun _ => by omega))))))
theorem fb_X10_listSimples_6 {K : Nat} {vl : Nat → Nat} {z0 z : ow_MS} {pr0 : Nat} {go : Nat → Int32 → Int32 → Int32 → Int32 → Int32 → Nat → Int32 → ow_MS → Option ow_MS} {x1 : Int32} {x2 : Int32} {x3 : Int32} {x4 : Int32} {x5 : Int32} {r0 : Nat} {t0 : Int32} (hgo : ∀ (L : Nat) (x1 : Int32) (x2 : Int32) (x3 : Int32) (x4 : Int32) (x5 : Int32) (r0 : Nat) (t0 : Int32) (z : ow_MS), fr (fun g => pr0 + 8 ≤ g ∧ g ≤ pr0 + 11) z0 z → (L = 0 ∨ L = 1 ∨ L = 2 ∨ L = 3 ∨ L = 4 ∨ L = 5 ∨ L = 6 → r0 = pr0) → Fo id (fun g => pr0 + 8 ≤ g ∧ g ≤ pr0 + 11) z0 (go L x1 x2 x3 x4 x5 r0 t0 z)) (hz : fr (fun g => pr0 + 8 ≤ g ∧ g ≤ pr0 + 11) z0 z) (e_r0 : r0 = pr0) : Fo id (fun g => pr0 + 8 ≤ g ∧ g ≤ pr0 + 11) z0 (cm_X10_listSimples_6 vl K go x1 x2 x3 x4 x5 r0 t0 z) := by
  unfold cm_X10_listSimples_6
  exact (hgo 2 _ _ _ _ _ _ _ z hz (fun _ => by omega))
theorem fq_X10_listSimples {K : Nat} {vl : Nat → Nat} {z0 : ow_MS} {pr0 : Nat} : ∀ (k L : Nat) (x1 : Int32) (x2 : Int32) (x3 : Int32) (x4 : Int32) (x5 : Int32) (r0 : Nat) (t0 : Int32) (z : ow_MS), fr (fun g => pr0 + 8 ≤ g ∧ g ≤ pr0 + 11) z0 z → (L = 0 ∨ L = 1 ∨ L = 2 ∨ L = 3 ∨ L = 4 ∨ L = 5 ∨ L = 6 → r0 = pr0) → Fo id (fun g => pr0 + 8 ≤ g ∧ g ≤ pr0 + 11) z0 (c_X10_listSimples vl K k L x1 x2 x3 x4 x5 r0 t0 z)
  | 0 => by
    intros
    exact fo_none
  | k + 1 => by
    intro L x1 x2 x3 x4 x5 r0 t0 z hz h9_r0
    show Fo id (fun g => pr0 + 8 ≤ g ∧ g ≤ pr0 + 11) z0 (cb_X10_listSimples vl K (c_X10_listSimples vl K k) L x1 x2 x3 x4 x5 r0 t0 z)
    unfold cb_X10_listSimples
    split
    · exact fb_X10_listSimples_0 (fq_X10_listSimples k) hz (h9_r0 (by decide))
    · exact fb_X10_listSimples_1 (fq_X10_listSimples k) hz (h9_r0 (by decide))
    · exact fb_X10_listSimples_2 (fq_X10_listSimples k) hz (h9_r0 (by decide))
    · exact fb_X10_listSimples_3 (fq_X10_listSimples k) hz (h9_r0 (by decide))
    · exact fb_X10_listSimples_4 (fq_X10_listSimples k) hz (h9_r0 (by decide))
    · exact fb_X10_listSimples_5 (fq_X10_listSimples k) hz (h9_r0 (by decide))
    · exact fb_X10_listSimples_6 (fq_X10_listSimples k) hz (h9_r0 (by decide))
    · exact fo_none
theorem ff_X10_listSimples {vl : Nat → Nat} {K : Nat} {r0 : Nat} {z : ow_MS} : Fo id (fun g => r0 + 8 ≤ g ∧ g ≤ r0 + 11) z (ce_X10_listSimples vl K r0 z) := fq_X10_listSimples (pr0 := r0) K 0 _ _ _ _ _ _ _ z fr_rf (fun _ => rfl)
theorem fb_X5_cycle_0 {K : Nat} {vl : Nat → Nat} {z0 z : ow_MS} {pr0 : Nat} {go : Nat → Nat → Int32 → ow_MS → Option ow_MS} {r0 : Nat} {t0 : Int32} (hgo : ∀ (L : Nat) (r0 : Nat) (t0 : Int32) (z : ow_MS), fr (fun g => pr0 + 2 ≤ g ∧ g ≤ pr0 + 4) z0 z → (L = 0 ∨ L = 1 → r0 = pr0) → Fo id (fun g => pr0 + 2 ≤ g ∧ g ≤ pr0 + 4) z0 (go L r0 t0 z)) (hz : fr (fun g => pr0 + 2 ≤ g ∧ g ≤ pr0 + 4) z0 z) (e_r0 : r0 = pr0) : Fo id (fun g => pr0 + 2 ≤ g ∧ g ≤ pr0 + 4) z0 (cm_X5_cycle_0 vl K go r0 t0 z) := by
  unfold cm_X5_cycle_0
  exact (fo_rdF (fun v1 => (fo_if (fo_some hz) (fo_rdF (fun v2 => (fo_if (fc_crI (fun v7 => (hgo 1 _ _ z hz (fun _ => by omega)))) (fc_crI (fun v3 => (fo_rdF (fun v4 => (fo_cs1 ff_X5_turned (fun g hg => hg.elim) hz (fun v6 z5 h_z5 => (hgo 1 _ _ z5 h_z5 (fun _ => by omega))))))))))))))
theorem fb_X5_cycle_1 {K : Nat} {vl : Nat → Nat} {z0 z : ow_MS} {pr0 : Nat} {go : Nat → Nat → Int32 → ow_MS → Option ow_MS} {r0 : Nat} {t0 : Int32} (hgo : ∀ (L : Nat) (r0 : Nat) (t0 : Int32) (z : ow_MS), fr (fun g => pr0 + 2 ≤ g ∧ g ≤ pr0 + 4) z0 z → (L = 0 ∨ L = 1 → r0 = pr0) → Fo id (fun g => pr0 + 2 ≤ g ∧ g ≤ pr0 + 4) z0 (go L r0 t0 z)) (hz : fr (fun g => pr0 + 2 ≤ g ∧ g ≤ pr0 + 4) z0 z) (e_r0 : r0 = pr0) : Fo id (fun g => pr0 + 2 ≤ g ∧ g ≤ pr0 + 4) z0 (cm_X5_cycle_1 vl K go r0 t0 z) := by
  unfold cm_X5_cycle_1
  exact (fo_rdF (fun v8 => (fo_wrF (by omega) hz (fun z9 h_z9 => (fo_rdF (fun v10 => (fc_cpI (by omega) h_z9 (fun z11 h_z11 => (fo_cs0 ff_X5_putBehind (fun g hg => by omega) h_z11 (fun z12 h_z12 => (fo_some h_z12)))))))))))
theorem fq_X5_cycle {K : Nat} {vl : Nat → Nat} {z0 : ow_MS} {pr0 : Nat} : ∀ (k L : Nat) (r0 : Nat) (t0 : Int32) (z : ow_MS), fr (fun g => pr0 + 2 ≤ g ∧ g ≤ pr0 + 4) z0 z → (L = 0 ∨ L = 1 → r0 = pr0) → Fo id (fun g => pr0 + 2 ≤ g ∧ g ≤ pr0 + 4) z0 (c_X5_cycle vl K k L r0 t0 z)
  | 0 => by
    intros
    exact fo_none
  | k + 1 => by
    intro L r0 t0 z hz h9_r0
    show Fo id (fun g => pr0 + 2 ≤ g ∧ g ≤ pr0 + 4) z0 (cb_X5_cycle vl K (c_X5_cycle vl K k) L r0 t0 z)
    unfold cb_X5_cycle
    split
    · exact fb_X5_cycle_0 (fq_X5_cycle k) hz (h9_r0 (by decide))
    · exact fb_X5_cycle_1 (fq_X5_cycle k) hz (h9_r0 (by decide))
    · exact fo_none
theorem ff_X5_cycle {vl : Nat → Nat} {K : Nat} {r0 : Nat} {z : ow_MS} : Fo id (fun g => r0 + 2 ≤ g ∧ g ≤ r0 + 4) z (ce_X5_cycle vl K r0 z) := fq_X5_cycle (pr0 := r0) K 0 _ _ z fr_rf (fun _ => rfl)
theorem fb_X5_putBefore_0 {K : Nat} {vl : Nat → Nat} {z0 z : ow_MS} {pr0 : Nat} {go : Nat → Int32 → Int32 → Int32 → Nat → ow_MS → Option ow_MS} {x1 : Int32} {x2 : Int32} {x3 : Int32} {r0 : Nat} (hgo : ∀ (L : Nat) (x1 : Int32) (x2 : Int32) (x3 : Int32) (r0 : Nat) (z : ow_MS), fr (fun g => pr0 + 2 ≤ g ∧ g ≤ pr0 + 4) z0 z → (L = 0 ∨ L = 1 ∨ L = 2 → r0 = pr0) → Fo id (fun g => pr0 + 2 ≤ g ∧ g ≤ pr0 + 4) z0 (go L x1 x2 x3 r0 z)) (hz : fr (fun g => pr0 + 2 ≤ g ∧ g ≤ pr0 + 4) z0 z) (e_r0 : r0 = pr0) : Fo id (fun g => pr0 + 2 ≤ g ∧ g ≤ pr0 + 4) z0 (cm_X5_putBefore_0 vl K go x1 x2 x3 r0 z) := by
  unfold cm_X5_putBefore_0
  exact (fo_rdF (fun v1 => (fo_if (fo_rdF (fun v2 => (fc_cpI (by omega) hz (fun z3 h_z3 => (fc_ctI (by omega) h_z3 (fun z4 h_z4 => (fo_rdF (fun v5 => (fo_wrF (by omega) h_z4 (fun z6 h_z6 => (hgo 1 _ _ _ _ z6 h_z6 (fun _ => by omega)))))))))))) (fo_some hz))))
theorem fb_X5_putBefore_1 {K : Nat} {vl : Nat → Nat} {z0 z : ow_MS} {pr0 : Nat} {go : Nat → Int32 → Int32 → Int32 → Nat → ow_MS → Option ow_MS} {x1 : Int32} {x2 : Int32} {x3 : Int32} {r0 : Nat} (hgo : ∀ (L : Nat) (x1 : Int32) (x2 : Int32) (x3 : Int32) (r0 : Nat) (z : ow_MS), fr (fun g => pr0 + 2 ≤ g ∧ g ≤ pr0 + 4) z0 z → (L = 0 ∨ L = 1 ∨ L = 2 → r0 = pr0) → Fo id (fun g => pr0 + 2 ≤ g ∧ g ≤ pr0 + 4) z0 (go L x1 x2 x3 r0 z)) (hz : fr (fun g => pr0 + 2 ≤ g ∧ g ≤ pr0 + 4) z0 z) (e_r0 : r0 = pr0) : Fo id (fun g => pr0 + 2 ≤ g ∧ g ≤ pr0 + 4) z0 (cm_X5_putBefore_1 vl K go x1 x2 x3 r0 z) := by
  unfold cm_X5_putBefore_1
  exact (fo_rdF (fun v7 => (fo_if (hgo 2 _ _ _ _ z hz (fun _ => by omega)) (fo_if (hgo 2 _ _ _ _ z hz (fun _ => by omega)) (fo_cs1 ff_X5_weigh (fun g hg => by omega) hz (fun v9 z8 h_z8 => (hgo 1 _ _ _ _ z8 h_z8 (fun _ => by omega))))))))
theorem fb_X5_putBefore_2 {K : Nat} {vl : Nat → Nat} {z0 z : ow_MS} {pr0 : Nat} {go : Nat → Int32 → Int32 → Int32 → Nat → ow_MS → Option ow_MS} {x1 : Int32} {x2 : Int32} {x3 : Int32} {r0 : Nat} (hgo : ∀ (L : Nat) (x1 : Int32) (x2 : Int32) (x3 : Int32) (r0 : Nat) (z : ow_MS), fr (fun g => pr0 + 2 ≤ g ∧ g ≤ pr0 + 4) z0 z → (L = 0 ∨ L = 1 ∨ L = 2 → r0 = pr0) → Fo id (fun g => pr0 + 2 ≤ g ∧ g ≤ pr0 + 4) z0 (go L x1 x2 x3 r0 z)) (hz : fr (fun g => pr0 + 2 ≤ g ∧ g ≤ pr0 + 4) z0 z) (e_r0 : r0 = pr0) : Fo id (fun g => pr0 + 2 ≤ g ∧ g ≤ pr0 + 4) z0 (cm_X5_putBefore_2 vl K go x1 x2 x3 r0 z) := by
  unfold cm_X5_putBefore_2
  exact (fo_cs0 ff_X5_strip (fun g hg => by omega) hz (fun z10 h_z10 => (fo_some h_z10)))
theorem fq_X5_putBefore {K : Nat} {vl : Nat → Nat} {z0 : ow_MS} {pr0 : Nat} : ∀ (k L : Nat) (x1 : Int32) (x2 : Int32) (x3 : Int32) (r0 : Nat) (z : ow_MS), fr (fun g => pr0 + 2 ≤ g ∧ g ≤ pr0 + 4) z0 z → (L = 0 ∨ L = 1 ∨ L = 2 → r0 = pr0) → Fo id (fun g => pr0 + 2 ≤ g ∧ g ≤ pr0 + 4) z0 (c_X5_putBefore vl K k L x1 x2 x3 r0 z)
  | 0 => by
    intros
    exact fo_none
  | k + 1 => by
    intro L x1 x2 x3 r0 z hz h9_r0
    show Fo id (fun g => pr0 + 2 ≤ g ∧ g ≤ pr0 + 4) z0 (cb_X5_putBefore vl K (c_X5_putBefore vl K k) L x1 x2 x3 r0 z)
    unfold cb_X5_putBefore
    split
    · exact fb_X5_putBefore_0 (fq_X5_putBefore k) hz (h9_r0 (by decide))
    · exact fb_X5_putBefore_1 (fq_X5_putBefore k) hz (h9_r0 (by decide))
    · exact fb_X5_putBefore_2 (fq_X5_putBefore k) hz (h9_r0 (by decide))
    · exact fo_none
theorem ff_X5_putBefore {vl : Nat → Nat} {K : Nat} {r0 : Nat} {x1 : Int32} {z : ow_MS} : Fo id (fun g => r0 + 2 ≤ g ∧ g ≤ r0 + 4) z (ce_X5_putBefore vl K r0 x1 z) := fq_X5_putBefore (pr0 := r0) K 0 _ _ _ _ z fr_rf (fun _ => rfl)
theorem fb_X5_decycle_0 {K : Nat} {vl : Nat → Nat} {z0 z : ow_MS} {pr0 : Nat} {go : Nat → Int32 → Nat → Int32 → ow_MS → Option ow_MS} {x1 : Int32} {r0 : Nat} {t0 : Int32} (hgo : ∀ (L : Nat) (x1 : Int32) (r0 : Nat) (t0 : Int32) (z : ow_MS), fr (fun g => pr0 + 2 ≤ g ∧ g ≤ pr0 + 4) z0 z → (L = 0 ∨ L = 1 → r0 = pr0) → Fo id (fun g => pr0 + 2 ≤ g ∧ g ≤ pr0 + 4) z0 (go L x1 r0 t0 z)) (hz : fr (fun g => pr0 + 2 ≤ g ∧ g ≤ pr0 + 4) z0 z) (e_r0 : r0 = pr0) : Fo id (fun g => pr0 + 2 ≤ g ∧ g ≤ pr0 + 4) z0 (cm_X5_decycle_0 vl K go x1 r0 t0 z) := by
  unfold cm_X5_decycle_0
  exact (fo_rdF (fun v1 => (fo_if (fo_some hz) (fo_rdF (fun v2 => (fc_crI (fun v3 => (fo_rdF (fun v4 => (fo_wrF (by omega) hz (fun z5 h_z5 => (fo_rdF (fun v6 => (fo_if (hgo 1 _ _ _ z5 h_z5 (fun _ => by omega)) (fo_rdF (fun v7 => (fo_cs1 ff_X5_turned (fun g hg => hg.elim) h_z5 (fun v9 z8 h_z8 => (hgo 1 _ _ _ z8 h_z8 (fun _ => by omega))))))))))))))))))))
theorem fb_X5_decycle_1 {K : Nat} {vl : Nat → Nat} {z0 z : ow_MS} {pr0 : Nat} {go : Nat → Int32 → Nat → Int32 → ow_MS → Option ow_MS} {x1 : Int32} {r0 : Nat} {t0 : Int32} (hgo : ∀ (L : Nat) (x1 : Int32) (r0 : Nat) (t0 : Int32) (z : ow_MS), fr (fun g => pr0 + 2 ≤ g ∧ g ≤ pr0 + 4) z0 z → (L = 0 ∨ L = 1 → r0 = pr0) → Fo id (fun g => pr0 + 2 ≤ g ∧ g ≤ pr0 + 4) z0 (go L x1 r0 t0 z)) (hz : fr (fun g => pr0 + 2 ≤ g ∧ g ≤ pr0 + 4) z0 z) (e_r0 : r0 = pr0) : Fo id (fun g => pr0 + 2 ≤ g ∧ g ≤ pr0 + 4) z0 (cm_X5_decycle_1 vl K go x1 r0 t0 z) := by
  unfold cm_X5_decycle_1
  exact (fo_cs0 ff_X5_putBefore (fun g hg => by omega) hz (fun z10 h_z10 => (fo_some h_z10)))
theorem fq_X5_decycle {K : Nat} {vl : Nat → Nat} {z0 : ow_MS} {pr0 : Nat} : ∀ (k L : Nat) (x1 : Int32) (r0 : Nat) (t0 : Int32) (z : ow_MS), fr (fun g => pr0 + 2 ≤ g ∧ g ≤ pr0 + 4) z0 z → (L = 0 ∨ L = 1 → r0 = pr0) → Fo id (fun g => pr0 + 2 ≤ g ∧ g ≤ pr0 + 4) z0 (c_X5_decycle vl K k L x1 r0 t0 z)
  | 0 => by
    intros
    exact fo_none
  | k + 1 => by
    intro L x1 r0 t0 z hz h9_r0
    show Fo id (fun g => pr0 + 2 ≤ g ∧ g ≤ pr0 + 4) z0 (cb_X5_decycle vl K (c_X5_decycle vl K k) L x1 r0 t0 z)
    unfold cb_X5_decycle
    split
    · exact fb_X5_decycle_0 (fq_X5_decycle k) hz (h9_r0 (by decide))
    · exact fb_X5_decycle_1 (fq_X5_decycle k) hz (h9_r0 (by decide))
    · exact fo_none
theorem ff_X5_decycle {vl : Nat → Nat} {K : Nat} {r0 : Nat} {z : ow_MS} : Fo id (fun g => r0 + 2 ≤ g ∧ g ≤ r0 + 4) z (ce_X5_decycle vl K r0 z) := fq_X5_decycle (pr0 := r0) K 0 _ _ _ z fr_rf (fun _ => rfl)
theorem fb_X10_climb_0 {K : Nat} {vl : Nat → Nat} {z0 z : ow_MS} {pr0 : Nat} {go : Nat → Int32 → Int32 → Int32 → Nat → Int32 → ow_MS → Option ow_MS} {x1 : Int32} {x2 : Int32} {x3 : Int32} {r0 : Nat} {t0 : Int32} (hgo : ∀ (L : Nat) (x1 : Int32) (x2 : Int32) (x3 : Int32) (r0 : Nat) (t0 : Int32) (z : ow_MS), fr (fun g => pr0 + 1002 ≤ g ∧ g ≤ pr0 + 1004) z0 z → (L = 0 ∨ L = 1 ∨ L = 2 ∨ L = 3 ∨ L = 4 ∨ L = 5 → r0 = pr0) → Fo id (fun g => pr0 + 1002 ≤ g ∧ g ≤ pr0 + 1004) z0 (go L x1 x2 x3 r0 t0 z)) (hz : fr (fun g => pr0 + 1002 ≤ g ∧ g ≤ pr0 + 1004) z0 z) (e_r0 : r0 = pr0) : Fo id (fun g => pr0 + 1002 ≤ g ∧ g ≤ pr0 + 1004) z0 (cm_X10_climb_0 vl K go x1 x2 x3 r0 t0 z) := by
  unfold cm_X10_climb_0
  exact (hgo 1 _ _ _ _ _ z hz (fun _ => by omega))
theorem fb_X10_climb_1 {K : Nat} {vl : Nat → Nat} {z0 z : ow_MS} {pr0 : Nat} {go : Nat → Int32 → Int32 → Int32 → Nat → Int32 → ow_MS → Option ow_MS} {x1 : Int32} {x2 : Int32} {x3 : Int32} {r0 : Nat} {t0 : Int32} (hgo : ∀ (L : Nat) (x1 : Int32) (x2 : Int32) (x3 : Int32) (r0 : Nat) (t0 : Int32) (z : ow_MS), fr (fun g => pr0 + 1002 ≤ g ∧ g ≤ pr0 + 1004) z0 z → (L = 0 ∨ L = 1 ∨ L = 2 ∨ L = 3 ∨ L = 4 ∨ L = 5 → r0 = pr0) → Fo id (fun g => pr0 + 1002 ≤ g ∧ g ≤ pr0 + 1004) z0 (go L x1 x2 x3 r0 t0 z)) (hz : fr (fun g => pr0 + 1002 ≤ g ∧ g ≤ pr0 + 1004) z0 z) (e_r0 : r0 = pr0) : Fo id (fun g => pr0 + 1002 ≤ g ∧ g ≤ pr0 + 1004) z0 (cm_X10_climb_1 vl K go x1 x2 x3 r0 t0 z) := by
  unfold cm_X10_climb_1
  exact (fo_if (hgo 3 _ _ _ _ _ z hz (fun _ => by omega)) (fo_if (hgo 3 _ _ _ _ _ z hz (fun _ => by omega)) (fo_rdF (fun v1 => (fo_cs0 ff_X5_cycle (fun g hg => by omega) hz (fun z2 h_z2 => (fo_rdF (fun v3 => (fo_if (hgo 2 _ _ _ _ _ z2 h_z2 (fun _ => by omega)) (hgo 2 _ _ _ _ _ z2 h_z2 (fun _ => by omega)))))))))))
theorem fb_X10_climb_2 {K : Nat} {vl : Nat → Nat} {z0 z : ow_MS} {pr0 : Nat} {go : Nat → Int32 → Int32 → Int32 → Nat → Int32 → ow_MS → Option ow_MS} {x1 : Int32} {x2 : Int32} {x3 : Int32} {r0 : Nat} {t0 : Int32} (hgo : ∀ (L : Nat) (x1 : Int32) (x2 : Int32) (x3 : Int32) (r0 : Nat) (t0 : Int32) (z : ow_MS), fr (fun g => pr0 + 1002 ≤ g ∧ g ≤ pr0 + 1004) z0 z → (L = 0 ∨ L = 1 ∨ L = 2 ∨ L = 3 ∨ L = 4 ∨ L = 5 → r0 = pr0) → Fo id (fun g => pr0 + 1002 ≤ g ∧ g ≤ pr0 + 1004) z0 (go L x1 x2 x3 r0 t0 z)) (hz : fr (fun g => pr0 + 1002 ≤ g ∧ g ≤ pr0 + 1004) z0 z) (e_r0 : r0 = pr0) : Fo id (fun g => pr0 + 1002 ≤ g ∧ g ≤ pr0 + 1004) z0 (cm_X10_climb_2 vl K go x1 x2 x3 r0 t0 z) := by
  unfold cm_X10_climb_2
  exact (hgo 1 _ _ _ _ _ z hz (fun _ => by omega))
theorem fb_X10_climb_3 {K : Nat} {vl : Nat → Nat} {z0 z : ow_MS} {pr0 : Nat} {go : Nat → Int32 → Int32 → Int32 → Nat → Int32 → ow_MS → Option ow_MS} {x1 : Int32} {x2 : Int32} {x3 : Int32} {r0 : Nat} {t0 : Int32} (hgo : ∀ (L : Nat) (x1 : Int32) (x2 : Int32) (x3 : Int32) (r0 : Nat) (t0 : Int32) (z : ow_MS), fr (fun g => pr0 + 1002 ≤ g ∧ g ≤ pr0 + 1004) z0 z → (L = 0 ∨ L = 1 ∨ L = 2 ∨ L = 3 ∨ L = 4 ∨ L = 5 → r0 = pr0) → Fo id (fun g => pr0 + 1002 ≤ g ∧ g ≤ pr0 + 1004) z0 (go L x1 x2 x3 r0 t0 z)) (hz : fr (fun g => pr0 + 1002 ≤ g ∧ g ≤ pr0 + 1004) z0 z) (e_r0 : r0 = pr0) : Fo id (fun g => pr0 + 1002 ≤ g ∧ g ≤ pr0 + 1004) z0 (cm_X10_climb_3 vl K go x1 x2 x3 r0 t0 z) := by
  unfold cm_X10_climb_3
  exact (hgo 4 _ _ _ _ _ z hz (fun _ => by omega))
theorem fb_X10_climb_4 {K : Nat} {vl : Nat → Nat} {z0 z : ow_MS} {pr0 : Nat} {go : Nat → Int32 → Int32 → Int32 → Nat → Int32 → ow_MS → Option ow_MS} {x1 : Int32} {x2 : Int32} {x3 : Int32} {r0 : Nat} {t0 : Int32} (hgo : ∀ (L : Nat) (x1 : Int32) (x2 : Int32) (x3 : Int32) (r0 : Nat) (t0 : Int32) (z : ow_MS), fr (fun g => pr0 + 1002 ≤ g ∧ g ≤ pr0 + 1004) z0 z → (L = 0 ∨ L = 1 ∨ L = 2 ∨ L = 3 ∨ L = 4 ∨ L = 5 → r0 = pr0) → Fo id (fun g => pr0 + 1002 ≤ g ∧ g ≤ pr0 + 1004) z0 (go L x1 x2 x3 r0 t0 z)) (hz : fr (fun g => pr0 + 1002 ≤ g ∧ g ≤ pr0 + 1004) z0 z) (e_r0 : r0 = pr0) : Fo id (fun g => pr0 + 1002 ≤ g ∧ g ≤ pr0 + 1004) z0 (cm_X10_climb_4 vl K go x1 x2 x3 r0 t0 z) := by
  unfold cm_X10_climb_4
  exact (fo_if (fo_some hz) (fo_if (fo_some hz) (fo_rdF (fun v4 => (fo_rdF (fun v5 => (fo_cs0 ff_X5_decycle (fun g hg => by omega) hz (fun z6 h_z6 => (fo_rdF (fun v7 => (fo_rdF (fun v8 => (fo_if (hgo 5 _ _ _ _ _ z6 h_z6 (fun _ => by omega)) (hgo 5 _ _ _ _ _ z6 h_z6 (fun _ => by omega)))))))))))))))
theorem fb_X10_climb_5 {K : Nat} {vl : Nat → Nat} {z0 z : ow_MS} {pr0 : Nat} {go : Nat → Int32 → Int32 → Int32 → Nat → Int32 → ow_MS → Option ow_MS} {x1 : Int32} {x2 : Int32} {x3 : Int32} {r0 : Nat} {t0 : Int32} (hgo : ∀ (L : Nat) (x1 : Int32) (x2 : Int32) (x3 : Int32) (r0 : Nat) (t0 : Int32) (z : ow_MS), fr (fun g => pr0 + 1002 ≤ g ∧ g ≤ pr0 + 1004) z0 z → (L = 0 ∨ L = 1 ∨ L = 2 ∨ L = 3 ∨ L = 4 ∨ L = 5 → r0 = pr0) → Fo id (fun g => pr0 + 1002 ≤ g ∧ g ≤ pr0 + 1004) z0 (go L x1 x2 x3 r0 t0 z)) (hz : fr (fun g => pr0 + 1002 ≤ g ∧ g ≤ pr0 + 1004) z0 z) (e_r0 : r0 = pr0) : Fo id (fun g => pr0 + 1002 ≤ g ∧ g ≤ pr0 + 1004) z0 (cm_X10_climb_5 vl K go x1 x2 x3 r0 t0 z) := by
  unfold cm_X10_climb_5
  exact (hgo 4 _ _ _ _ _ z hz (fun _ => by omega))
theorem fq_X10_climb {K : Nat} {vl : Nat → Nat} {z0 : ow_MS} {pr0 : Nat} : ∀ (k L : Nat) (x1 : Int32) (x2 : Int32) (x3 : Int32) (r0 : Nat) (t0 : Int32) (z : ow_MS), fr (fun g => pr0 + 1002 ≤ g ∧ g ≤ pr0 + 1004) z0 z → (L = 0 ∨ L = 1 ∨ L = 2 ∨ L = 3 ∨ L = 4 ∨ L = 5 → r0 = pr0) → Fo id (fun g => pr0 + 1002 ≤ g ∧ g ≤ pr0 + 1004) z0 (c_X10_climb vl K k L x1 x2 x3 r0 t0 z)
  | 0 => by
    intros
    exact fo_none
  | k + 1 => by
    intro L x1 x2 x3 r0 t0 z hz h9_r0
    show Fo id (fun g => pr0 + 1002 ≤ g ∧ g ≤ pr0 + 1004) z0 (cb_X10_climb vl K (c_X10_climb vl K k) L x1 x2 x3 r0 t0 z)
    unfold cb_X10_climb
    split
    · exact fb_X10_climb_0 (fq_X10_climb k) hz (h9_r0 (by decide))
    · exact fb_X10_climb_1 (fq_X10_climb k) hz (h9_r0 (by decide))
    · exact fb_X10_climb_2 (fq_X10_climb k) hz (h9_r0 (by decide))
    · exact fb_X10_climb_3 (fq_X10_climb k) hz (h9_r0 (by decide))
    · exact fb_X10_climb_4 (fq_X10_climb k) hz (h9_r0 (by decide))
    · exact fb_X10_climb_5 (fq_X10_climb k) hz (h9_r0 (by decide))
    · exact fo_none
theorem ff_X10_climb {vl : Nat → Nat} {K : Nat} {r0 : Nat} {z : ow_MS} : Fo id (fun g => r0 + 1002 ≤ g ∧ g ≤ r0 + 1004) z (ce_X10_climb vl K r0 z) := fq_X10_climb (pr0 := r0) K 0 _ _ _ _ _ z fr_rf (fun _ => rfl)
theorem fb_X10_compare_0 {K : Nat} {vl : Nat → Nat} {z0 z : ow_MS} {pr0 : Nat} {pr1 : Nat} {pr3 : Nat} {go : Nat → Int32 → Int32 → Int32 → Nat → Nat → Nat → ow_MS → Option (Int32 × ow_MS)} {x2 : Int32} {x4 : Int32} {x5 : Int32} {r0 : Nat} {r1 : Nat} {r3 : Nat} (hgo : ∀ (L : Nat) (x2 : Int32) (x4 : Int32) (x5 : Int32) (r0 : Nat) (r1 : Nat) (r3 : Nat) (z : ow_MS), fr (fun _ => False) z0 z → (L = 0 ∨ L = 1 → r0 = pr0) → (L = 0 ∨ L = 1 → r1 = pr1) → (L = 0 ∨ L = 1 → r3 = pr3) → Fo Prod.snd (fun _ => False) z0 (go L x2 x4 x5 r0 r1 r3 z)) (hz : fr (fun _ => False) z0 z) (e_r0 : r0 = pr0) (e_r1 : r1 = pr1) (e_r3 : r3 = pr3) : Fo Prod.snd (fun _ => False) z0 (cm_X10_compare_0 vl K go x2 x4 x5 r0 r1 r3 z) := by
  unfold cm_X10_compare_0
  exact (hgo 1 _ _ _ _ _ _ z hz (fun _ => by omega) (fun _ => by omega) (fun _ => by omega))
theorem fb_X10_compare_1 {K : Nat} {vl : Nat → Nat} {z0 z : ow_MS} {pr0 : Nat} {pr1 : Nat} {pr3 : Nat} {go : Nat → Int32 → Int32 → Int32 → Nat → Nat → Nat → ow_MS → Option (Int32 × ow_MS)} {x2 : Int32} {x4 : Int32} {x5 : Int32} {r0 : Nat} {r1 : Nat} {r3 : Nat} (hgo : ∀ (L : Nat) (x2 : Int32) (x4 : Int32) (x5 : Int32) (r0 : Nat) (r1 : Nat) (r3 : Nat) (z : ow_MS), fr (fun _ => False) z0 z → (L = 0 ∨ L = 1 → r0 = pr0) → (L = 0 ∨ L = 1 → r1 = pr1) → (L = 0 ∨ L = 1 → r3 = pr3) → Fo Prod.snd (fun _ => False) z0 (go L x2 x4 x5 r0 r1 r3 z)) (hz : fr (fun _ => False) z0 z) (e_r0 : r0 = pr0) (e_r1 : r1 = pr1) (e_r3 : r3 = pr3) : Fo Prod.snd (fun _ => False) z0 (cm_X10_compare_1 vl K go x2 x4 x5 r0 r1 r3 z) := by
  unfold cm_X10_compare_1
  exact (fo_rdF (fun v1 => (fo_if (fo_some hz) (fc_crI (fun v2 => (fc_crI (fun v3 => (fo_if (hgo 1 _ _ _ _ _ _ z hz (fun _ => by omega) (fun _ => by omega) (fun _ => by omega)) (fc_crI (fun v4 => (fc_crI (fun v5 => (fo_if (fo_some hz) (fo_some hz))))))))))))))
theorem fq_X10_compare {K : Nat} {vl : Nat → Nat} {z0 : ow_MS} {pr0 : Nat} {pr1 : Nat} {pr3 : Nat} : ∀ (k L : Nat) (x2 : Int32) (x4 : Int32) (x5 : Int32) (r0 : Nat) (r1 : Nat) (r3 : Nat) (z : ow_MS), fr (fun _ => False) z0 z → (L = 0 ∨ L = 1 → r0 = pr0) → (L = 0 ∨ L = 1 → r1 = pr1) → (L = 0 ∨ L = 1 → r3 = pr3) → Fo Prod.snd (fun _ => False) z0 (c_X10_compare vl K k L x2 x4 x5 r0 r1 r3 z)
  | 0 => by
    intros
    exact fo_none
  | k + 1 => by
    intro L x2 x4 x5 r0 r1 r3 z hz h9_r0 h9_r1 h9_r3
    show Fo Prod.snd (fun _ => False) z0 (cb_X10_compare vl K (c_X10_compare vl K k) L x2 x4 x5 r0 r1 r3 z)
    unfold cb_X10_compare
    split
    · exact fb_X10_compare_0 (fq_X10_compare k) hz (h9_r0 (by decide)) (h9_r1 (by decide)) (h9_r3 (by decide))
    · exact fb_X10_compare_1 (fq_X10_compare k) hz (h9_r0 (by decide)) (h9_r1 (by decide)) (h9_r3 (by decide))
    · exact fo_none
theorem ff_X10_compare {vl : Nat → Nat} {K : Nat} {r0 : Nat} {r1 : Nat} {x2 : Int32} {r3 : Nat} {x4 : Int32} {z : ow_MS} : Fo Prod.snd (fun _ => False) z (ce_X10_compare vl K r0 r1 x2 r3 x4 z) := fq_X10_compare (pr0 := r0) (pr1 := r1) (pr3 := r3) K 0 _ _ _ _ _ _ z fr_rf (fun _ => rfl) (fun _ => rfl) (fun _ => rfl)
theorem fb_X10_add_0 {K : Nat} {vl : Nat → Nat} {z0 z : ow_MS} {pr0 : Nat} {go : Nat → Int32 → Int32 → Int32 → Int32 → Int32 → Nat → ow_MS → Option ow_MS} {x1 : Int32} {x2 : Int32} {x3 : Int32} {x4 : Int32} {x5 : Int32} {r0 : Nat} (hgo : ∀ (L : Nat) (x1 : Int32) (x2 : Int32) (x3 : Int32) (x4 : Int32) (x5 : Int32) (r0 : Nat) (z : ow_MS), fr (fun g => pr0 + 4 ≤ g ∧ g ≤ pr0 + 6) z0 z → (L = 0 ∨ L = 1 ∨ L = 2 ∨ L = 3 → r0 = pr0) → Fo id (fun g => pr0 + 4 ≤ g ∧ g ≤ pr0 + 6) z0 (go L x1 x2 x3 x4 x5 r0 z)) (hz : fr (fun g => pr0 + 4 ≤ g ∧ g ≤ pr0 + 6) z0 z) (e_r0 : r0 = pr0) : Fo id (fun g => pr0 + 4 ≤ g ∧ g ≤ pr0 + 6) z0 (cm_X10_add_0 vl K go x1 x2 x3 x4 x5 r0 z) := by
  unfold cm_X10_add_0
  exact (fo_rdF (fun v1 => (hgo 1 _ _ _ _ _ _ z hz (fun _ => by omega))))
theorem fb_X10_add_1 {K : Nat} {vl : Nat → Nat} {z0 z : ow_MS} {pr0 : Nat} {go : Nat → Int32 → Int32 → Int32 → Int32 → Int32 → Nat → ow_MS → Option ow_MS} {x1 : Int32} {x2 : Int32} {x3 : Int32} {x4 : Int32} {x5 : Int32} {r0 : Nat} (hgo : ∀ (L : Nat) (x1 : Int32) (x2 : Int32) (x3 : Int32) (x4 : Int32) (x5 : Int32) (r0 : Nat) (z : ow_MS), fr (fun g => pr0 + 4 ≤ g ∧ g ≤ pr0 + 6) z0 z → (L = 0 ∨ L = 1 ∨ L = 2 ∨ L = 3 → r0 = pr0) → Fo id (fun g => pr0 + 4 ≤ g ∧ g ≤ pr0 + 6) z0 (go L x1 x2 x3 x4 x5 r0 z)) (hz : fr (fun g => pr0 + 4 ≤ g ∧ g ≤ pr0 + 6) z0 z) (e_r0 : r0 = pr0) : Fo id (fun g => pr0 + 4 ≤ g ∧ g ≤ pr0 + 6) z0 (cm_X10_add_1 vl K go x1 x2 x3 x4 x5 r0 z) := by
  unfold cm_X10_add_1
  exact (fo_if (hgo 3 _ _ _ _ _ _ z hz (fun _ => by omega)) (fo_if (hgo 3 _ _ _ _ _ _ z hz (fun _ => by omega)) (fc_crI (fun v2 => (fo_cs1 ff_X10_compare (fun g hg => hg.elim) hz (fun v4 z3 h_z3 => (fo_if (fo_some h_z3) (fo_if (hgo 2 _ _ _ _ _ _ z3 h_z3 (fun _ => by omega)) (hgo 2 _ _ _ _ _ _ z3 h_z3 (fun _ => by omega))))))))))
theorem fb_X10_add_2 {K : Nat} {vl : Nat → Nat} {z0 z : ow_MS} {pr0 : Nat} {go : Nat → Int32 → Int32 → Int32 → Int32 → Int32 → Nat → ow_MS → Option ow_MS} {x1 : Int32} {x2 : Int32} {x3 : Int32} {x4 : Int32} {x5 : Int32} {r0 : Nat} (hgo : ∀ (L : Nat) (x1 : Int32) (x2 : Int32) (x3 : Int32) (x4 : Int32) (x5 : Int32) (r0 : Nat) (z : ow_MS), fr (fun g => pr0 + 4 ≤ g ∧ g ≤ pr0 + 6) z0 z → (L = 0 ∨ L = 1 ∨ L = 2 ∨ L = 3 → r0 = pr0) → Fo id (fun g => pr0 + 4 ≤ g ∧ g ≤ pr0 + 6) z0 (go L x1 x2 x3 x4 x5 r0 z)) (hz : fr (fun g => pr0 + 4 ≤ g ∧ g ≤ pr0 + 6) z0 z) (e_r0 : r0 = pr0) : Fo id (fun g => pr0 + 4 ≤ g ∧ g ≤ pr0 + 6) z0 (cm_X10_add_2 vl K go x1 x2 x3 x4 x5 r0 z) := by
  unfold cm_X10_add_2
  exact (hgo 1 _ _ _ _ _ _ z hz (fun _ => by omega))
theorem fb_X10_add_3 {K : Nat} {vl : Nat → Nat} {z0 z : ow_MS} {pr0 : Nat} {go : Nat → Int32 → Int32 → Int32 → Int32 → Int32 → Nat → ow_MS → Option ow_MS} {x1 : Int32} {x2 : Int32} {x3 : Int32} {x4 : Int32} {x5 : Int32} {r0 : Nat} (hgo : ∀ (L : Nat) (x1 : Int32) (x2 : Int32) (x3 : Int32) (x4 : Int32) (x5 : Int32) (r0 : Nat) (z : ow_MS), fr (fun g => pr0 + 4 ≤ g ∧ g ≤ pr0 + 6) z0 z → (L = 0 ∨ L = 1 ∨ L = 2 ∨ L = 3 → r0 = pr0) → Fo id (fun g => pr0 + 4 ≤ g ∧ g ≤ pr0 + 6) z0 (go L x1 x2 x3 x4 x5 r0 z)) (hz : fr (fun g => pr0 + 4 ≤ g ∧ g ≤ pr0 + 6) z0 z) (e_r0 : r0 = pr0) : Fo id (fun g => pr0 + 4 ≤ g ∧ g ≤ pr0 + 6) z0 (cm_X10_add_3 vl K go x1 x2 x3 x4 x5 r0 z) := by
  unfold cm_X10_add_3
  exact (fo_rdF (fun v5 => (fo_if (fo_some hz) (fo_rdF (fun v6 => (fo_if (fo_rdF (fun v7 => (fo_rdF (fun v8 => (fc_cpI (by omega) hz (fun z9 h_z9 => (fo_rdF (fun v10 => (fc_cpI (by omega) h_z9 (fun z11 h_z11 => (fo_rdF (fun v12 => (fc_ctI (by omega) h_z11 (fun z13 h_z13 => (fo_rdF (fun v14 => (fo_wrF (by omega) h_z13 (fun z15 h_z15 => (fo_some h_z15))))))))))))))))))) (fo_some hz)))))))
theorem fq_X10_add {K : Nat} {vl : Nat → Nat} {z0 : ow_MS} {pr0 : Nat} : ∀ (k L : Nat) (x1 : Int32) (x2 : Int32) (x3 : Int32) (x4 : Int32) (x5 : Int32) (r0 : Nat) (z : ow_MS), fr (fun g => pr0 + 4 ≤ g ∧ g ≤ pr0 + 6) z0 z → (L = 0 ∨ L = 1 ∨ L = 2 ∨ L = 3 → r0 = pr0) → Fo id (fun g => pr0 + 4 ≤ g ∧ g ≤ pr0 + 6) z0 (c_X10_add vl K k L x1 x2 x3 x4 x5 r0 z)
  | 0 => by
    intros
    exact fo_none
  | k + 1 => by
    intro L x1 x2 x3 x4 x5 r0 z hz h9_r0
    show Fo id (fun g => pr0 + 4 ≤ g ∧ g ≤ pr0 + 6) z0 (cb_X10_add vl K (c_X10_add vl K k) L x1 x2 x3 x4 x5 r0 z)
    unfold cb_X10_add
    split
    · exact fb_X10_add_0 (fq_X10_add k) hz (h9_r0 (by decide))
    · exact fb_X10_add_1 (fq_X10_add k) hz (h9_r0 (by decide))
    · exact fb_X10_add_2 (fq_X10_add k) hz (h9_r0 (by decide))
    · exact fb_X10_add_3 (fq_X10_add k) hz (h9_r0 (by decide))
    · exact fo_none
theorem ff_X10_add {vl : Nat → Nat} {K : Nat} {r0 : Nat} {z : ow_MS} : Fo id (fun g => r0 + 4 ≤ g ∧ g ≤ r0 + 6) z (ce_X10_add vl K r0 z) := fq_X10_add (pr0 := r0) K 0 _ _ _ _ _ _ z fr_rf (fun _ => rfl)
theorem ff_X10_begin {vl : Nat → Nat} {K : Nat} {r0 : Nat} {z : ow_MS} : Fo id (fun g => r0 + 2 ≤ g ∧ g ≤ r0 + 6) z (ce_X10_begin vl K r0 z) := by
  unfold ce_X10_begin cm_X10_begin_0
  exact (fo_rdF (fun v1 => (fo_wrF (by omega) fr_rf (fun z2 h_z2 => (fo_rdF (fun v3 => (fo_wrF (by omega) h_z2 (fun z4 h_z4 => (fo_wrF (by omega) h_z4 (fun z5 h_z5 => (fo_cs0 ff_X10_add (fun g hg => by omega) h_z5 (fun z6 h_z6 => (fo_some h_z6)))))))))))))
theorem fb_X10_goesOn_0 {K : Nat} {vl : Nat → Nat} {z0 z : ow_MS} {pr0 : Nat} {go : Nat → Int32 → Int32 → Int32 → Nat → ow_MS → Option (Int32 × ow_MS)} {x1 : Int32} {x2 : Int32} {x3 : Int32} {r0 : Nat} (hgo : ∀ (L : Nat) (x1 : Int32) (x2 : Int32) (x3 : Int32) (r0 : Nat) (z : ow_MS), fr (fun _ => False) z0 z → (L = 0 ∨ L = 1 → r0 = pr0) → Fo Prod.snd (fun _ => False) z0 (go L x1 x2 x3 r0 z)) (hz : fr (fun _ => False) z0 z) (e_r0 : r0 = pr0) : Fo Prod.snd (fun _ => False) z0 (cm_X10_goesOn_0 vl K go x1 x2 x3 r0 z) := by
  unfold cm_X10_goesOn_0
  exact (hgo 1 _ _ _ _ z hz (fun _ => by omega))
theorem fb_X10_goesOn_1 {K : Nat} {vl : Nat → Nat} {z0 z : ow_MS} {pr0 : Nat} {go : Nat → Int32 → Int32 → Int32 → Nat → ow_MS → Option (Int32 × ow_MS)} {x1 : Int32} {x2 : Int32} {x3 : Int32} {r0 : Nat} (hgo : ∀ (L : Nat) (x1 : Int32) (x2 : Int32) (x3 : Int32) (r0 : Nat) (z : ow_MS), fr (fun _ => False) z0 z → (L = 0 ∨ L = 1 → r0 = pr0) → Fo Prod.snd (fun _ => False) z0 (go L x1 x2 x3 r0 z)) (hz : fr (fun _ => False) z0 z) (e_r0 : r0 = pr0) : Fo Prod.snd (fun _ => False) z0 (cm_X10_goesOn_1 vl K go x1 x2 x3 r0 z) := by
  unfold cm_X10_goesOn_1
  exact (fo_if (fo_okZ (fo_some hz)) (fc_crI (fun v1 => (fc_crI (fun v2 => (fo_if (fo_okZ (fo_some hz)) (hgo 1 _ _ _ _ z hz (fun _ => by omega))))))))
theorem fq_X10_goesOn {K : Nat} {vl : Nat → Nat} {z0 : ow_MS} {pr0 : Nat} : ∀ (k L : Nat) (x1 : Int32) (x2 : Int32) (x3 : Int32) (r0 : Nat) (z : ow_MS), fr (fun _ => False) z0 z → (L = 0 ∨ L = 1 → r0 = pr0) → Fo Prod.snd (fun _ => False) z0 (c_X10_goesOn vl K k L x1 x2 x3 r0 z)
  | 0 => by
    intros
    exact fo_none
  | k + 1 => by
    intro L x1 x2 x3 r0 z hz h9_r0
    show Fo Prod.snd (fun _ => False) z0 (cb_X10_goesOn vl K (c_X10_goesOn vl K k) L x1 x2 x3 r0 z)
    unfold cb_X10_goesOn
    split
    · exact fb_X10_goesOn_0 (fq_X10_goesOn k) hz (h9_r0 (by decide))
    · exact fb_X10_goesOn_1 (fq_X10_goesOn k) hz (h9_r0 (by decide))
    · exact fo_none
theorem ff_X10_goesOn {vl : Nat → Nat} {K : Nat} {r0 : Nat} {x1 : Int32} {x2 : Int32} {z : ow_MS} : Fo Prod.snd (fun _ => False) z (ce_X10_goesOn vl K r0 x1 x2 z) := fq_X10_goesOn (pr0 := r0) K 0 _ _ _ _ z fr_rf (fun _ => rfl)
theorem fb_X5_conjugateBy_0 {K : Nat} {vl : Nat → Nat} {z0 z : ow_MS} {pr0 : Nat} {go : Nat → Int32 → Int32 → Int32 → Int32 → Nat → Int32 → ow_MS → Option ow_MS} {x1 : Int32} {x2 : Int32} {x3 : Int32} {x4 : Int32} {r0 : Nat} {t0 : Int32} (hgo : ∀ (L : Nat) (x1 : Int32) (x2 : Int32) (x3 : Int32) (x4 : Int32) (r0 : Nat) (t0 : Int32) (z : ow_MS), fr (fun g => pr0 + 2 ≤ g ∧ g ≤ pr0 + 4) z0 z → (L = 0 ∨ L = 1 ∨ L = 2 → r0 = pr0) → Fo id (fun g => pr0 + 2 ≤ g ∧ g ≤ pr0 + 4) z0 (go L x1 x2 x3 x4 r0 t0 z)) (hz : fr (fun g => pr0 + 2 ≤ g ∧ g ≤ pr0 + 4) z0 z) (e_r0 : r0 = pr0) : Fo id (fun g => pr0 + 2 ≤ g ∧ g ≤ pr0 + 4) z0 (cm_X5_conjugateBy_0 vl K go x1 x2 x3 x4 r0 t0 z) := by
  unfold cm_X5_conjugateBy_0
  exact (fo_rdF (fun v1 => (fo_cs1 ff_X5_invert (fun g hg => hg.elim) hz (fun v3 z2 h_z2 => (hgo 1 _ _ _ _ _ _ z2 h_z2 (fun _ => by omega))))))
theorem fb_X5_conjugateBy_1 {K : Nat} {vl : Nat → Nat} {z0 z : ow_MS} {pr0 : Nat} {go : Nat → Int32 → Int32 → Int32 → Int32 → Nat → Int32 → ow_MS → Option ow_MS} {x1 : Int32} {x2 : Int32} {x3 : Int32} {x4 : Int32} {r0 : Nat} {t0 : Int32} (hgo : ∀ (L : Nat) (x1 : Int32) (x2 : Int32) (x3 : Int32) (x4 : Int32) (r0 : Nat) (t0 : Int32) (z : ow_MS), fr (fun g => pr0 + 2 ≤ g ∧ g ≤ pr0 + 4) z0 z → (L = 0 ∨ L = 1 ∨ L = 2 → r0 = pr0) → Fo id (fun g => pr0 + 2 ≤ g ∧ g ≤ pr0 + 4) z0 (go L x1 x2 x3 x4 r0 t0 z)) (hz : fr (fun g => pr0 + 2 ≤ g ∧ g ≤ pr0 + 4) z0 z) (e_r0 : r0 = pr0) : Fo id (fun g => pr0 + 2 ≤ g ∧ g ≤ pr0 + 4) z0 (cm_X5_conjugateBy_1 vl K go x1 x2 x3 x4 r0 t0 z) := by
  unfold cm_X5_conjugateBy_1
  exact (fo_rdF (fun v4 => (fo_if (fo_rdF (fun v5 => (fo_if (hgo 2 _ _ _ _ _ _ z hz (fun _ => by omega)) (fo_rdF (fun v6 => (fo_cs1 ff_X5_turned (fun g hg => hg.elim) hz (fun v8 z7 h_z7 => (hgo 2 _ _ _ _ _ _ z7 h_z7 (fun _ => by omega))))))))) (fo_rdF (fun v9 => (fo_cs1 ff_X5_image (fun g hg => hg.elim) hz (fun v11 z10 h_z10 => (hgo 1 _ _ _ _ _ _ z10 h_z10 (fun _ => by omega)))))))))
theorem fb_X5_conjugateBy_2 {K : Nat} {vl : Nat → Nat} {z0 z : ow_MS} {pr0 : Nat} {go : Nat → Int32 → Int32 → Int32 → Int32 → Nat → Int32 → ow_MS → Option ow_MS} {x1 : Int32} {x2 : Int32} {x3 : Int32} {x4 : Int32} {r0 : Nat} {t0 : Int32} (hgo : ∀ (L : Nat) (x1 : Int32) (x2 : Int32) (x3 : Int32) (x4 : Int32) (r0 : Nat) (t0 : Int32) (z : ow_MS), fr (fun g => pr0 + 2 ≤ g ∧ g ≤ pr0 + 4) z0 z → (L = 0 ∨ L = 1 ∨ L = 2 → r0 = pr0) → Fo id (fun g => pr0 + 2 ≤ g ∧ g ≤ pr0 + 4) z0 (go L x1 x2 x3 x4 r0 t0 z)) (hz : fr (fun g => pr0 + 2 ≤ g ∧ g ≤ pr0 + 4) z0 z) (e_r0 : r0 = pr0) : Fo id (fun g => pr0 + 2 ≤ g ∧ g ≤ pr0 + 4) z0 (cm_X5_conjugateBy_2 vl K go x1 x2 x3 x4 r0 t0 z) := by
  unfold cm_X5_conjugateBy_2
  exact (fo_rdF (fun v12 => (fo_wrF (by omega) hz (fun z13 h_z13 => (fo_cs0 ff_X5_putBefore (fun g hg => by omega) h_z13 (fun z14 h_z14 => (fo_cs0 ff_X5_putBehind (fun g hg => by omega) h_z14 (fun z15 h_z15 => (fo_some h_z15)))))))))
theorem fq_X5_conjugateBy {K : Nat} {vl : Nat → Nat} {z0 : ow_MS} {pr0 : Nat} : ∀ (k L : Nat) (x1 : Int32) (x2 : Int32) (x3 : Int32) (x4 : Int32) (r0 : Nat) (t0 : Int32) (z : ow_MS), fr (fun g => pr0 + 2 ≤ g ∧ g ≤ pr0 + 4) z0 z → (L = 0 ∨ L = 1 ∨ L = 2 → r0 = pr0) → Fo id (fun g => pr0 + 2 ≤ g ∧ g ≤ pr0 + 4) z0 (c_X5_conjugateBy vl K k L x1 x2 x3 x4 r0 t0 z)
  | 0 => by
    intros
    exact fo_none
  | k + 1 => by
    intro L x1 x2 x3 x4 r0 t0 z hz h9_r0
    show Fo id (fun g => pr0 + 2 ≤ g ∧ g ≤ pr0 + 4) z0 (cb_X5_conjugateBy vl K (c_X5_conjugateBy vl K k) L x1 x2 x3 x4 r0 t0 z)
    unfold cb_X5_conjugateBy
    split
    · exact fb_X5_conjugateBy_0 (fq_X5_conjugateBy k) hz (h9_r0 (by decide))
    · exact fb_X5_conjugateBy_1 (fq_X5_conjugateBy k) hz (h9_r0 (by decide))
    · exact fb_X5_conjugateBy_2 (fq_X5_conjugateBy k) hz (h9_r0 (by decide))
    · exact fo_none
theorem ff_X5_conjugateBy {vl : Nat → Nat} {K : Nat} {r0 : Nat} {x1 : Int32} {z : ow_MS} : Fo id (fun g => r0 + 2 ≤ g ∧ g ≤ r0 + 4) z (ce_X5_conjugateBy vl K r0 x1 z) := fq_X5_conjugateBy (pr0 := r0) K 0 _ _ _ _ _ _ z fr_rf (fun _ => rfl)
theorem fb_X10_gather_0 {K : Nat} {vl : Nat → Nat} {z0 z : ow_MS} {pr0 : Nat} {go : Nat → Int32 → Int32 → Int32 → Nat → ow_MS → Option (Int32 × ow_MS)} {x1 : Int32} {x2 : Int32} {x3 : Int32} {r0 : Nat} (hgo : ∀ (L : Nat) (x1 : Int32) (x2 : Int32) (x3 : Int32) (r0 : Nat) (z : ow_MS), fr (fun g => pr0 + 4 ≤ g ∧ g ≤ pr0 + 10 ∨ pr0 + 1002 ≤ g ∧ g ≤ pr0 + 1004) z0 z → (L = 0 ∨ L = 1 ∨ L = 2 ∨ L = 3 ∨ L = 4 ∨ L = 5 → r0 = pr0) → Fo Prod.snd (fun g => pr0 + 4 ≤ g ∧ g ≤ pr0 + 10 ∨ pr0 + 1002 ≤ g ∧ g ≤ pr0 + 1004) z0 (go L x1 x2 x3 r0 z)) (hz : fr (fun g => pr0 + 4 ≤ g ∧ g ≤ pr0 + 10 ∨ pr0 + 1002 ≤ g ∧ g ≤ pr0 + 1004) z0 z) (e_r0 : r0 = pr0) : Fo Prod.snd (fun g => pr0 + 4 ≤ g ∧ g ≤ pr0 + 10 ∨ pr0 + 1002 ≤ g ∧ g ≤ pr0 + 1004) z0 (cm_X10_gather_0 vl K go x1 x2 x3 r0 z) := by
  unfold cm_X10_gather_0
  exact (hgo 1 _ _ _ _ z hz (fun _ => by omega))
theorem fb_X10_gather_1 {K : Nat} {vl : Nat → Nat} {z0 z : ow_MS} {pr0 : Nat} {go : Nat → Int32 → Int32 → Int32 → Nat → ow_MS → Option (Int32 × ow_MS)} {x1 : Int32} {x2 : Int32} {x3 : Int32} {r0 : Nat} (hgo : ∀ (L : Nat) (x1 : Int32) (x2 : Int32) (x3 : Int32) (r0 : Nat) (z : ow_MS), fr (fun g => pr0 + 4 ≤ g ∧ g ≤ pr0 + 10 ∨ pr0 + 1002 ≤ g ∧ g ≤ pr0 + 1004) z0 z → (L = 0 ∨ L = 1 ∨ L = 2 ∨ L = 3 ∨ L = 4 ∨ L = 5 → r0 = pr0) → Fo Prod.snd (fun g => pr0 + 4 ≤ g ∧ g ≤ pr0 + 10 ∨ pr0 + 1002 ≤ g ∧ g ≤ pr0 + 1004) z0 (go L x1 x2 x3 r0 z)) (hz : fr (fun g => pr0 + 4 ≤ g ∧ g ≤ pr0 + 10 ∨ pr0 + 1002 ≤ g ∧ g ≤ pr0 + 1004) z0 z) (e_r0 : r0 = pr0) : Fo Prod.snd (fun g => pr0 + 4 ≤ g ∧ g ≤ pr0 + 10 ∨ pr0 + 1002 ≤ g ∧ g ≤ pr0 + 1004) z0 (cm_X10_gather_1 vl K go x1 x2 x3 r0 z) := by
  unfold cm_X10_gather_1
  exact (fo_rdF (fun v1 => (fo_if (fo_okZ (fo_some hz)) (fo_rdF (fun v2 => (fo_if (fo_okZ (fo_some hz)) (hgo 2 _ _ _ _ z hz (fun _ => by omega))))))))
theorem fb_X10_gather_2 {K : Nat} {vl : Nat → Nat} {z0 z : ow_MS} {pr0 : Nat} {go : Nat → Int32 → Int32 → Int32 → Nat → ow_MS → Option (Int32 × ow_MS)} {x1 : Int32} {x2 : Int32} {x3 : Int32} {r0 : Nat} (hgo : ∀ (L : Nat) (x1 : Int32) (x2 : Int32) (x3 : Int32) (r0 : Nat) (z : ow_MS), fr (fun g => pr0 + 4 ≤ g ∧ g ≤ pr0 + 10 ∨ pr0 + 1002 ≤ g ∧ g ≤ pr0 + 1004) z0 z → (L = 0 ∨ L = 1 ∨ L = 2 ∨ L = 3 ∨ L = 4 ∨ L = 5 → r0 = pr0) → Fo Prod.snd (fun g => pr0 + 4 ≤ g ∧ g ≤ pr0 + 10 ∨ pr0 + 1002 ≤ g ∧ g ≤ pr0 + 1004) z0 (go L x1 x2 x3 r0 z)) (hz : fr (fun g => pr0 + 4 ≤ g ∧ g ≤ pr0 + 10 ∨ pr0 + 1002 ≤ g ∧ g ≤ pr0 + 1004) z0 z) (e_r0 : r0 = pr0) : Fo Prod.snd (fun g => pr0 + 4 ≤ g ∧ g ≤ pr0 + 10 ∨ pr0 + 1002 ≤ g ∧ g ≤ pr0 + 1004) z0 (cm_X10_gather_2 vl K go x1 x2 x3 r0 z) := by
  unfold cm_X10_gather_2
  exact (fo_rdF (fun v3 => (fo_if (hgo 5 _ _ _ _ z hz (fun _ => by omega)) (fo_rdF (fun v4 => (fo_if (hgo 5 _ _ _ _ z hz (fun _ => by omega)) (fo_cs1 ff_X10_goesOn (fun g hg => hg.elim) hz (fun v6 z5 h_z5 => (fo_if (fo_rdF (fun v7 => (fo_wrF (by omega) h_z5 (fun z8 h_z8 => (fo_rdF (fun v9 => (fo_wrF (by omega) h_z8 (fun z10 h_z10 => (fo_rdF (fun v11 => (fc_cpI (by omega) h_z10 (fun z12 h_z12 => (fc_crI (fun v13 => (fo_cs0 ff_X5_conjugateBy (fun g hg => by omega) h_z12 (fun z14 h_z14 => (fo_rdF (fun v15 => (fo_rdF (fun v16 => (fo_if (fo_okZ (fo_some h_z14)) (fo_rdF (fun v17 => (fo_rdF (fun v18 => (fo_if (fo_rdF (fun v19 => (fo_rdF (fun v20 => (fo_if (hgo 3 _ _ _ _ z14 h_z14 (fun _ => by omega)) (fo_okZ (fo_some h_z14))))))) (hgo 3 _ _ _ _ z14 h_z14 (fun _ => by omega)))))))))))))))))))))))))))) (hgo 4 _ _ _ _ z5 h_z5 (fun _ => by omega)))))))))))
theorem fb_X10_gather_3 {K : Nat} {vl : Nat → Nat} {z0 z : ow_MS} {pr0 : Nat} {go : Nat → Int32 → Int32 → Int32 → Nat → ow_MS → Option (Int32 × ow_MS)} {x1 : Int32} {x2 : Int32} {x3 : Int32} {r0 : Nat} (hgo : ∀ (L : Nat) (x1 : Int32) (x2 : Int32) (x3 : Int32) (r0 : Nat) (z : ow_MS), fr (fun g => pr0 + 4 ≤ g ∧ g ≤ pr0 + 10 ∨ pr0 + 1002 ≤ g ∧ g ≤ pr0 + 1004) z0 z → (L = 0 ∨ L = 1 ∨ L = 2 ∨ L = 3 ∨ L = 4 ∨ L = 5 → r0 = pr0) → Fo Prod.snd (fun g => pr0 + 4 ≤ g ∧ g ≤ pr0 + 10 ∨ pr0 + 1002 ≤ g ∧ g ≤ pr0 + 1004) z0 (go L x1 x2 x3 r0 z)) (hz : fr (fun g => pr0 + 4 ≤ g ∧ g ≤ pr0 + 10 ∨ pr0 + 1002 ≤ g ∧ g ≤ pr0 + 1004) z0 z) (e_r0 : r0 = pr0) : Fo Prod.snd (fun g => pr0 + 4 ≤ g ∧ g ≤ pr0 + 10 ∨ pr0 + 1002 ≤ g ∧ g ≤ pr0 + 1004) z0 (cm_X10_gather_3 vl K go x1 x2 x3 r0 z) := by
  unfold cm_X10_gather_3
  exact (fo_rdF (fun v21 => (fo_rdF (fun v22 => (fo_if (fo_rdF (fun v23 => (fo_rdF (fun v24 => (fo_if (fo_cs0 ff_X10_add (fun g hg => by omega) hz (fun z25 h_z25 => (fc_crI (fun v26 => (fc_ctI (by omega) h_z25 (fun z27 h_z27 => (hgo 4 _ _ _ _ z27 h_z27 (fun _ => by omega)))))))) (hgo 4 _ _ _ _ z hz (fun _ => by omega))))))) (hgo 4 _ _ _ _ z hz (fun _ => by omega)))))))
theorem fb_X10_gather_4 {K : Nat} {vl : Nat → Nat} {z0 z : ow_MS} {pr0 : Nat} {go : Nat → Int32 → Int32 → Int32 → Nat → ow_MS → Option (Int32 × ow_MS)} {x1 : Int32} {x2 : Int32} {x3 : Int32} {r0 : Nat} (hgo : ∀ (L : Nat) (x1 : Int32) (x2 : Int32) (x3 : Int32) (r0 : Nat) (z : ow_MS), fr (fun g => pr0 + 4 ≤ g ∧ g ≤ pr0 + 10 ∨ pr0 + 1002 ≤ g ∧ g ≤ pr0 + 1004) z0 z → (L = 0 ∨ L = 1 ∨ L = 2 ∨ L = 3 ∨ L = 4 ∨ L = 5 → r0 = pr0) → Fo Prod.snd (fun g => pr0 + 4 ≤ g ∧ g ≤ pr0 + 10 ∨ pr0 + 1002 ≤ g ∧ g ≤ pr0 + 1004) z0 (go L x1 x2 x3 r0 z)) (hz : fr (fun g => pr0 + 4 ≤ g ∧ g ≤ pr0 + 10 ∨ pr0 + 1002 ≤ g ∧ g ≤ pr0 + 1004) z0 z) (e_r0 : r0 = pr0) : Fo Prod.snd (fun g => pr0 + 4 ≤ g ∧ g ≤ pr0 + 10 ∨ pr0 + 1002 ≤ g ∧ g ≤ pr0 + 1004) z0 (cm_X10_gather_4 vl K go x1 x2 x3 r0 z) := by
  unfold cm_X10_gather_4
  exact (hgo 2 _ _ _ _ z hz (fun _ => by omega))
theorem fb_X10_gather_5 {K : Nat} {vl : Nat → Nat} {z0 z : ow_MS} {pr0 : Nat} {go : Nat → Int32 → Int32 → Int32 → Nat → ow_MS → Option (Int32 × ow_MS)} {x1 : Int32} {x2 : Int32} {x3 : Int32} {r0 : Nat} (hgo : ∀ (L : Nat) (x1 : Int32) (x2 : Int32) (x3 : Int32) (r0 : Nat) (z : ow_MS), fr (fun g => pr0 + 4 ≤ g ∧ g ≤ pr0 + 10 ∨ pr0 + 1002 ≤ g ∧ g ≤ pr0 + 1004) z0 z → (L = 0 ∨ L = 1 ∨ L = 2 ∨ L = 3 ∨ L = 4 ∨ L = 5 → r0 = pr0) → Fo Prod.snd (fun g => pr0 + 4 ≤ g ∧ g ≤ pr0 + 10 ∨ pr0 + 1002 ≤ g ∧ g ≤ pr0 + 1004) z0 (go L x1 x2 x3 r0 z)) (hz : fr (fun g => pr0 + 4 ≤ g ∧ g ≤ pr0 + 10 ∨ pr0 + 1002 ≤ g ∧ g ≤ pr0 + 1004) z0 z) (e_r0 : r0 = pr0) : Fo Prod.snd (fun g => pr0 + 4 ≤ g ∧ g ≤ pr0 + 10 ∨ pr0 + 1002 ≤ g ∧ g ≤ pr0 + 1004) z0 (cm_X10_gather_5 vl K go x1 x2 x3 r0 z) := by
  unfold cm_X10_gather_5
  exact (hgo 1 _ _ _ _ z hz (fun _ => by omega))
theorem fq_X10_gather {K : Nat} {vl : Nat → Nat} {z0 : ow_MS} {pr0 : Nat} : ∀ (k L : Nat) (x1 : Int32) (x2 : Int32) (x3 : Int32) (r0 : Nat) (z : ow_MS), fr (fun g => pr0 + 4 ≤ g ∧ g ≤ pr0 + 10 ∨ pr0 + 1002 ≤ g ∧ g ≤ pr0 + 1004) z0 z → (L = 0 ∨ L = 1 ∨ L = 2 ∨ L = 3 ∨ L = 4 ∨ L = 5 → r0 = pr0) → Fo Prod.snd (fun g => pr0 + 4 ≤ g ∧ g ≤ pr0 + 10 ∨ pr0 + 1002 ≤ g ∧ g ≤ pr0 + 1004) z0 (c_X10_gather vl K k L x1 x2 x3 r0 z)
  | 0 => by
    intros
    exact fo_none
  | k + 1 => by
    intro L x1 x2 x3 r0 z hz h9_r0
    show Fo Prod.snd (fun g => pr0 + 4 ≤ g ∧ g ≤ pr0 + 10 ∨ pr0 + 1002 ≤ g ∧ g ≤ pr0 + 1004) z0 (cb_X10_gather vl K (c_X10_gather vl K k) L x1 x2 x3 r0 z)
    unfold cb_X10_gather
    split
    · exact fb_X10_gather_0 (fq_X10_gather k) hz (h9_r0 (by decide))
    · exact fb_X10_gather_1 (fq_X10_gather k) hz (h9_r0 (by decide))
    · exact fb_X10_gather_2 (fq_X10_gather k) hz (h9_r0 (by decide))
    · exact fb_X10_gather_3 (fq_X10_gather k) hz (h9_r0 (by decide))
    · exact fb_X10_gather_4 (fq_X10_gather k) hz (h9_r0 (by decide))
    · exact fb_X10_gather_5 (fq_X10_gather k) hz (h9_r0 (by decide))
    · exact fo_none
theorem ff_X10_gather {vl : Nat → Nat} {K : Nat} {r0 : Nat} {z : ow_MS} : Fo Prod.snd (fun g => r0 + 4 ≤ g ∧ g ≤ r0 + 10 ∨ r0 + 1002 ≤ g ∧ g ≤ r0 + 1004) z (ce_X10_gather vl K r0 z) := fq_X10_gather (pr0 := r0) K 0 _ _ _ _ z fr_rf (fun _ => rfl)
theorem fb_X10_find_0 {K : Nat} {vl : Nat → Nat} {z0 z : ow_MS} {pr0 : Nat} {pr1 : Nat} {go : Nat → Int32 → Nat → Nat → ow_MS → Option (Int32 × ow_MS)} {x2 : Int32} {r0 : Nat} {r1 : Nat} (hgo : ∀ (L : Nat) (x2 : Int32) (r0 : Nat) (r1 : Nat) (z : ow_MS), fr (fun g => pr0 + 1 ≤ g ∧ g ≤ pr0 + 11 ∨ pr0 + 1001 ≤ g ∧ g ≤ pr0 + 1006) z0 z → (L = 0 ∨ L = 1 → r0 = pr0) → (L = 0 ∨ L = 1 → r1 = pr1) → Fo Prod.snd (fun g => pr0 + 1 ≤ g ∧ g ≤ pr0 + 11 ∨ pr0 + 1001 ≤ g ∧ g ≤ pr0 + 1006) z0 (go L x2 r0 r1 z)) (hz : fr (fun g => pr0 + 1 ≤ g ∧ g ≤ pr0 + 11 ∨ pr0 + 1001 ≤ g ∧ g ≤ pr0 + 1006) z0 z) (e_r0 : r0 = pr0) (e_r1 : r1 = pr1) : Fo Prod.snd (fun g => pr0 + 1 ≤ g ∧ g ≤ pr0 + 11 ∨ pr0 + 1001 ≤ g ∧ g ≤ pr0 + 1006) z0 (cm_X10_find_0 vl K go x2 r0 r1 z) := by
  unfold cm_X10_find_0
  exact (fo_rdF (fun v1 => (fo_wrF (by omega) hz (fun z2 h_z2 => (fo_cs0 ff_X5_copy (fun g hg => by omega) h_z2 (fun z3 h_z3 => (fo_cs0 ff_X10_listSimples (fun g hg => by omega) h_z3 (fun z4 h_z4 => (hgo 1 _ _ _ z4 h_z4 (fun _ => by omega) (fun _ => by omega))))))))))
theorem fb_X10_find_1 {K : Nat} {vl : Nat → Nat} {z0 z : ow_MS} {pr0 : Nat} {pr1 : Nat} {go : Nat → Int32 → Nat → Nat → ow_MS → Option (Int32 × ow_MS)} {x2 : Int32} {r0 : Nat} {r1 : Nat} (hgo : ∀ (L : Nat) (x2 : Int32) (r0 : Nat) (r1 : Nat) (z : ow_MS), fr (fun g => pr0 + 1 ≤ g ∧ g ≤ pr0 + 11 ∨ pr0 + 1001 ≤ g ∧ g ≤ pr0 + 1006) z0 z → (L = 0 ∨ L = 1 → r0 = pr0) → (L = 0 ∨ L = 1 → r1 = pr1) → Fo Prod.snd (fun g => pr0 + 1 ≤ g ∧ g ≤ pr0 + 11 ∨ pr0 + 1001 ≤ g ∧ g ≤ pr0 + 1006) z0 (go L x2 r0 r1 z)) (hz : fr (fun g => pr0 + 1 ≤ g ∧ g ≤ pr0 + 11 ∨ pr0 + 1001 ≤ g ∧ g ≤ pr0 + 1006) z0 z) (e_r0 : r0 = pr0) (e_r1 : r1 = pr1) : Fo Prod.snd (fun g => pr0 + 1 ≤ g ∧ g ≤ pr0 + 11 ∨ pr0 + 1001 ≤ g ∧ g ≤ pr0 + 1006) z0 (cm_X10_find_1 vl K go x2 r0 r1 z) := by
  unfold cm_X10_find_1
  exact (fo_if (fo_some hz) (fo_cs0 ff_X10_climb (fun g hg => by omega) hz (fun z5 h_z5 => (fo_cs0 ff_X10_begin (fun g hg => by omega) h_z5 (fun z6 h_z6 => (fo_cs1 ff_X10_gather (fun g hg => by omega) h_z6 (fun v8 z7 h_z7 => (fo_if (hgo 1 _ _ _ z7 h_z7 (fun _ => by omega) (fun _ => by omega)) (fo_rdF (fun v9 => (fo_if (fo_rdF (fun v10 => (fo_some h_z7))) (fo_some h_z7))))))))))))
theorem fq_X10_find {K : Nat} {vl : Nat → Nat} {z0 : ow_MS} {pr0 : Nat} {pr1 : Nat} : ∀ (k L : Nat) (x2 : Int32) (r0 : Nat) (r1 : Nat) (z : ow_MS), fr (fun g => pr0 + 1 ≤ g ∧ g ≤ pr0 + 11 ∨ pr0 + 1001 ≤ g ∧ g ≤ pr0 + 1006) z0 z → (L = 0 ∨ L = 1 → r0 = pr0) → (L = 0 ∨ L = 1 → r1 = pr1) → Fo Prod.snd (fun g => pr0 + 1 ≤ g ∧ g ≤ pr0 + 11 ∨ pr0 + 1001 ≤ g ∧ g ≤ pr0 + 1006) z0 (c_X10_find vl K k L x2 r0 r1 z)
  | 0 => by
    intros
    exact fo_none
  | k + 1 => by
    intro L x2 r0 r1 z hz h9_r0 h9_r1
    show Fo Prod.snd (fun g => pr0 + 1 ≤ g ∧ g ≤ pr0 + 11 ∨ pr0 + 1001 ≤ g ∧ g ≤ pr0 + 1006) z0 (cb_X10_find vl K (c_X10_find vl K k) L x2 r0 r1 z)
    unfold cb_X10_find
    split
    · exact fb_X10_find_0 (fq_X10_find k) hz (h9_r0 (by decide)) (h9_r1 (by decide))
    · exact fb_X10_find_1 (fq_X10_find k) hz (h9_r0 (by decide)) (h9_r1 (by decide))
    · exact fo_none
theorem ff_X10_find {vl : Nat → Nat} {K : Nat} {r0 : Nat} {r1 : Nat} {z : ow_MS} : Fo Prod.snd (fun g => r0 + 1 ≤ g ∧ g ≤ r0 + 11 ∨ r0 + 1001 ≤ g ∧ g ≤ r0 + 1006) z (ce_X10_find vl K r0 r1 z) := fq_X10_find (pr0 := r0) (pr1 := r1) K 0 _ _ _ z fr_rf (fun _ => rfl) (fun _ => rfl)
theorem ff_X11_summit {vl : Nat → Nat} {K : Nat} {r0 : Nat} {x1 : Int32} {z : ow_MS} : Fo (fun r => r.2.2) (fun g => r0 + 46001 ≤ g ∧ g ≤ r0 + 46006 ∨ r0 + 48001 ≤ g ∧ g ≤ r0 + 48011 ∨ r0 + 49001 ≤ g ∧ g ≤ r0 + 49006) z (ce_X11_summit vl K r0 x1 z) := by
  unfold ce_X11_summit cm_X11_summit_0
  exact (fc_tc0 ff_X11_needBraid (fun g hg => hg.elim) fr_rf (fun k z h_e => (fo_some h_e)) (fun z1 h_z1 => (fc_tc0 ff_X11_needFewStrands (fun g hg => hg.elim) h_z1 (fun k z h_e => (fo_some h_e)) (fun z3 h_z3 => (fo_cs0 ff_X11_write (fun g hg => by omega) h_z3 (fun z5 h_z5 => (fo_cs1 ff_X10_find (fun g hg => by omega) h_z5 (fun v7 z6 h_z6 => (fo_some h_z6)))))))))
theorem fb_X10_sameAs_0 {K : Nat} {vl : Nat → Nat} {z0 z : ow_MS} {pr0 : Nat} {pr1 : Nat} {go : Nat → Int32 → Nat → Nat → ow_MS → Option (Int32 × ow_MS)} {x2 : Int32} {r0 : Nat} {r1 : Nat} (hgo : ∀ (L : Nat) (x2 : Int32) (r0 : Nat) (r1 : Nat) (z : ow_MS), fr (fun _ => False) z0 z → (L = 0 ∨ L = 1 → r0 = pr0) → (L = 0 ∨ L = 1 → r1 = pr1) → Fo Prod.snd (fun _ => False) z0 (go L x2 r0 r1 z)) (hz : fr (fun _ => False) z0 z) (e_r0 : r0 = pr0) (e_r1 : r1 = pr1) : Fo Prod.snd (fun _ => False) z0 (cm_X10_sameAs_0 vl K go x2 r0 r1 z) := by
  unfold cm_X10_sameAs_0
  exact (fo_rdF (fun v1 => (fo_rdF (fun v2 => (fo_if (fo_rdF (fun v3 => (fo_rdF (fun v4 => (fo_if (fo_rdF (fun v5 => (fo_rdF (fun v6 => (fo_if (fo_rdF (fun v7 => (fo_rdF (fun v8 => (fo_if (hgo 1 _ _ _ z hz (fun _ => by omega) (fun _ => by omega)) (fo_okZ (fo_some hz))))))) (fo_okZ (fo_some hz))))))) (fo_okZ (fo_some hz))))))) (fo_okZ (fo_some hz)))))))
theorem fb_X10_sameAs_1 {K : Nat} {vl : Nat → Nat} {z0 z : ow_MS} {pr0 : Nat} {pr1 : Nat} {go : Nat → Int32 → Nat → Nat → ow_MS → Option (Int32 × ow_MS)} {x2 : Int32} {r0 : Nat} {r1 : Nat} (hgo : ∀ (L : Nat) (x2 : Int32) (r0 : Nat) (r1 : Nat) (z : ow_MS), fr (fun _ => False) z0 z → (L = 0 ∨ L = 1 → r0 = pr0) → (L = 0 ∨ L = 1 → r1 = pr1) → Fo Prod.snd (fun _ => False) z0 (go L x2 r0 r1 z)) (hz : fr (fun _ => False) z0 z) (e_r0 : r0 = pr0) (e_r1 : r1 = pr1) : Fo Prod.snd (fun _ => False) z0 (cm_X10_sameAs_1 vl K go x2 r0 r1 z) := by
  unfold cm_X10_sameAs_1
  exact (fo_rdF (fun v9 => (fo_if (fo_okZ (fo_some hz)) (fc_crI (fun v10 => (fc_crI (fun v11 => (fo_cs1 ff_X10_compare (fun g hg => hg.elim) hz (fun v13 z12 h_z12 => (fo_if (hgo 1 _ _ _ z12 h_z12 (fun _ => by omega) (fun _ => by omega)) (fo_okZ (fo_some h_z12))))))))))))
theorem fq_X10_sameAs {K : Nat} {vl : Nat → Nat} {z0 : ow_MS} {pr0 : Nat} {pr1 : Nat} : ∀ (k L : Nat) (x2 : Int32) (r0 : Nat) (r1 : Nat) (z : ow_MS), fr (fun _ => False) z0 z → (L = 0 ∨ L = 1 → r0 = pr0) → (L = 0 ∨ L = 1 → r1 = pr1) → Fo Prod.snd (fun _ => False) z0 (c_X10_sameAs vl K k L x2 r0 r1 z)
  | 0 => by
    intros
    exact fo_none
  | k + 1 => by
    intro L x2 r0 r1 z hz h9_r0 h9_r1
    show Fo Prod.snd (fun _ => False) z0 (cb_X10_sameAs vl K (c_X10_sameAs vl K k) L x2 r0 r1 z)
    unfold cb_X10_sameAs
    split
    · exact fb_X10_sameAs_0 (fq_X10_sameAs k) hz (h9_r0 (by decide)) (h9_r1 (by decide))
    · exact fb_X10_sameAs_1 (fq_X10_sameAs k) hz (h9_r0 (by decide)) (h9_r1 (by decide))
    · exact fo_none
theorem ff_X10_sameAs {vl : Nat → Nat} {K : Nat} {r0 : Nat} {r1 : Nat} {z : ow_MS} : Fo Prod.snd (fun _ => False) z (ce_X10_sameAs vl K r0 r1 z) := fq_X10_sameAs (pr0 := r0) (pr1 := r1) K 0 _ _ _ z fr_rf (fun _ => rfl) (fun _ => rfl)
theorem ff_X11_conjugate {vl : Nat → Nat} {K : Nat} {r0 : Nat} {x1 : Int32} {x2 : Int32} {z : ow_MS} : Fo (fun r => r.2.2) (fun g => r0 + 46001 ≤ g ∧ g ≤ r0 + 46006 ∨ r0 + 48001 ≤ g ∧ g ≤ r0 + 48011 ∨ r0 + 49001 ≤ g ∧ g ≤ r0 + 49006 ∨ r0 + 50001 ≤ g ∧ g ≤ r0 + 50011 ∨ r0 + 51001 ≤ g ∧ g ≤ r0 + 51006) z (ce_X11_conjugate vl K r0 x1 x2 z) := by
  unfold ce_X11_conjugate cm_X11_conjugate_0
  exact (fc_tc0 ff_X11_needBraid (fun g hg => hg.elim) fr_rf (fun k z h_e => (fo_some h_e)) (fun z1 h_z1 => (fc_tc0 ff_X11_needBraid (fun g hg => hg.elim) h_z1 (fun k z h_e => (fo_some h_e)) (fun z3 h_z3 => (fc_crI (fun v5 => (fc_crI (fun v6 => (fo_if (fc_tc0 ff_X11_needFewStrands (fun g hg => hg.elim) h_z3 (fun k z h_e => (fo_some h_e)) (fun z7 h_z7 => (fo_cs0 ff_X11_write (fun g hg => by omega) h_z7 (fun z9 h_z9 => (fo_cs1 ff_X10_find (fun g hg => by omega) h_z9 (fun v11 z10 h_z10 => (fo_cs0 ff_X11_write (fun g hg => by omega) h_z10 (fun z12 h_z12 => (fo_cs1 ff_X10_find (fun g hg => by omega) h_z12 (fun v14 z13 h_z13 => (fo_if (fo_some h_z13) (fo_if (fo_some h_z13) (fo_cs1 ff_X10_sameAs (fun g hg => hg.elim) h_z13 (fun v16 z15 h_z15 => (fo_if (fo_some h_z15) (fo_some h_z15)))))))))))))))) (fo_some h_z3))))))))))
