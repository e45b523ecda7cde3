/-! frames of the class, on -/
theorem fb_X7_load_0 {K : Nat} {vl : Nat → Nat} {z0 z : ow_MS} {pr0 : Nat} {pr1 : Nat} {go : Nat → Int32 → Int32 → Int32 → Int32 → Int32 → Int32 → Int32 → Int32 → Int32 → Int32 → Int32 → Int32 → Nat → Nat → Int32 → Int32 → ow_MS → Option ow_MS} {x2 : Int32} {x3 : Int32} {x4 : Int32} {x5 : Int32} {x6 : Int32} {x7 : Int32} {x8 : Int32} {x9 : Int32} {x10 : Int32} {x11 : Int32} {x12 : Int32} {x13 : Int32} {r0 : Nat} {r1 : Nat} {t0 : Int32} {t1 : Int32} (hgo : ∀ (L : Nat) (x2 : Int32) (x3 : Int32) (x4 : Int32) (x5 : Int32) (x6 : Int32) (x7 : Int32) (x8 : Int32) (x9 : Int32) (x10 : Int32) (x11 : Int32) (x12 : Int32) (x13 : Int32) (r0 : Nat) (r1 : Nat) (t0 : Int32) (t1 : Int32) (z : ow_MS), fr (fun g => pr0 + 1 ≤ g ∧ g ≤ pr0 + 10) z0 z → (L = 0 ∨ L = 1 ∨ L = 2 ∨ L = 3 ∨ L = 4 ∨ L = 5 ∨ L = 6 ∨ L = 7 → r0 = pr0) → (L = 0 ∨ L = 1 ∨ L = 2 ∨ L = 3 ∨ L = 4 ∨ L = 5 ∨ L = 6 ∨ L = 7 → r1 = pr1) → Fo id (fun g => pr0 + 1 ≤ g ∧ g ≤ pr0 + 10) z0 (go L x2 x3 x4 x5 x6 x7 x8 x9 x10 x11 x12 x13 r0 r1 t0 t1 z)) (hz : fr (fun g => pr0 + 1 ≤ g ∧ g ≤ pr0 + 10) z0 z) (e_r0 : r0 = pr0) (e_r1 : r1 = pr1) : Fo id (fun g => pr0 + 1 ≤ g ∧ g ≤ pr0 + 10) z0 (cm_X7_load_0 vl K go x2 x3 x4 x5 x6 x7 x8 x9 x10 x11 x12 x13 r0 r1 t0 t1 z) := by
  unfold cm_X7_load_0
  exact (fc_crI (fun v1 => (fo_wrF (by omega) hz (fun z2 h_z2 => (fo_wrF (by omega) h_z2 (fun z3 h_z3 => (fo_wrF (by omega) h_z3 (fun z4 h_z4 => (hgo 1 _ _ _ _ _ _ _ _ _ _ _ _ _ _ _ _ z4 h_z4 (fun _ => by omega) (fun _ => by omega))))))))))
theorem fb_X7_load_1 {K : Nat} {vl : Nat → Nat} {z0 z : ow_MS} {pr0 : Nat} {pr1 : Nat} {go : Nat → Int32 → Int32 → Int32 → Int32 → Int32 → Int32 → Int32 → Int32 → Int32 → Int32 → Int32 → Int32 → Nat → Nat → Int32 → Int32 → ow_MS → Option ow_MS} {x2 : Int32} {x3 : Int32} {x4 : Int32} {x5 : Int32} {x6 : Int32} {x7 : Int32} {x8 : Int32} {x9 : Int32} {x10 : Int32} {x11 : Int32} {x12 : Int32} {x13 : Int32} {r0 : Nat} {r1 : Nat} {t0 : Int32} {t1 : Int32} (hgo : ∀ (L : Nat) (x2 : Int32) (x3 : Int32) (x4 : Int32) (x5 : Int32) (x6 : Int32) (x7 : Int32) (x8 : Int32) (x9 : Int32) (x10 : Int32) (x11 : Int32) (x12 : Int32) (x13 : Int32) (r0 : Nat) (r1 : Nat) (t0 : Int32) (t1 : Int32) (z : ow_MS), fr (fun g => pr0 + 1 ≤ g ∧ g ≤ pr0 + 10) z0 z → (L = 0 ∨ L = 1 ∨ L = 2 ∨ L = 3 ∨ L = 4 ∨ L = 5 ∨ L = 6 ∨ L = 7 → r0 = pr0) → (L = 0 ∨ L = 1 ∨ L = 2 ∨ L = 3 ∨ L = 4 ∨ L = 5 ∨ L = 6 ∨ L = 7 → r1 = pr1) → Fo id (fun g => pr0 + 1 ≤ g ∧ g ≤ pr0 + 10) z0 (go L x2 x3 x4 x5 x6 x7 x8 x9 x10 x11 x12 x13 r0 r1 t0 t1 z)) (hz : fr (fun g => pr0 + 1 ≤ g ∧ g ≤ pr0 + 10) z0 z) (e_r0 : r0 = pr0) (e_r1 : r1 = pr1) : Fo id (fun g => pr0 + 1 ≤ g ∧ g ≤ pr0 + 10) z0 (cm_X7_load_1 vl K go x2 x3 x4 x5 x6 x7 x8 x9 x10 x11 x12 x13 r0 r1 t0 t1 z) := by
  unfold cm_X7_load_1
  exact (fc_crI (fun v5 => (fo_if (fo_some hz) (fc_crI (fun v6 => (fo_if (fo_if (fo_rdF (fun v8 => (fo_wrF (by omega) hz (fun z9 h_z9 => (hgo 2 _ _ _ _ _ _ _ _ _ _ _ _ _ _ _ _ z9 h_z9 (fun _ => by omega) (fun _ => by omega)))))) (fo_cs0 ff_X7_link (fun g hg => by omega) hz (fun z7 h_z7 => (hgo 2 _ _ _ _ _ _ _ _ _ _ _ _ _ _ _ _ z7 h_z7 (fun _ => by omega) (fun _ => by omega))))) (fo_if (hgo 5 _ _ _ _ _ _ _ _ _ _ _ _ _ _ _ _ z hz (fun _ => by omega) (fun _ => by omega)) (fo_if (hgo 4 _ _ _ _ _ _ _ _ _ _ _ _ _ _ _ _ z hz (fun _ => by omega) (fun _ => by omega)) (hgo 4 _ _ _ _ _ _ _ _ _ _ _ _ _ _ _ _ z hz (fun _ => by omega) (fun _ => by omega))))))))))
theorem fb_X7_load_2 {K : Nat} {vl : Nat → Nat} {z0 z : ow_MS} {pr0 : Nat} {pr1 : Nat} {go : Nat → Int32 → Int32 → Int32 → Int32 → Int32 → Int32 → Int32 → Int32 → Int32 → Int32 → Int32 → Int32 → Nat → Nat → Int32 → Int32 → ow_MS → Option ow_MS} {x2 : Int32} {x3 : Int32} {x4 : Int32} {x5 : Int32} {x6 : Int32} {x7 : Int32} {x8 : Int32} {x9 : Int32} {x10 : Int32} {x11 : Int32} {x12 : Int32} {x13 : Int32} {r0 : Nat} {r1 : Nat} {t0 : Int32} {t1 : Int32} (hgo : ∀ (L : Nat) (x2 : Int32) (x3 : Int32) (x4 : Int32) (x5 : Int32) (x6 : Int32) (x7 : Int32) (x8 : Int32) (x9 : Int32) (x10 : Int32) (x11 : Int32) (x12 : Int32) (x13 : Int32) (r0 : Nat) (r1 : Nat) (t0 : Int32) (t1 : Int32) (z : ow_MS), fr (fun g => pr0 + 1 ≤ g ∧ g ≤ pr0 + 10) z0 z → (L = 0 ∨ L = 1 ∨ L = 2 ∨ L = 3 ∨ L = 4 ∨ L = 5 ∨ L = 6 ∨ L = 7 → r0 = pr0) → (L = 0 ∨ L = 1 ∨ L = 2 ∨ L = 3 ∨ L = 4 ∨ L = 5 ∨ L = 6 ∨ L = 7 → r1 = pr1) → Fo id (fun g => pr0 + 1 ≤ g ∧ g ≤ pr0 + 10) z0 (go L x2 x3 x4 x5 x6 x7 x8 x9 x10 x11 x12 x13 r0 r1 t0 t1 z)) (hz : fr (fun g => pr0 + 1 ≤ g ∧ g ≤ pr0 + 10) z0 z) (e_r0 : r0 = pr0) (e_r1 : r1 = pr1) : Fo id (fun g => pr0 + 1 ≤ g ∧ g ≤ pr0 + 10) z0 (cm_X7_load_2 vl K go x2 x3 x4 x5 x6 x7 x8 x9 x10 x11 x12 x13 r0 r1 t0 t1 z) := by
  unfold cm_X7_load_2
  exact (fo_rdF (fun v10 => (fo_wrF (by omega) hz (fun z11 h_z11 => (fo_if (hgo 3 _ _ _ _ _ _ _ _ _ _ _ _ _ _ _ _ z11 h_z11 (fun _ => by omega) (fun _ => by omega)) (hgo 3 _ _ _ _ _ _ _ _ _ _ _ _ _ _ _ _ z11 h_z11 (fun _ => by omega) (fun _ => by omega)))))))
theorem fb_X7_load_3 {K : Nat} {vl : Nat → Nat} {z0 z : ow_MS} {pr0 : Nat} {pr1 : Nat} {go : Nat → Int32 → Int32 → Int32 → Int32 → Int32 → Int32 → Int32 → Int32 → Int32 → Int32 → Int32 → Int32 → Nat → Nat → Int32 → Int32 → ow_MS → Option ow_MS} {x2 : Int32} {x3 : Int32} {x4 : Int32} {x5 : Int32} {x6 : Int32} {x7 : Int32} {x8 : Int32} {x9 : Int32} {x10 : Int32} {x11 : Int32} {x12 : Int32} {x13 : Int32} {r0 : Nat} {r1 : Nat} {t0 : Int32} {t1 : Int32} (hgo : ∀ (L : Nat) (x2 : Int32) (x3 : Int32) (x4 : Int32) (x5 : Int32) (x6 : Int32) (x7 : Int32) (x8 : Int32) (x9 : Int32) (x10 : Int32) (x11 : Int32) (x12 : Int32) (x13 : Int32) (r0 : Nat) (r1 : Nat) (t0 : Int32) (t1 : Int32) (z : ow_MS), fr (fun g => pr0 + 1 ≤ g ∧ g ≤ pr0 + 10) z0 z → (L = 0 ∨ L = 1 ∨ L = 2 ∨ L = 3 ∨ L = 4 ∨ L = 5 ∨ L = 6 ∨ L = 7 → r0 = pr0) → (L = 0 ∨ L = 1 ∨ L = 2 ∨ L = 3 ∨ L = 4 ∨ L = 5 ∨ L = 6 ∨ L = 7 → r1 = pr1) → Fo id (fun g => pr0 + 1 ≤ g ∧ g ≤ pr0 + 10) z0 (go L x2 x3 x4 x5 x6 x7 x8 x9 x10 x11 x12 x13 r0 r1 t0 t1 z)) (hz : fr (fun g => pr0 + 1 ≤ g ∧ g ≤ pr0 + 10) z0 z) (e_r0 : r0 = pr0) (e_r1 : r1 = pr1) : Fo id (fun g => pr0 + 1 ≤ g ∧ g ≤ pr0 + 10) z0 (cm_X7_load_3 vl K go x2 x3 x4 x5 x6 x7 x8 x9 x10 x11 x12 x13 r0 r1 t0 t1 z) := by
  unfold cm_X7_load_3
  exact (hgo 7 _ _ _ _ _ _ _ _ _ _ _ _ _ _ _ _ z hz (fun _ => by omega) (fun _ => by omega))
theorem fb_X7_load_4 {K : Nat} {vl : Nat → Nat} {z0 z : ow_MS} {pr0 : Nat} {pr1 : Nat} {go : Nat → Int32 → Int32 → Int32 → Int32 → Int32 → Int32 → Int32 → Int32 → Int32 → Int32 → Int32 → Int32 → Nat → Nat → Int32 → Int32 → ow_MS → Option ow_MS} {x2 : Int32} {x3 : Int32} {x4 : Int32} {x5 : Int32} {x6 : Int32} {x7 : Int32} {x8 : Int32} {x9 : Int32} {x10 : Int32} {x11 : Int32} {x12 : Int32} {x13 : Int32} {r0 : Nat} {r1 : Nat} {t0 : Int32} {t1 : Int32} (hgo : ∀ (L : Nat) (x2 : Int32) (x3 : Int32) (x4 : Int32) (x5 : Int32) (x6 : Int32) (x7 : Int32) (x8 : Int32) (x9 : Int32) (x10 : Int32) (x11 : Int32) (x12 : Int32) (x13 : Int32) (r0 : Nat) (r1 : Nat) (t0 : Int32) (t1 : Int32) (z : ow_MS), fr (fun g => pr0 + 1 ≤ g ∧ g ≤ pr0 + 10) z0 z → (L = 0 ∨ L = 1 ∨ L = 2 ∨ L = 3 ∨ L = 4 ∨ L = 5 ∨ L = 6 ∨ L = 7 → r0 = pr0) → (L = 0 ∨ L = 1 ∨ L = 2 ∨ L = 3 ∨ L = 4 ∨ L = 5 ∨ L = 6 ∨ L = 7 → r1 = pr1) → Fo id (fun g => pr0 + 1 ≤ g ∧ g ≤ pr0 + 10) z0 (go L x2 x3 x4 x5 x6 x7 x8 x9 x10 x11 x12 x13 r0 r1 t0 t1 z)) (hz : fr (fun g => pr0 + 1 ≤ g ∧ g ≤ pr0 + 10) z0 z) (e_r0 : r0 = pr0) (e_r1 : r1 = pr1) : Fo id (fun g => pr0 + 1 ≤ g ∧ g ≤ pr0 + 10) z0 (cm_X7_load_4 vl K go x2 x3 x4 x5 x6 x7 x8 x9 x10 x11 x12 x13 r0 r1 t0 t1 z) := by
  unfold cm_X7_load_4
  exact (fc_ctI (by omega) hz (fun z12 h_z12 => (hgo 5 _ _ _ _ _ _ _ _ _ _ _ _ _ _ _ _ z12 h_z12 (fun _ => by omega) (fun _ => by omega))))
theorem fb_X7_load_5 {K : Nat} {vl : Nat → Nat} {z0 z : ow_MS} {pr0 : Nat} {pr1 : Nat} {go : Nat → Int32 → Int32 → Int32 → Int32 → Int32 → Int32 → Int32 → Int32 → Int32 → Int32 → Int32 → Int32 → Nat → Nat → Int32 → Int32 → ow_MS → Option ow_MS} {x2 : Int32} {x3 : Int32} {x4 : Int32} {x5 : Int32} {x6 : Int32} {x7 : Int32} {x8 : Int32} {x9 : Int32} {x10 : Int32} {x11 : Int32} {x12 : Int32} {x13 : Int32} {r0 : Nat} {r1 : Nat} {t0 : Int32} {t1 : Int32} (hgo : ∀ (L : Nat) (x2 : Int32) (x3 : Int32) (x4 : Int32) (x5 : Int32) (x6 : Int32) (x7 : Int32) (x8 : Int32) (x9 : Int32) (x10 : Int32) (x11 : Int32) (x12 : Int32) (x13 : Int32) (r0 : Nat) (r1 : Nat) (t0 : Int32) (t1 : Int32) (z : ow_MS), fr (fun g => pr0 + 1 ≤ g ∧ g ≤ pr0 + 10) z0 z → (L = 0 ∨ L = 1 ∨ L = 2 ∨ L = 3 ∨ L = 4 ∨ L = 5 ∨ L = 6 ∨ L = 7 → r0 = pr0) → (L = 0 ∨ L = 1 ∨ L = 2 ∨ L = 3 ∨ L = 4 ∨ L = 5 ∨ L = 6 ∨ L = 7 → r1 = pr1) → Fo id (fun g => pr0 + 1 ≤ g ∧ g ≤ pr0 + 10) z0 (go L x2 x3 x4 x5 x6 x7 x8 x9 x10 x11 x12 x13 r0 r1 t0 t1 z)) (hz : fr (fun g => pr0 + 1 ≤ g ∧ g ≤ pr0 + 10) z0 z) (e_r0 : r0 = pr0) (e_r1 : r1 = pr1) : Fo id (fun g => pr0 + 1 ≤ g ∧ g ≤ pr0 + 10) z0 (cm_X7_load_5 vl K go x2 x3 x4 x5 x6 x7 x8 x9 x10 x11 x12 x13 r0 r1 t0 t1 z) := by
  unfold cm_X7_load_5
  exact (fc_ctI (by omega) hz (fun z13 h_z13 => (fo_rdF (fun v14 => (fc_ctI (by omega) h_z13 (fun z15 h_z15 => (fo_if (hgo 6 _ _ _ _ _ _ _ _ _ _ _ _ _ _ _ _ z15 h_z15 (fun _ => by omega) (fun _ => by omega)) (fo_cs0 ff_X7_link (fun g hg => by omega) h_z15 (fun z16 h_z16 => (hgo 6 _ _ _ _ _ _ _ _ _ _ _ _ _ _ _ _ z16 h_z16 (fun _ => by omega) (fun _ => by omega)))))))))))
theorem fb_X7_load_6 {K : Nat} {vl : Nat → Nat} {z0 z : ow_MS} {pr0 : Nat} {pr1 : Nat} {go : Nat → Int32 → Int32 → Int32 → Int32 → Int32 → Int32 → Int32 → Int32 → Int32 → Int32 → Int32 → Int32 → Nat → Nat → Int32 → Int32 → ow_MS → Option ow_MS} {x2 : Int32} {x3 : Int32} {x4 : Int32} {x5 : Int32} {x6 : Int32} {x7 : Int32} {x8 : Int32} {x9 : Int32} {x10 : Int32} {x11 : Int32} {x12 : Int32} {x13 : Int32} {r0 : Nat} {r1 : Nat} {t0 : Int32} {t1 : Int32} (hgo : ∀ (L : Nat) (x2 : Int32) (x3 : Int32) (x4 : Int32) (x5 : Int32) (x6 : Int32) (x7 : Int32) (x8 : Int32) (x9 : Int32) (x10 : Int32) (x11 : Int32) (x12 : Int32) (x13 : Int32) (r0 : Nat) (r1 : Nat) (t0 : Int32) (t1 : Int32) (z : ow_MS), fr (fun g => pr0 + 1 ≤ g ∧ g ≤ pr0 + 10) z0 z → (L = 0 ∨ L = 1 ∨ L = 2 ∨ L = 3 ∨ L = 4 ∨ L = 5 ∨ L = 6 ∨ L = 7 → r0 = pr0) → (L = 0 ∨ L = 1 ∨ L = 2 ∨ L = 3 ∨ L = 4 ∨ L = 5 ∨ L = 6 ∨ L = 7 → r1 = pr1) → Fo id (fun g => pr0 + 1 ≤ g ∧ g ≤ pr0 + 10) z0 (go L x2 x3 x4 x5 x6 x7 x8 x9 x10 x11 x12 x13 r0 r1 t0 t1 z)) (hz : fr (fun g => pr0 + 1 ≤ g ∧ g ≤ pr0 + 10) z0 z) (e_r0 : r0 = pr0) (e_r1 : r1 = pr1) : Fo id (fun g => pr0 + 1 ≤ g ∧ g ≤ pr0 + 10) z0 (cm_X7_load_6 vl K go x2 x3 x4 x5 x6 x7 x8 x9 x10 x11 x12 x13 r0 r1 t0 t1 z) := by
  unfold cm_X7_load_6
  exact (hgo 7 _ _ _ _ _ _ _ _ _ _ _ _ _ _ _ _ z hz (fun _ => by omega) (fun _ => by omega))
theorem fb_X7_load_7 {K : Nat} {vl : Nat → Nat} {z0 z : ow_MS} {pr0 : Nat} {pr1 : Nat} {go : Nat → Int32 → Int32 → Int32 → Int32 → Int32 → Int32 → Int32 → Int32 → Int32 → Int32 → Int32 → Int32 → Nat → Nat → Int32 → Int32 → ow_MS → Option ow_MS} {x2 : Int32} {x3 : Int32} {x4 : Int32} {x5 : Int32} {x6 : Int32} {x7 : Int32} {x8 : Int32} {x9 : Int32} {x10 : Int32} {x11 : Int32} {x12 : Int32} {x13 : Int32} {r0 : Nat} {r1 : Nat} {t0 : Int32} {t1 : Int32} (hgo : ∀ (L : Nat) (x2 : Int32) (x3 : Int32) (x4 : Int32) (x5 : Int32) (x6 : Int32) (x7 : Int32) (x8 : Int32) (x9 : Int32) (x10 : Int32) (x11 : Int32) (x12 : Int32) (x13 : Int32) (r0 : Nat) (r1 : Nat) (t0 : Int32) (t1 : Int32) (z : ow_MS), fr (fun g => pr0 + 1 ≤ g ∧ g ≤ pr0 + 10) z0 z → (L = 0 ∨ L = 1 ∨ L = 2 ∨ L = 3 ∨ L = 4 ∨ L = 5 ∨ L = 6 ∨ L = 7 → r0 = pr0) → (L = 0 ∨ L = 1 ∨ L = 2 ∨ L = 3 ∨ L = 4 ∨ L = 5 ∨ L = 6 ∨ L = 7 → r1 = pr1) → Fo id (fun g => pr0 + 1 ≤ g ∧ g ≤ pr0 + 10) z0 (go L x2 x3 x4 x5 x6 x7 x8 x9 x10 x11 x12 x13 r0 r1 t0 t1 z)) (hz : fr (fun g => pr0 + 1 ≤ g ∧ g ≤ pr0 + 10) z0 z) (e_r0 : r0 = pr0) (e_r1 : r1 = pr1) : Fo id (fun g => pr0 + 1 ≤ g ∧ g ≤ pr0 + 10) z0 (cm_X7_load_7 vl K go x2 x3 x4 x5 x6 x7 x8 x9 x10 x11 x12 x13 r0 r1 t0 t1 z) := by
  unfold cm_X7_load_7
  exact (hgo 1 _ _ _ _ _ _ _ _ _ _ _ _ _ _ _ _ z hz (fun _ => by omega) (fun _ => by omega))
theorem fq_X7_load {K : Nat} {vl : Nat → Nat} {z0 : ow_MS} {pr0 : Nat} {pr1 : Nat} : ∀ (k L : Nat) (x2 : Int32) (x3 : Int32) (x4 : Int32) (x5 : Int32) (x6 : Int32) (x7 : Int32) (x8 : Int32) (x9 : Int32) (x10 : Int32) (x11 : Int32) (x12 : Int32) (x13 : Int32) (r0 : Nat) (r1 : Nat) (t0 : Int32) (t1 : Int32) (z : ow_MS), fr (fun g => pr0 + 1 ≤ g ∧ g ≤ pr0 + 10) z0 z → (L = 0 ∨ L = 1 ∨ L = 2 ∨ L = 3 ∨ L = 4 ∨ L = 5 ∨ L = 6 ∨ L = 7 → r0 = pr0) → (L = 0 ∨ L = 1 ∨ L = 2 ∨ L = 3 ∨ L = 4 ∨ L = 5 ∨ L = 6 ∨ L = 7 → r1 = pr1) → Fo id (fun g => pr0 + 1 ≤ g ∧ g ≤ pr0 + 10) z0 (c_X7_load vl K k L x2 x3 x4 x5 x6 x7 x8 x9 x10 x11 x12 x13 r0 r1 t0 t1 z)
  | 0 => by
    intros
    exact fo_none
  | k + 1 => by
    intro L x2 x3 x4 x5 x6 x7 x8 x9 x10 x11 x12 x13 r0 r1 t0 t1 z hz h9_r0 h9_r1
    show Fo id (fun g => pr0 + 1 ≤ g ∧ g ≤ pr0 + 10) z0 (cb_X7_load vl K (c_X7_load vl K k) L x2 x3 x4 x5 x6 x7 x8 x9 x10 x11 x12 x13 r0 r1 t0 t1 z)
    unfold cb_X7_load
    split
    · exact fb_X7_load_0 (fq_X7_load k) hz (h9_r0 (by decide)) (h9_r1 (by decide))
    · exact fb_X7_load_1 (fq_X7_load k) hz (h9_r0 (by decide)) (h9_r1 (by decide))
    · exact fb_X7_load_2 (fq_X7_load k) hz (h9_r0 (by decide)) (h9_r1 (by decide))
    · exact fb_X7_load_3 (fq_X7_load k) hz (h9_r0 (by decide)) (h9_r1 (by decide))
    · exact fb_X7_load_4 (fq_X7_load k) hz (h9_r0 (by decide)) (h9_r1 (by decide))
    · exact fb_X7_load_5 (fq_X7_load k) hz (h9_r0 (by decide)) (h9_r1 (by decide))
    · exact fb_X7_load_6 (fq_X7_load k) hz (h9_r0 (by decide)) (h9_r1 (by decide))
    · exact fb_X7_load_7 (fq_X7_load k) hz (h9_r0 (by decide)) (h9_r1 (by decide))
    · exact fo_none
theorem ff_X7_load {vl : Nat → Nat} {K : Nat} {r0 : Nat} {r1 : Nat} {x2 : Int32} {z : ow_MS} : Fo id (fun g => r0 + 1 ≤ g ∧ g ≤ r0 + 10) z (ce_X7_load vl K r0 r1 x2 z) := fq_X7_load (pr0 := r0) (pr1 := r1) K 0 _ _ _ _ _ _ _ _ _ _ _ _ _ _ _ _ z fr_rf (fun _ => rfl) (fun _ => rfl)
theorem fb_X7_alternates_0 {K : Nat} {vl : Nat → Nat} {z0 z : ow_MS} {pr0 : Nat} {go : Nat → Int32 → Nat → ow_MS → Option (Int32 × ow_MS)} {x1 : Int32} {r0 : Nat} (hgo : ∀ (L : Nat) (x1 : Int32) (r0 : Nat) (z : ow_MS), fr (fun _ => False) z0 z → (L = 0 ∨ L = 1 → r0 = pr0) → Fo Prod.snd (fun _ => False) z0 (go L x1 r0 z)) (hz : fr (fun _ => False) z0 z) (e_r0 : r0 = pr0) : Fo Prod.snd (fun _ => False) z0 (cm_X7_alternates_0 vl K go x1 r0 z) := by
  unfold cm_X7_alternates_0
  exact (hgo 1 _ _ z hz (fun _ => by omega))
theorem fb_X7_alternates_1 {K : Nat} {vl : Nat → Nat} {z0 z : ow_MS} {pr0 : Nat} {go : Nat → Int32 → Nat → ow_MS → Option (Int32 × ow_MS)} {x1 : Int32} {r0 : Nat} (hgo : ∀ (L : Nat) (x1 : Int32) (r0 : Nat) (z : ow_MS), fr (fun _ => False) z0 z → (L = 0 ∨ L = 1 → r0 = pr0) → Fo Prod.snd (fun _ => False) z0 (go L x1 r0 z)) (hz : fr (fun _ => False) z0 z) (e_r0 : r0 = pr0) : Fo Prod.snd (fun _ => False) z0 (cm_X7_alternates_1 vl K go x1 r0 z) := by
  unfold cm_X7_alternates_1
  exact (fo_rdF (fun v1 => (fo_if (fo_okZ (fo_some hz)) (fc_crI (fun v2 => (fo_if (fo_okZ (fo_some hz)) (hgo 1 _ _ z hz (fun _ => by omega))))))))
theorem fq_X7_alternates {K : Nat} {vl : Nat → Nat} {z0 : ow_MS} {pr0 : Nat} : ∀ (k L : Nat) (x1 : Int32) (r0 : Nat) (z : ow_MS), fr (fun _ => False) z0 z → (L = 0 ∨ L = 1 → r0 = pr0) → Fo Prod.snd (fun _ => False) z0 (c_X7_alternates vl K k L x1 r0 z)
  | 0 => by
    intros
    exact fo_none
  | k + 1 => by
    intro L x1 r0 z hz h9_r0
    show Fo Prod.snd (fun _ => False) z0 (cb_X7_alternates vl K (c_X7_alternates vl K k) L x1 r0 z)
    unfold cb_X7_alternates
    split
    · exact fb_X7_alternates_0 (fq_X7_alternates k) hz (h9_r0 (by decide))
    · exact fb_X7_alternates_1 (fq_X7_alternates k) hz (h9_r0 (by decide))
    · exact fo_none
theorem ff_X7_alternates {vl : Nat → Nat} {K : Nat} {r0 : Nat} {z : ow_MS} : Fo Prod.snd (fun _ => False) z (ce_X7_alternates vl K r0 z) := fq_X7_alternates (pr0 := r0) K 0 _ _ z fr_rf (fun _ => rfl)
theorem fb_X7_writhe_0 {K : Nat} {vl : Nat → Nat} {z0 z : ow_MS} {pr0 : Nat} {go : Nat → Int32 → Int32 → Nat → ow_MS → Option (Int32 × ow_MS)} {x1 : Int32} {x2 : Int32} {r0 : Nat} (hgo : ∀ (L : Nat) (x1 : Int32) (x2 : Int32) (r0 : Nat) (z : ow_MS), fr (fun _ => False) z0 z → (L = 0 ∨ L = 1 → r0 = pr0) → Fo Prod.snd (fun _ => False) z0 (go L x1 x2 r0 z)) (hz : fr (fun _ => False) z0 z) (e_r0 : r0 = pr0) : Fo Prod.snd (fun _ => False) z0 (cm_X7_writhe_0 vl K go x1 x2 r0 z) := by
  unfold cm_X7_writhe_0
  exact (hgo 1 _ _ _ z hz (fun _ => by omega))
theorem fb_X7_writhe_1 {K : Nat} {vl : Nat → Nat} {z0 z : ow_MS} {pr0 : Nat} {go : Nat → Int32 → Int32 → Nat → ow_MS → Option (Int32 × ow_MS)} {x1 : Int32} {x2 : Int32} {r0 : Nat} (hgo : ∀ (L : Nat) (x1 : Int32) (x2 : Int32) (r0 : Nat) (z : ow_MS), fr (fun _ => False) z0 z → (L = 0 ∨ L = 1 → r0 = pr0) → Fo Prod.snd (fun _ => False) z0 (go L x1 x2 r0 z)) (hz : fr (fun _ => False) z0 z) (e_r0 : r0 = pr0) : Fo Prod.snd (fun _ => False) z0 (cm_X7_writhe_1 vl K go x1 x2 r0 z) := by
  unfold cm_X7_writhe_1
  exact (fo_rdF (fun v1 => (fo_if (fo_some hz) (fc_crI (fun v2 => (hgo 1 _ _ _ z hz (fun _ => by omega)))))))
theorem fq_X7_writhe {K : Nat} {vl : Nat → Nat} {z0 : ow_MS} {pr0 : Nat} : ∀ (k L : Nat) (x1 : Int32) (x2 : Int32) (r0 : Nat) (z : ow_MS), fr (fun _ => False) z0 z → (L = 0 ∨ L = 1 → r0 = pr0) → Fo Prod.snd (fun _ => False) z0 (c_X7_writhe vl K k L x1 x2 r0 z)
  | 0 => by
    intros
    exact fo_none
  | k + 1 => by
    intro L x1 x2 r0 z hz h9_r0
    show Fo Prod.snd (fun _ => False) z0 (cb_X7_writhe vl K (c_X7_writhe vl K k) L x1 x2 r0 z)
    unfold cb_X7_writhe
    split
    · exact fb_X7_writhe_0 (fq_X7_writhe k) hz (h9_r0 (by decide))
    · exact fb_X7_writhe_1 (fq_X7_writhe k) hz (h9_r0 (by decide))
    · exact fo_none
theorem ff_X7_writhe {vl : Nat → Nat} {K : Nat} {r0 : Nat} {z : ow_MS} : Fo Prod.snd (fun _ => False) z (ce_X7_writhe vl K r0 z) := fq_X7_writhe (pr0 := r0) K 0 _ _ _ z fr_rf (fun _ => rfl)
theorem ff_X11_figure {vl : Nat → Nat} {K : Nat} {r0 : Nat} {x1 : Int32} {x2 : Int32} {z : ow_MS} : Fo (fun r => r.2.2) (fun g => r0 + 4001 ≤ g ∧ g ≤ r0 + 4011) z (ce_X11_figure vl K r0 x1 x2 z) := by
  unfold ce_X11_figure cm_X11_figure_0
  exact (fc_tc0 ff_X11_needDiagram (fun g hg => hg.elim) fr_rf (fun k z h_e => (fo_some h_e)) (fun z1 h_z1 => (fo_if (fo_some h_z1) (fo_if (fo_cs0 ff_X7_load (fun g hg => by omega) h_z1 (fun z3 h_z3 => (fo_if (fo_cs1 ff_X7_alternates (fun g hg => hg.elim) h_z3 (fun v5 z4 h_z4 => (fo_if (fo_some h_z4) (fo_some h_z4)))) (fo_if (fo_rdF (fun v6 => (fo_some h_z3))) (fo_if (fo_rdF (fun v7 => (fo_some h_z3))) (fo_if (fo_rdF (fun v8 => (fo_some h_z3))) (fo_if (fo_cs0 ff_X7_markParts (fun g hg => by omega) h_z3 (fun z9 h_z9 => (fo_rdF (fun v10 => (fo_rdF (fun v11 => (fo_some h_z9))))))) (fo_if (fo_cs1 ff_X7_writhe (fun g hg => hg.elim) h_z3 (fun v13 z12 h_z12 => (fo_some h_z12))) fo_none)))))))) (fo_some h_z1)))))
theorem ff_X11_visit {vl : Nat → Nat} {K : Nat} {r0 : Nat} {x1 : Int32} {x2 : Int32} {x3 : Int32} {z : ow_MS} : Fo (fun r => r.2.2) (fun g => r0 + 4001 ≤ g ∧ g ≤ r0 + 4010) z (ce_X11_visit vl K r0 x1 x2 x3 z) := by
  unfold ce_X11_visit cm_X11_visit_0
  exact (fc_tc0 ff_X11_needDiagram (fun g hg => hg.elim) fr_rf (fun k z h_e => (fo_some h_e)) (fun z1 h_z1 => (fo_if (fo_some h_z1) (fc_crI (fun v3 => (fo_if (fo_if (fo_some h_z1) (fo_if (fo_cs0 ff_X7_load (fun g hg => by omega) h_z1 (fun z4 h_z4 => (fc_crI (fun v5 => (fo_if (fc_crI (fun v6 => (fo_some h_z4))) (fo_if (fc_crI (fun v7 => (fo_some h_z4))) (fo_if (fo_some h_z4) (fo_if (fo_some h_z4) fo_none)))))))) (fo_some h_z1))) (fo_some h_z1)))))))
theorem ff_X11_needComponent {vl : Nat → Nat} {K : Nat} {r0 : Nat} {x1 : Int32} {z : ow_MS} : Fo Prod.snd (fun _ => False) z (ce_X11_needComponent vl K r0 x1 z) := by
  unfold ce_X11_needComponent cm_X11_needComponent_0
  exact (fo_if (fo_some fr_rf) (fo_rdF (fun v1 => (fo_if (fo_some fr_rf) (fo_some fr_rf)))))
theorem fb_X11_linking_0 {K : Nat} {vl : Nat → Nat} {z0 z : ow_MS} {pr0 : Nat} {go : Nat → Int32 → Int32 → Int32 → Int32 → Int32 → Int32 → Int32 → Nat → ow_MS → Option (Nat × Int32 × ow_MS)} {x1 : Int32} {x2 : Int32} {x3 : Int32} {x4 : Int32} {x5 : Int32} {x6 : Int32} {x7 : Int32} {r0 : Nat} (hgo : ∀ (L : Nat) (x1 : Int32) (x2 : Int32) (x3 : Int32) (x4 : Int32) (x5 : Int32) (x6 : Int32) (x7 : Int32) (r0 : Nat) (z : ow_MS), fr (fun g => pr0 + 4001 ≤ g ∧ g ≤ pr0 + 4010) z0 z → (L = 0 ∨ L = 1 ∨ L = 2 ∨ L = 3 ∨ L = 4 → r0 = pr0) → Fo (fun r => r.2.2) (fun g => pr0 + 4001 ≤ g ∧ g ≤ pr0 + 4010) z0 (go L x1 x2 x3 x4 x5 x6 x7 r0 z)) (hz : fr (fun g => pr0 + 4001 ≤ g ∧ g ≤ pr0 + 4010) z0 z) (e_r0 : r0 = pr0) : Fo (fun r => r.2.2) (fun g => pr0 + 4001 ≤ g ∧ g ≤ pr0 + 4010) z0 (cm_X11_linking_0 vl K go x1 x2 x3 x4 x5 x6 x7 r0 z) := by
  unfold cm_X11_linking_0
  exact (fc_tc0 ff_X11_needDiagram (fun g hg => hg.elim) hz (fun k z h_e => (fo_some h_e)) (fun z1 h_z1 => (fo_cs0 ff_X7_load (fun g hg => by omega) h_z1 (fun z3 h_z3 => (fc_tc0 ff_X11_needComponent (fun g hg => hg.elim) h_z3 (fun k z h_e => (fo_some h_e)) (fun z4 h_z4 => (fc_tc0 ff_X11_needComponent (fun g hg => hg.elim) h_z4 (fun k z h_e => (fo_some h_e)) (fun z6 h_z6 => (fo_if (fo_some h_z6) (hgo 1 _ _ _ _ _ _ _ _ z6 h_z6 (fun _ => by omega)))))))))))
theorem fb_X11_linking_1 {K : Nat} {vl : Nat → Nat} {z0 z : ow_MS} {pr0 : Nat} {go : Nat → Int32 → Int32 → Int32 → Int32 → Int32 → Int32 → Int32 → Nat → ow_MS → Option (Nat × Int32 × ow_MS)} {x1 : Int32} {x2 : Int32} {x3 : Int32} {x4 : Int32} {x5 : Int32} {x6 : Int32} {x7 : Int32} {r0 : Nat} (hgo : ∀ (L : Nat) (x1 : Int32) (x2 : Int32) (x3 : Int32) (x4 : Int32) (x5 : Int32) (x6 : Int32) (x7 : Int32) (r0 : Nat) (z : ow_MS), fr (fun g => pr0 + 4001 ≤ g ∧ g ≤ pr0 + 4010) z0 z → (L = 0 ∨ L = 1 ∨ L = 2 ∨ L = 3 ∨ L = 4 → r0 = pr0) → Fo (fun r => r.2.2) (fun g => pr0 + 4001 ≤ g ∧ g ≤ pr0 + 4010) z0 (go L x1 x2 x3 x4 x5 x6 x7 r0 z)) (hz : fr (fun g => pr0 + 4001 ≤ g ∧ g ≤ pr0 + 4010) z0 z) (e_r0 : r0 = pr0) : Fo (fun r => r.2.2) (fun g => pr0 + 4001 ≤ g ∧ g ≤ pr0 + 4010) z0 (cm_X11_linking_1 vl K go x1 x2 x3 x4 x5 x6 x7 r0 z) := by
  unfold cm_X11_linking_1
  exact (fo_rdF (fun v8 => (fo_if (fo_nzI (fo_some hz)) (fc_crI (fun v9 => (fc_crI (fun v10 => (fo_if (fo_if (hgo 3 _ _ _ _ _ _ _ _ z hz (fun _ => by omega)) (hgo 2 _ _ _ _ _ _ _ _ z hz (fun _ => by omega))) (hgo 2 _ _ _ _ _ _ _ _ z hz (fun _ => by omega))))))))))
theorem fb_X11_linking_2 {K : Nat} {vl : Nat → Nat} {z0 z : ow_MS} {pr0 : Nat} {go : Nat → Int32 → Int32 → Int32 → Int32 → Int32 → Int32 → Int32 → Nat → ow_MS → Option (Nat × Int32 × ow_MS)} {x1 : Int32} {x2 : Int32} {x3 : Int32} {x4 : Int32} {x5 : Int32} {x6 : Int32} {x7 : Int32} {r0 : Nat} (hgo : ∀ (L : Nat) (x1 : Int32) (x2 : Int32) (x3 : Int32) (x4 : Int32) (x5 : Int32) (x6 : Int32) (x7 : Int32) (r0 : Nat) (z : ow_MS), fr (fun g => pr0 + 4001 ≤ g ∧ g ≤ pr0 + 4010) z0 z → (L = 0 ∨ L = 1 ∨ L = 2 ∨ L = 3 ∨ L = 4 → r0 = pr0) → Fo (fun r => r.2.2) (fun g => pr0 + 4001 ≤ g ∧ g ≤ pr0 + 4010) z0 (go L x1 x2 x3 x4 x5 x6 x7 r0 z)) (hz : fr (fun g => pr0 + 4001 ≤ g ∧ g ≤ pr0 + 4010) z0 z) (e_r0 : r0 = pr0) : Fo (fun r => r.2.2) (fun g => pr0 + 4001 ≤ g ∧ g ≤ pr0 + 4010) z0 (cm_X11_linking_2 vl K go x1 x2 x3 x4 x5 x6 x7 r0 z) := by
  unfold cm_X11_linking_2
  exact (fo_if (fo_if (hgo 3 _ _ _ _ _ _ _ _ z hz (fun _ => by omega)) (hgo 4 _ _ _ _ _ _ _ _ z hz (fun _ => by omega))) (hgo 4 _ _ _ _ _ _ _ _ z hz (fun _ => by omega)))
theorem fb_X11_linking_3 {K : Nat} {vl : Nat → Nat} {z0 z : ow_MS} {pr0 : Nat} {go : Nat → Int32 → Int32 → Int32 → Int32 → Int32 → Int32 → Int32 → Nat → ow_MS → Option (Nat × Int32 × ow_MS)} {x1 : Int32} {x2 : Int32} {x3 : Int32} {x4 : Int32} {x5 : Int32} {x6 : Int32} {x7 : Int32} {r0 : Nat} (hgo : ∀ (L : Nat) (x1 : Int32) (x2 : Int32) (x3 : Int32) (x4 : Int32) (x5 : Int32) (x6 : Int32) (x7 : Int32) (r0 : Nat) (z : ow_MS), fr (fun g => pr0 + 4001 ≤ g ∧ g ≤ pr0 + 4010) z0 z → (L = 0 ∨ L = 1 ∨ L = 2 ∨ L = 3 ∨ L = 4 → r0 = pr0) → Fo (fun r => r.2.2) (fun g => pr0 + 4001 ≤ g ∧ g ≤ pr0 + 4010) z0 (go L x1 x2 x3 x4 x5 x6 x7 r0 z)) (hz : fr (fun g => pr0 + 4001 ≤ g ∧ g ≤ pr0 + 4010) z0 z) (e_r0 : r0 = pr0) : Fo (fun r => r.2.2) (fun g => pr0 + 4001 ≤ g ∧ g ≤ pr0 + 4010) z0 (cm_X11_linking_3 vl K go x1 x2 x3 x4 x5 x6 x7 r0 z) := by
  unfold cm_X11_linking_3
  exact (fc_crI (fun v11 => (hgo 4 _ _ _ _ _ _ _ _ z hz (fun _ => by omega))))
theorem fb_X11_linking_4 {K : Nat} {vl : Nat → Nat} {z0 z : ow_MS} {pr0 : Nat} {go : Nat → Int32 → Int32 → Int32 → Int32 → Int32 → Int32 → Int32 → Nat → ow_MS → Option (Nat × Int32 × ow_MS)} {x1 : Int32} {x2 : Int32} {x3 : Int32} {x4 : Int32} {x5 : Int32} {x6 : Int32} {x7 : Int32} {r0 : Nat} (hgo : ∀ (L : Nat) (x1 : Int32) (x2 : Int32) (x3 : Int32) (x4 : Int32) (x5 : Int32) (x6 : Int32) (x7 : Int32) (r0 : Nat) (z : ow_MS), fr (fun g => pr0 + 4001 ≤ g ∧ g ≤ pr0 + 4010) z0 z → (L = 0 ∨ L = 1 ∨ L = 2 ∨ L = 3 ∨ L = 4 → r0 = pr0) → Fo (fun r => r.2.2) (fun g => pr0 + 4001 ≤ g ∧ g ≤ pr0 + 4010) z0 (go L x1 x2 x3 x4 x5 x6 x7 r0 z)) (hz : fr (fun g => pr0 + 4001 ≤ g ∧ g ≤ pr0 + 4010) z0 z) (e_r0 : r0 = pr0) : Fo (fun r => r.2.2) (fun g => pr0 + 4001 ≤ g ∧ g ≤ pr0 + 4010) z0 (cm_X11_linking_4 vl K go x1 x2 x3 x4 x5 x6 x7 r0 z) := by
  unfold cm_X11_linking_4
  exact (hgo 1 _ _ _ _ _ _ _ _ z hz (fun _ => by omega))
theorem fq_X11_linking {K : Nat} {vl : Nat → Nat} {z0 : ow_MS} {pr0 : Nat} : ∀ (k L : Nat) (x1 : Int32) (x2 : Int32) (x3 : Int32) (x4 : Int32) (x5 : Int32) (x6 : Int32) (x7 : Int32) (r0 : Nat) (z : ow_MS), fr (fun g => pr0 + 4001 ≤ g ∧ g ≤ pr0 + 4010) z0 z → (L = 0 ∨ L = 1 ∨ L = 2 ∨ L = 3 ∨ L = 4 → r0 = pr0) → Fo (fun r => r.2.2) (fun g => pr0 + 4001 ≤ g ∧ g ≤ pr0 + 4010) z0 (c_X11_linking vl K k L x1 x2 x3 x4 x5 x6 x7 r0 z)
  | 0 => by
    intros
    exact fo_none
  | k + 1 => by
    intro L x1 x2 x3 x4 x5 x6 x7 r0 z hz h9_r0
    show Fo (fun r => r.2.2) (fun g => pr0 + 4001 ≤ g ∧ g ≤ pr0 + 4010) z0 (cb_X11_linking vl K (c_X11_linking vl K k) L x1 x2 x3 x4 x5 x6 x7 r0 z)
    unfold cb_X11_linking
    split
    · exact fb_X11_linking_0 (fq_X11_linking k) hz (h9_r0 (by decide))
    · exact fb_X11_linking_1 (fq_X11_linking k) hz (h9_r0 (by decide))
    · exact fb_X11_linking_2 (fq_X11_linking k) hz (h9_r0 (by decide))
    · exact fb_X11_linking_3 (fq_X11_linking k) hz (h9_r0 (by decide))
    · exact fb_X11_linking_4 (fq_X11_linking k) hz (h9_r0 (by decide))
    · exact fo_none
theorem ff_X11_linking {vl : Nat → Nat} {K : Nat} {r0 : Nat} {x1 : Int32} {x2 : Int32} {x3 : Int32} {z : ow_MS} : Fo (fun r => r.2.2) (fun g => r0 + 4001 ≤ g ∧ g ≤ r0 + 4010) z (ce_X11_linking vl K r0 x1 x2 x3 z) := fq_X11_linking (pr0 := r0) K 0 _ _ _ _ _ _ _ _ z fr_rf (fun _ => rfl)
theorem ff_X11_alike {vl : Nat → Nat} {K : Nat} {r0 : Nat} {x1 : Int32} {x2 : Int32} {z : ow_MS} : Fo Prod.snd (fun _ => False) z (ce_X11_alike vl K r0 x1 x2 z) := by
  unfold ce_X11_alike cm_X11_alike_0
  exact (fo_cs1 ff_X11_hasDiagram (fun g hg => hg.elim) fr_rf (fun v2 z1 h_z1 => (fo_if (fo_okZ (fo_some h_z1)) (fo_cs1 ff_X11_hasDiagram (fun g hg => hg.elim) h_z1 (fun v4 z3 h_z3 => (fo_if (fo_okZ (fo_some h_z3)) (fo_cs1 ff_X3_compare (fun g hg => hg.elim) h_z3 (fun v6 z5 h_z5 => (fo_if (fo_okZ (fo_some h_z5)) (fo_okZ (fo_some h_z5)))))))))))
theorem ff_X7_swapped {vl : Nat → Nat} {K : Nat} {x0 : Int32} {x1 : Int32} {x2 : Int32} {z : ow_MS} : Fo Prod.snd (fun _ => False) z (ce_X7_swapped vl K x0 x1 x2 z) := by
  unfold ce_X7_swapped cm_X7_swapped_0
  exact (fo_if (fo_some fr_rf) (fo_if (fo_some fr_rf) (fo_some fr_rf)))
theorem ff_X7_swapPlaces {vl : Nat → Nat} {K : Nat} {r0 : Nat} {x1 : Int32} {x2 : Int32} {z : ow_MS} : Fo id (fun g => r0 + 1 ≤ g ∧ g ≤ r0 + 2) z (ce_X7_swapPlaces vl K r0 x1 x2 z) := by
  unfold ce_X7_swapPlaces cm_X7_swapPlaces_0
  exact (fc_crI (fun v1 => (fo_cs1 ff_X7_swapped (fun g hg => hg.elim) fr_rf (fun v3 z2 h_z2 => (fc_crI (fun v4 => (fo_cs1 ff_X7_swapped (fun g hg => hg.elim) h_z2 (fun v6 z5 h_z5 => (fc_crI (fun v7 => (fo_cs1 ff_X7_swapped (fun g hg => hg.elim) h_z5 (fun v9 z8 h_z8 => (fc_crI (fun v10 => (fo_cs1 ff_X7_swapped (fun g hg => hg.elim) h_z8 (fun v12 z11 h_z11 => (fo_cs0 ff_X7_link (fun g hg => by omega) h_z11 (fun z13 h_z13 => (fo_cs0 ff_X7_link (fun g hg => by omega) h_z13 (fun z14 h_z14 => (fo_cs0 ff_X7_link (fun g hg => by omega) h_z14 (fun z15 h_z15 => (fo_cs0 ff_X7_link (fun g hg => by omega) h_z15 (fun z16 h_z16 => (fo_some h_z16)))))))))))))))))))))))))
theorem ff_X7_flipCrossing {vl : Nat → Nat} {K : Nat} {r0 : Nat} {x1 : Int32} {z : ow_MS} : Fo id (fun g => r0 + 1 ≤ g ∧ g ≤ r0 + 3) z (ce_X7_flipCrossing vl K r0 x1 z) := by
  unfold ce_X7_flipCrossing cm_X7_flipCrossing_0
  exact (fo_cs0 ff_X7_swapPlaces (fun g hg => by omega) fr_rf (fun z1 h_z1 => (fc_crI (fun v2 => (fc_ctI (by omega) h_z1 (fun z3 h_z3 => (fo_some h_z3)))))))
theorem fb_X11_mirror_0 {K : Nat} {vl : Nat → Nat} {z0 z : ow_MS} {pr0 : Nat} {go : Nat → Int32 → Int32 → Int32 → Nat → ow_MS → Option (Nat × Int32 × ow_MS)} {x1 : Int32} {x2 : Int32} {x3 : Int32} {r0 : Nat} (hgo : ∀ (L : Nat) (x1 : Int32) (x2 : Int32) (x3 : Int32) (r0 : Nat) (z : ow_MS), fr (fun g => pr0 + 1001 ≤ g ∧ g ≤ pr0 + 1003 ∨ pr0 + 4001 ≤ g ∧ g ≤ pr0 + 4011 ∨ pr0 + 7004 ≤ g ∧ g ≤ pr0 + 7006 ∨ pr0 + 8001 ≤ g ∧ g ≤ pr0 + 8003 ∨ pr0 + 9001 ≤ g ∧ g ≤ pr0 + 9003 ∨ pr0 + 10001 ≤ g ∧ g ≤ pr0 + 10005) z0 z → (L = 0 ∨ L = 1 → r0 = pr0) → Fo (fun r => r.2.2) (fun g => pr0 + 1001 ≤ g ∧ g ≤ pr0 + 1003 ∨ pr0 + 4001 ≤ g ∧ g ≤ pr0 + 4011 ∨ pr0 + 7004 ≤ g ∧ g ≤ pr0 + 7006 ∨ pr0 + 8001 ≤ g ∧ g ≤ pr0 + 8003 ∨ pr0 + 9001 ≤ g ∧ g ≤ pr0 + 9003 ∨ pr0 + 10001 ≤ g ∧ g ≤ pr0 + 10005) z0 (go L x1 x2 x3 r0 z)) (hz : fr (fun g => pr0 + 1001 ≤ g ∧ g ≤ pr0 + 1003 ∨ pr0 + 4001 ≤ g ∧ g ≤ pr0 + 4011 ∨ pr0 + 7004 ≤ g ∧ g ≤ pr0 + 7006 ∨ pr0 + 8001 ≤ g ∧ g ≤ pr0 + 8003 ∨ pr0 + 9001 ≤ g ∧ g ≤ pr0 + 9003 ∨ pr0 + 10001 ≤ g ∧ g ≤ pr0 + 10005) z0 z) (e_r0 : r0 = pr0) : Fo (fun r => r.2.2) (fun g => pr0 + 1001 ≤ g ∧ g ≤ pr0 + 1003 ∨ pr0 + 4001 ≤ g ∧ g ≤ pr0 + 4011 ∨ pr0 + 7004 ≤ g ∧ g ≤ pr0 + 7006 ∨ pr0 + 8001 ≤ g ∧ g ≤ pr0 + 8003 ∨ pr0 + 9001 ≤ g ∧ g ≤ pr0 + 9003 ∨ pr0 + 10001 ≤ g ∧ g ≤ pr0 + 10005) z0 (cm_X11_mirror_0 vl K go x1 x2 x3 r0 z) := by
  unfold cm_X11_mirror_0
  exact (fc_tc0 ff_X11_needDiagram (fun g hg => hg.elim) hz (fun k z h_e => (fo_some h_e)) (fun z1 h_z1 => (fc_tc1 ff_X11_freeDiagram (fun g hg => hg.elim) h_z1 (fun k z h_e => (fo_some h_e)) (fun v5 z3 h_z3 => (fo_cs0 ff_X7_load (fun g hg => by omega) h_z3 (fun z6 h_z6 => (hgo 1 _ _ _ _ z6 h_z6 (fun _ => by omega))))))))
theorem fb_X11_mirror_1 {K : Nat} {vl : Nat → Nat} {z0 z : ow_MS} {pr0 : Nat} {go : Nat → Int32 → Int32 → Int32 → Nat → ow_MS → Option (Nat × Int32 × ow_MS)} {x1 : Int32} {x2 : Int32} {x3 : Int32} {r0 : Nat} (hgo : ∀ (L : Nat) (x1 : Int32) (x2 : Int32) (x3 : Int32) (r0 : Nat) (z : ow_MS), fr (fun g => pr0 + 1001 ≤ g ∧ g ≤ pr0 + 1003 ∨ pr0 + 4001 ≤ g ∧ g ≤ pr0 + 4011 ∨ pr0 + 7004 ≤ g ∧ g ≤ pr0 + 7006 ∨ pr0 + 8001 ≤ g ∧ g ≤ pr0 + 8003 ∨ pr0 + 9001 ≤ g ∧ g ≤ pr0 + 9003 ∨ pr0 + 10001 ≤ g ∧ g ≤ pr0 + 10005) z0 z → (L = 0 ∨ L = 1 → r0 = pr0) → Fo (fun r => r.2.2) (fun g => pr0 + 1001 ≤ g ∧ g ≤ pr0 + 1003 ∨ pr0 + 4001 ≤ g ∧ g ≤ pr0 + 4011 ∨ pr0 + 7004 ≤ g ∧ g ≤ pr0 + 7006 ∨ pr0 + 8001 ≤ g ∧ g ≤ pr0 + 8003 ∨ pr0 + 9001 ≤ g ∧ g ≤ pr0 + 9003 ∨ pr0 + 10001 ≤ g ∧ g ≤ pr0 + 10005) z0 (go L x1 x2 x3 r0 z)) (hz : fr (fun g => pr0 + 1001 ≤ g ∧ g ≤ pr0 + 1003 ∨ pr0 + 4001 ≤ g ∧ g ≤ pr0 + 4011 ∨ pr0 + 7004 ≤ g ∧ g ≤ pr0 + 7006 ∨ pr0 + 8001 ≤ g ∧ g ≤ pr0 + 8003 ∨ pr0 + 9001 ≤ g ∧ g ≤ pr0 + 9003 ∨ pr0 + 10001 ≤ g ∧ g ≤ pr0 + 10005) z0 z) (e_r0 : r0 = pr0) : Fo (fun r => r.2.2) (fun g => pr0 + 1001 ≤ g ∧ g ≤ pr0 + 1003 ∨ pr0 + 4001 ≤ g ∧ g ≤ pr0 + 4011 ∨ pr0 + 7004 ≤ g ∧ g ≤ pr0 + 7006 ∨ pr0 + 8001 ≤ g ∧ g ≤ pr0 + 8003 ∨ pr0 + 9001 ≤ g ∧ g ≤ pr0 + 9003 ∨ pr0 + 10001 ≤ g ∧ g ≤ pr0 + 10005) z0 (cm_X11_mirror_1 vl K go x1 x2 x3 r0 z) := by
  unfold cm_X11_mirror_1
  exact (fo_rdF (fun v7 => (fo_if (fo_cs1 ff_X11_keep (fun g hg => by omega) hz (fun v9 z8 h_z8 => (fo_some h_z8))) (fo_cs0 ff_X7_flipCrossing (fun g hg => by omega) hz (fun z10 h_z10 => (hgo 1 _ _ _ _ z10 h_z10 (fun _ => by omega)))))))
theorem fq_X11_mirror {K : Nat} {vl : Nat → Nat} {z0 : ow_MS} {pr0 : Nat} : ∀ (k L : Nat) (x1 : Int32) (x2 : Int32) (x3 : Int32) (r0 : Nat) (z : ow_MS), fr (fun g => pr0 + 1001 ≤ g ∧ g ≤ pr0 + 1003 ∨ pr0 + 4001 ≤ g ∧ g ≤ pr0 + 4011 ∨ pr0 + 7004 ≤ g ∧ g ≤ pr0 + 7006 ∨ pr0 + 8001 ≤ g ∧ g ≤ pr0 + 8003 ∨ pr0 + 9001 ≤ g ∧ g ≤ pr0 + 9003 ∨ pr0 + 10001 ≤ g ∧ g ≤ pr0 + 10005) z0 z → (L = 0 ∨ L = 1 → r0 = pr0) → Fo (fun r => r.2.2) (fun g => pr0 + 1001 ≤ g ∧ g ≤ pr0 + 1003 ∨ pr0 + 4001 ≤ g ∧ g ≤ pr0 + 4011 ∨ pr0 + 7004 ≤ g ∧ g ≤ pr0 + 7006 ∨ pr0 + 8001 ≤ g ∧ g ≤ pr0 + 8003 ∨ pr0 + 9001 ≤ g ∧ g ≤ pr0 + 9003 ∨ pr0 + 10001 ≤ g ∧ g ≤ pr0 + 10005) z0 (c_X11_mirror vl K k L x1 x2 x3 r0 z)
  | 0 => by
    intros
    exact fo_none
  | k + 1 => by
    intro L x1 x2 x3 r0 z hz h9_r0
    show Fo (fun r => r.2.2) (fun g => pr0 + 1001 ≤ g ∧ g ≤ pr0 + 1003 ∨ pr0 + 4001 ≤ g ∧ g ≤ pr0 + 4011 ∨ pr0 + 7004 ≤ g ∧ g ≤ pr0 + 7006 ∨ pr0 + 8001 ≤ g ∧ g ≤ pr0 + 8003 ∨ pr0 + 9001 ≤ g ∧ g ≤ pr0 + 9003 ∨ pr0 + 10001 ≤ g ∧ g ≤ pr0 + 10005) z0 (cb_X11_mirror vl K (c_X11_mirror vl K k) L x1 x2 x3 r0 z)
    unfold cb_X11_mirror
    split
    · exact fb_X11_mirror_0 (fq_X11_mirror k) hz (h9_r0 (by decide))
    · exact fb_X11_mirror_1 (fq_X11_mirror k) hz (h9_r0 (by decide))
    · exact fo_none
theorem ff_X11_mirror {vl : Nat → Nat} {K : Nat} {r0 : Nat} {x1 : Int32} {z : ow_MS} : Fo (fun r => r.2.2) (fun g => r0 + 1001 ≤ g ∧ g ≤ r0 + 1003 ∨ r0 + 4001 ≤ g ∧ g ≤ r0 + 4011 ∨ r0 + 7004 ≤ g ∧ g ≤ r0 + 7006 ∨ r0 + 8001 ≤ g ∧ g ≤ r0 + 8003 ∨ r0 + 9001 ≤ g ∧ g ≤ r0 + 9003 ∨ r0 + 10001 ≤ g ∧ g ≤ r0 + 10005) z (ce_X11_mirror vl K r0 x1 z) := fq_X11_mirror (pr0 := r0) K 0 _ _ _ _ z fr_rf (fun _ => rfl)
theorem fb_X7_turn_0 {K : Nat} {vl : Nat → Nat} {z0 z : ow_MS} {pr0 : Nat} {go : Nat → Int32 → Int32 → Nat → ow_MS → Option ow_MS} {x1 : Int32} {x2 : Int32} {r0 : Nat} (hgo : ∀ (L : Nat) (x1 : Int32) (x2 : Int32) (r0 : Nat) (z : ow_MS), fr (fun g => pr0 + 1 ≤ g ∧ g ≤ pr0 + 3) z0 z → (L = 0 ∨ L = 1 ∨ L = 2 ∨ L = 3 → r0 = pr0) → Fo id (fun g => pr0 + 1 ≤ g ∧ g ≤ pr0 + 3) z0 (go L x1 x2 r0 z)) (hz : fr (fun g => pr0 + 1 ≤ g ∧ g ≤ pr0 + 3) z0 z) (e_r0 : r0 = pr0) : Fo id (fun g => pr0 + 1 ≤ g ∧ g ≤ pr0 + 3) z0 (cm_X7_turn_0 vl K go x1 x2 r0 z) := by
  unfold cm_X7_turn_0
  exact (hgo 1 _ _ _ z hz (fun _ => by omega))
theorem fb_X7_turn_1 {K : Nat} {vl : Nat → Nat} {z0 z : ow_MS} {pr0 : Nat} {go : Nat → Int32 → Int32 → Nat → ow_MS → Option ow_MS} {x1 : Int32} {x2 : Int32} {r0 : Nat} (hgo : ∀ (L : Nat) (x1 : Int32) (x2 : Int32) (r0 : Nat) (z : ow_MS), fr (fun g => pr0 + 1 ≤ g ∧ g ≤ pr0 + 3) z0 z → (L = 0 ∨ L = 1 ∨ L = 2 ∨ L = 3 → r0 = pr0) → Fo id (fun g => pr0 + 1 ≤ g ∧ g ≤ pr0 + 3) z0 (go L x1 x2 r0 z)) (hz : fr (fun g => pr0 + 1 ≤ g ∧ g ≤ pr0 + 3) z0 z) (e_r0 : r0 = pr0) : Fo id (fun g => pr0 + 1 ≤ g ∧ g ≤ pr0 + 3) z0 (cm_X7_turn_1 vl K go x1 x2 r0 z) := by
  unfold cm_X7_turn_1
  exact (fo_rdF (fun v1 => (fo_if (fo_some hz) (fo_if (hgo 2 _ _ _ z hz (fun _ => by omega)) (fc_crI (fun v2 => (fo_if (hgo 2 _ _ _ z hz (fun _ => by omega)) (hgo 3 _ _ _ z hz (fun _ => by omega)))))))))
theorem fb_X7_turn_2 {K : Nat} {vl : Nat → Nat} {z0 z : ow_MS} {pr0 : Nat} {go : Nat → Int32 → Int32 → Nat → ow_MS → Option ow_MS} {x1 : Int32} {x2 : Int32} {r0 : Nat} (hgo : ∀ (L : Nat) (x1 : Int32) (x2 : Int32) (r0 : Nat) (z : ow_MS), fr (fun g => pr0 + 1 ≤ g ∧ g ≤ pr0 + 3) z0 z → (L = 0 ∨ L = 1 ∨ L = 2 ∨ L = 3 → r0 = pr0) → Fo id (fun g => pr0 + 1 ≤ g ∧ g ≤ pr0 + 3) z0 (go L x1 x2 r0 z)) (hz : fr (fun g => pr0 + 1 ≤ g ∧ g ≤ pr0 + 3) z0 z) (e_r0 : r0 = pr0) : Fo id (fun g => pr0 + 1 ≤ g ∧ g ≤ pr0 + 3) z0 (cm_X7_turn_2 vl K go x1 x2 r0 z) := by
  unfold cm_X7_turn_2
  exact (fc_crI (fun v3 => (fc_crI (fun v4 => (fc_ctI (by omega) hz (fun z5 h_z5 => (fc_ctI (by omega) h_z5 (fun z6 h_z6 => (fc_crI (fun v7 => (fc_ctI (by omega) h_z6 (fun z8 h_z8 => (hgo 3 _ _ _ z8 h_z8 (fun _ => by omega))))))))))))))
theorem fb_X7_turn_3 {K : Nat} {vl : Nat → Nat} {z0 z : ow_MS} {pr0 : Nat} {go : Nat → Int32 → Int32 → Nat → ow_MS → Option ow_MS} {x1 : Int32} {x2 : Int32} {r0 : Nat} (hgo : ∀ (L : Nat) (x1 : Int32) (x2 : Int32) (r0 : Nat) (z : ow_MS), fr (fun g => pr0 + 1 ≤ g ∧ g ≤ pr0 + 3) z0 z → (L = 0 ∨ L = 1 ∨ L = 2 ∨ L = 3 → r0 = pr0) → Fo id (fun g => pr0 + 1 ≤ g ∧ g ≤ pr0 + 3) z0 (go L x1 x2 r0 z)) (hz : fr (fun g => pr0 + 1 ≤ g ∧ g ≤ pr0 + 3) z0 z) (e_r0 : r0 = pr0) : Fo id (fun g => pr0 + 1 ≤ g ∧ g ≤ pr0 + 3) z0 (cm_X7_turn_3 vl K go x1 x2 r0 z) := by
  unfold cm_X7_turn_3
  exact (hgo 1 _ _ _ z hz (fun _ => by omega))
theorem fq_X7_turn {K : Nat} {vl : Nat → Nat} {z0 : ow_MS} {pr0 : Nat} : ∀ (k L : Nat) (x1 : Int32) (x2 : Int32) (r0 : Nat) (z : ow_MS), fr (fun g => pr0 + 1 ≤ g ∧ g ≤ pr0 + 3) z0 z → (L = 0 ∨ L = 1 ∨ L = 2 ∨ L = 3 → r0 = pr0) → Fo id (fun g => pr0 + 1 ≤ g ∧ g ≤ pr0 + 3) z0 (c_X7_turn vl K k L x1 x2 r0 z)
  | 0 => by
    intros
    exact fo_none
  | k + 1 => by
    intro L x1 x2 r0 z hz h9_r0
    show Fo id (fun g => pr0 + 1 ≤ g ∧ g ≤ pr0 + 3) z0 (cb_X7_turn vl K (c_X7_turn vl K k) L x1 x2 r0 z)
    unfold cb_X7_turn
    split
    · exact fb_X7_turn_0 (fq_X7_turn k) hz (h9_r0 (by decide))
    · exact fb_X7_turn_1 (fq_X7_turn k) hz (h9_r0 (by decide))
    · exact fb_X7_turn_2 (fq_X7_turn k) hz (h9_r0 (by decide))
    · exact fb_X7_turn_3 (fq_X7_turn k) hz (h9_r0 (by decide))
    · exact fo_none
theorem ff_X7_turn {vl : Nat → Nat} {K : Nat} {r0 : Nat} {x1 : Int32} {z : ow_MS} : Fo id (fun g => r0 + 1 ≤ g ∧ g ≤ r0 + 3) z (ce_X7_turn vl K r0 x1 z) := fq_X7_turn (pr0 := r0) K 0 _ _ _ z fr_rf (fun _ => rfl)
theorem fb_X11_reverse_0 {K : Nat} {vl : Nat → Nat} {z0 z : ow_MS} {pr0 : Nat} {go : Nat → Int32 → Int32 → Nat → ow_MS → Option (Nat × Int32 × ow_MS)} {x1 : Int32} {x2 : Int32} {r0 : Nat} (hgo : ∀ (L : Nat) (x1 : Int32) (x2 : Int32) (r0 : Nat) (z : ow_MS), fr (fun g => pr0 + 1001 ≤ g ∧ g ≤ pr0 + 1003 ∨ pr0 + 4001 ≤ g ∧ g ≤ pr0 + 4011 ∨ pr0 + 7004 ≤ g ∧ g ≤ pr0 + 7006 ∨ pr0 + 8001 ≤ g ∧ g ≤ pr0 + 8003 ∨ pr0 + 9001 ≤ g ∧ g ≤ pr0 + 9003 ∨ pr0 + 10001 ≤ g ∧ g ≤ pr0 + 10005) z0 z → (L = 0 ∨ L = 1 → r0 = pr0) → Fo (fun r => r.2.2) (fun g => pr0 + 1001 ≤ g ∧ g ≤ pr0 + 1003 ∨ pr0 + 4001 ≤ g ∧ g ≤ pr0 + 4011 ∨ pr0 + 7004 ≤ g ∧ g ≤ pr0 + 7006 ∨ pr0 + 8001 ≤ g ∧ g ≤ pr0 + 8003 ∨ pr0 + 9001 ≤ g ∧ g ≤ pr0 + 9003 ∨ pr0 + 10001 ≤ g ∧ g ≤ pr0 + 10005) z0 (go L x1 x2 r0 z)) (hz : fr (fun g => pr0 + 1001 ≤ g ∧ g ≤ pr0 + 1003 ∨ pr0 + 4001 ≤ g ∧ g ≤ pr0 + 4011 ∨ pr0 + 7004 ≤ g ∧ g ≤ pr0 + 7006 ∨ pr0 + 8001 ≤ g ∧ g ≤ pr0 + 8003 ∨ pr0 + 9001 ≤ g ∧ g ≤ pr0 + 9003 ∨ pr0 + 10001 ≤ g ∧ g ≤ pr0 + 10005) z0 z) (e_r0 : r0 = pr0) : Fo (fun r => r.2.2) (fun g => pr0 + 1001 ≤ g ∧ g ≤ pr0 + 1003 ∨ pr0 + 4001 ≤ g ∧ g ≤ pr0 + 4011 ∨ pr0 + 7004 ≤ g ∧ g ≤ pr0 + 7006 ∨ pr0 + 8001 ≤ g ∧ g ≤ pr0 + 8003 ∨ pr0 + 9001 ≤ g ∧ g ≤ pr0 + 9003 ∨ pr0 + 10001 ≤ g ∧ g ≤ pr0 + 10005) z0 (cm_X11_reverse_0 vl K go x1 x2 r0 z) := by
  unfold cm_X11_reverse_0
  exact (fc_tc0 ff_X11_needDiagram (fun g hg => hg.elim) hz (fun k z h_e => (fo_some h_e)) (fun z1 h_z1 => (fo_cs0 ff_X7_load (fun g hg => by omega) h_z1 (fun z3 h_z3 => (fo_if (hgo 1 _ _ _ z3 h_z3 (fun _ => by omega)) (fc_tc0 ff_X11_needComponent (fun g hg => hg.elim) h_z3 (fun k z h_e => (fo_some h_e)) (fun z4 h_z4 => (hgo 1 _ _ _ z4 h_z4 (fun _ => by omega)))))))))
theorem fb_X11_reverse_1 {K : Nat} {vl : Nat → Nat} {z0 z : ow_MS} {pr0 : Nat} {go : Nat → Int32 → Int32 → Nat → ow_MS → Option (Nat × Int32 × ow_MS)} {x1 : Int32} {x2 : Int32} {r0 : Nat} (hgo : ∀ (L : Nat) (x1 : Int32) (x2 : Int32) (r0 : Nat) (z : ow_MS), fr (fun g => pr0 + 1001 ≤ g ∧ g ≤ pr0 + 1003 ∨ pr0 + 4001 ≤ g ∧ g ≤ pr0 + 4011 ∨ pr0 + 7004 ≤ g ∧ g ≤ pr0 + 7006 ∨ pr0 + 8001 ≤ g ∧ g ≤ pr0 + 8003 ∨ pr0 + 9001 ≤ g ∧ g ≤ pr0 + 9003 ∨ pr0 + 10001 ≤ g ∧ g ≤ pr0 + 10005) z0 z → (L = 0 ∨ L = 1 → r0 = pr0) → Fo (fun r => r.2.2) (fun g => pr0 + 1001 ≤ g ∧ g ≤ pr0 + 1003 ∨ pr0 + 4001 ≤ g ∧ g ≤ pr0 + 4011 ∨ pr0 + 7004 ≤ g ∧ g ≤ pr0 + 7006 ∨ pr0 + 8001 ≤ g ∧ g ≤ pr0 + 8003 ∨ pr0 + 9001 ≤ g ∧ g ≤ pr0 + 9003 ∨ pr0 + 10001 ≤ g ∧ g ≤ pr0 + 10005) z0 (go L x1 x2 r0 z)) (hz : fr (fun g => pr0 + 1001 ≤ g ∧ g ≤ pr0 + 1003 ∨ pr0 + 4001 ≤ g ∧ g ≤ pr0 + 4011 ∨ pr0 + 7004 ≤ g ∧ g ≤ pr0 + 7006 ∨ pr0 + 8001 ≤ g ∧ g ≤ pr0 + 8003 ∨ pr0 + 9001 ≤ g ∧ g ≤ pr0 + 9003 ∨ pr0 + 10001 ≤ g ∧ g ≤ pr0 + 10005) z0 z) (e_r0 : r0 = pr0) : Fo (fun r => r.2.2) (fun g => pr0 + 1001 ≤ g ∧ g ≤ pr0 + 1003 ∨ pr0 + 4001 ≤ g ∧ g ≤ pr0 + 4011 ∨ pr0 + 7004 ≤ g ∧ g ≤ pr0 + 7006 ∨ pr0 + 8001 ≤ g ∧ g ≤ pr0 + 8003 ∨ pr0 + 9001 ≤ g ∧ g ≤ pr0 + 9003 ∨ pr0 + 10001 ≤ g ∧ g ≤ pr0 + 10005) z0 (cm_X11_reverse_1 vl K go x1 x2 r0 z) := by
  unfold cm_X11_reverse_1
  exact (fc_tc1 ff_X11_freeDiagram (fun g hg => hg.elim) hz (fun k z h_e => (fo_some h_e)) (fun v8 z6 h_z6 => (fo_cs0 ff_X7_turn (fun g hg => by omega) h_z6 (fun z9 h_z9 => (fo_cs1 ff_X11_keep (fun g hg => by omega) h_z9 (fun v11 z10 h_z10 => (fo_some h_z10)))))))
theorem fq_X11_reverse {K : Nat} {vl : Nat → Nat} {z0 : ow_MS} {pr0 : Nat} : ∀ (k L : Nat) (x1 : Int32) (x2 : Int32) (r0 : Nat) (z : ow_MS), fr (fun g => pr0 + 1001 ≤ g ∧ g ≤ pr0 + 1003 ∨ pr0 + 4001 ≤ g ∧ g ≤ pr0 + 4011 ∨ pr0 + 7004 ≤ g ∧ g ≤ pr0 + 7006 ∨ pr0 + 8001 ≤ g ∧ g ≤ pr0 + 8003 ∨ pr0 + 9001 ≤ g ∧ g ≤ pr0 + 9003 ∨ pr0 + 10001 ≤ g ∧ g ≤ pr0 + 10005) z0 z → (L = 0 ∨ L = 1 → r0 = pr0) → Fo (fun r => r.2.2) (fun g => pr0 + 1001 ≤ g ∧ g ≤ pr0 + 1003 ∨ pr0 + 4001 ≤ g ∧ g ≤ pr0 + 4011 ∨ pr0 + 7004 ≤ g ∧ g ≤ pr0 + 7006 ∨ pr0 + 8001 ≤ g ∧ g ≤ pr0 + 8003 ∨ pr0 + 9001 ≤ g ∧ g ≤ pr0 + 9003 ∨ pr0 + 10001 ≤ g ∧ g ≤ pr0 + 10005) z0 (c_X11_reverse vl K k L x1 x2 r0 z)
  | 0 => by
    intros
    exact fo_none
  | k + 1 => by
    intro L x1 x2 r0 z hz h9_r0
    show Fo (fun r => r.2.2) (fun g => pr0 + 1001 ≤ g ∧ g ≤ pr0 + 1003 ∨ pr0 + 4001 ≤ g ∧ g ≤ pr0 + 4011 ∨ pr0 + 7004 ≤ g ∧ g ≤ pr0 + 7006 ∨ pr0 + 8001 ≤ g ∧ g ≤ pr0 + 8003 ∨ pr0 + 9001 ≤ g ∧ g ≤ pr0 + 9003 ∨ pr0 + 10001 ≤ g ∧ g ≤ pr0 + 10005) z0 (cb_X11_reverse vl K (c_X11_reverse vl K k) L x1 x2 r0 z)
    unfold cb_X11_reverse
    split
    · exact fb_X11_reverse_0 (fq_X11_reverse k) hz (h9_r0 (by decide))
    · exact fb_X11_reverse_1 (fq_X11_reverse k) hz (h9_r0 (by decide))
    · exact fo_none
theorem ff_X11_reverse {vl : Nat → Nat} {K : Nat} {r0 : Nat} {x1 : Int32} {x2 : Int32} {z : ow_MS} : Fo (fun r => r.2.2) (fun g => r0 + 1001 ≤ g ∧ g ≤ r0 + 1003 ∨ r0 + 4001 ≤ g ∧ g ≤ r0 + 4011 ∨ r0 + 7004 ≤ g ∧ g ≤ r0 + 7006 ∨ r0 + 8001 ≤ g ∧ g ≤ r0 + 8003 ∨ r0 + 9001 ≤ g ∧ g ≤ r0 + 9003 ∨ r0 + 10001 ≤ g ∧ g ≤ r0 + 10005) z (ce_X11_reverse vl K r0 x1 x2 z) := fq_X11_reverse (pr0 := r0) K 0 _ _ _ z fr_rf (fun _ => rfl)
theorem ff_X11_needCrossing {vl : Nat → Nat} {K : Nat} {r0 : Nat} {x1 : Int32} {z : ow_MS} : Fo Prod.snd (fun _ => False) z (ce_X11_needCrossing vl K r0 x1 z) := by
  unfold ce_X11_needCrossing cm_X11_needCrossing_0
  exact (fo_if (fo_some fr_rf) (fo_rdF (fun v1 => (fo_if (fo_some fr_rf) (fo_some fr_rf)))))
theorem ff_X11_change {vl : Nat → Nat} {K : Nat} {r0 : Nat} {x1 : Int32} {x2 : Int32} {z : ow_MS} : Fo (fun r => r.2.2) (fun g => r0 + 1001 ≤ g ∧ g ≤ r0 + 1003 ∨ r0 + 4001 ≤ g ∧ g ≤ r0 + 4011 ∨ r0 + 7004 ≤ g ∧ g ≤ r0 + 7006 ∨ r0 + 8001 ≤ g ∧ g ≤ r0 + 8003 ∨ r0 + 9001 ≤ g ∧ g ≤ r0 + 9003 ∨ r0 + 10001 ≤ g ∧ g ≤ r0 + 10005) z (ce_X11_change vl K r0 x1 x2 z) := by
  unfold ce_X11_change cm_X11_change_0
  exact (fc_tc0 ff_X11_needDiagram (fun g hg => hg.elim) fr_rf (fun k z h_e => (fo_some h_e)) (fun z1 h_z1 => (fo_cs0 ff_X7_load (fun g hg => by omega) h_z1 (fun z3 h_z3 => (fc_tc0 ff_X11_needCrossing (fun g hg => hg.elim) h_z3 (fun k z h_e => (fo_some h_e)) (fun z4 h_z4 => (fc_tc1 ff_X11_freeDiagram (fun g hg => hg.elim) h_z4 (fun k z h_e => (fo_some h_e)) (fun v8 z6 h_z6 => (fo_cs0 ff_X7_flipCrossing (fun g hg => by omega) h_z6 (fun z9 h_z9 => (fo_cs1 ff_X11_keep (fun g hg => by omega) h_z9 (fun v11 z10 h_z10 => (fo_some h_z10)))))))))))))
theorem ff_X7_exchange {vl : Nat → Nat} {K : Nat} {r0 : Nat} {x1 : Int32} {x2 : Int32} {z : ow_MS} : Fo id (fun g => r0 + 1 ≤ g ∧ g ≤ r0 + 2) z (ce_X7_exchange vl K r0 x1 x2 z) := by
  unfold ce_X7_exchange cm_X7_exchange_0
  exact (fc_crI (fun v1 => (fc_crI (fun v2 => (fo_cs0 ff_X7_link (fun g hg => by omega) fr_rf (fun z3 h_z3 => (fo_cs0 ff_X7_link (fun g hg => by omega) h_z3 (fun z4 h_z4 => (fo_some h_z4)))))))))
theorem ff_X7_cut {vl : Nat → Nat} {K : Nat} {r0 : Nat} {x1 : Int32} {z : ow_MS} : Fo id (fun g => r0 + 1 ≤ g ∧ g ≤ r0 + 9) z (ce_X7_cut vl K r0 x1 z) := by
  unfold ce_X7_cut cm_X7_cut_0
  exact (fc_crI (fun v1 => (fo_if (fo_rdF (fun v5 => (fo_wrF (by omega) fr_rf (fun z6 h_z6 => (fo_some h_z6))))) (fc_crI (fun v2 => (fc_crI (fun v3 => (fo_cs0 ff_X7_link (fun g hg => by omega) fr_rf (fun z4 h_z4 => (fo_some h_z4))))))))))
theorem ff_X7_rename {vl : Nat → Nat} {K : Nat} {r0 : Nat} {x1 : Int32} {x2 : Int32} {z : ow_MS} : Fo id (fun g => r0 + 1 ≤ g ∧ g ≤ r0 + 2) z (ce_X7_rename vl K r0 x1 x2 z) := by
  unfold ce_X7_rename cm_X7_rename_0
  exact (fc_crI (fun v1 => (fo_if (fo_cs0 ff_X7_link (fun g hg => by omega) fr_rf (fun z6 h_z6 => (fo_some h_z6))) (fc_crI (fun v2 => (fo_cs0 ff_X7_link (fun g hg => by omega) fr_rf (fun z3 h_z3 => (fc_crI (fun v4 => (fo_cs0 ff_X7_link (fun g hg => by omega) h_z3 (fun z5 h_z5 => (fo_some h_z5))))))))))))
theorem ff_X7_removeCrossing {vl : Nat → Nat} {K : Nat} {r0 : Nat} {x1 : Int32} {z : ow_MS} : Fo id (fun g => r0 + 1 ≤ g ∧ g ≤ r0 + 9) z (ce_X7_removeCrossing vl K r0 x1 z) := by
  unfold ce_X7_removeCrossing cm_X7_removeCrossing_0
  exact (fo_cs0 ff_X7_cut (fun g hg => by omega) fr_rf (fun z1 h_z1 => (fo_cs0 ff_X7_cut (fun g hg => by omega) h_z1 (fun z2 h_z2 => (fo_rdF (fun v3 => (fo_wrF (by omega) h_z2 (fun z4 h_z4 => (fo_rdF (fun v5 => (fo_if (fo_some h_z4) (fo_rdF (fun v6 => (fo_cs0 ff_X7_rename (fun g hg => by omega) h_z4 (fun z7 h_z7 => (fo_rdF (fun v8 => (fo_cs0 ff_X7_rename (fun g hg => by omega) h_z7 (fun z9 h_z9 => (fo_rdF (fun v10 => (fc_crI (fun v11 => (fc_ctI (by omega) h_z9 (fun z12 h_z12 => (fo_some h_z12))))))))))))))))))))))))))
theorem ff_X7_smoothCrossing {vl : Nat → Nat} {K : Nat} {r0 : Nat} {x1 : Int32} {z : ow_MS} : Fo id (fun g => r0 + 1 ≤ g ∧ g ≤ r0 + 9) z (ce_X7_smoothCrossing vl K r0 x1 z) := by
  unfold ce_X7_smoothCrossing cm_X7_smoothCrossing_0
  exact (fo_cs0 ff_X7_exchange (fun g hg => by omega) fr_rf (fun z1 h_z1 => (fo_cs0 ff_X7_removeCrossing (fun g hg => by omega) h_z1 (fun z2 h_z2 => (fo_some h_z2)))))
theorem fb_X7_markRings_0 {K : Nat} {vl : Nat → Nat} {z0 z : ow_MS} {pr0 : Nat} {go : Nat → Int32 → Int32 → Int32 → Int32 → Nat → ow_MS → Option ow_MS} {x1 : Int32} {x2 : Int32} {x3 : Int32} {x4 : Int32} {r0 : Nat} (hgo : ∀ (L : Nat) (x1 : Int32) (x2 : Int32) (x3 : Int32) (x4 : Int32) (r0 : Nat) (z : ow_MS), fr (fun g => pr0 + 5 ≤ g ∧ g ≤ pr0 + 10) z0 z → (L = 0 ∨ L = 1 ∨ L = 2 ∨ L = 3 ∨ L = 4 → r0 = pr0) → Fo id (fun g => pr0 + 5 ≤ g ∧ g ≤ pr0 + 10) z0 (go L x1 x2 x3 x4 r0 z)) (hz : fr (fun g => pr0 + 5 ≤ g ∧ g ≤ pr0 + 10) z0 z) (e_r0 : r0 = pr0) : Fo id (fun g => pr0 + 5 ≤ g ∧ g ≤ pr0 + 10) z0 (cm_X7_markRings_0 vl K go x1 x2 x3 x4 r0 z) := by
  unfold cm_X7_markRings_0
  exact (fo_rdF (fun v1 => (fo_cs0 ff_J7_fill_fda19 (fun g hg => by omega) hz (fun z2 h_z2 => (fo_wrF (by omega) h_z2 (fun z3 h_z3 => (hgo 1 _ _ _ _ _ z3 h_z3 (fun _ => by omega))))))))
theorem fb_X7_markRings_1 {K : Nat} {vl : Nat → Nat} {z0 z : ow_MS} {pr0 : Nat} {go : Nat → Int32 → Int32 → Int32 → Int32 → Nat → ow_MS → Option ow_MS} {x1 : Int32} {x2 : Int32} {x3 : Int32} {x4 : Int32} {r0 : Nat} (hgo : ∀ (L : Nat) (x1 : Int32) (x2 : Int32) (x3 : Int32) (x4 : Int32) (r0 : Nat) (z : ow_MS), fr (fun g => pr0 + 5 ≤ g ∧ g ≤ pr0 + 10) z0 z → (L = 0 ∨ L = 1 ∨ L = 2 ∨ L = 3 ∨ L = 4 → r0 = pr0) → Fo id (fun g => pr0 + 5 ≤ g ∧ g ≤ pr0 + 10) z0 (go L x1 x2 x3 x4 r0 z)) (hz : fr (fun g => pr0 + 5 ≤ g ∧ g ≤ pr0 + 10) z0 z) (e_r0 : r0 = pr0) : Fo id (fun g => pr0 + 5 ≤ g ∧ g ≤ pr0 + 10) z0 (cm_X7_markRings_1 vl K go x1 x2 x3 x4 r0 z) := by
  unfold cm_X7_markRings_1
  exact (fo_if (fo_some hz) (fc_crI (fun v4 => (fo_if (hgo 2 _ _ _ _ _ z hz (fun _ => by omega)) (hgo 4 _ _ _ _ _ z hz (fun _ => by omega))))))
theorem fb_X7_markRings_2 {K : Nat} {vl : Nat → Nat} {z0 z : ow_MS} {pr0 : Nat} {go : Nat → Int32 → Int32 → Int32 → Int32 → Nat → ow_MS → Option ow_MS} {x1 : Int32} {x2 : Int32} {x3 : Int32} {x4 : Int32} {r0 : Nat} (hgo : ∀ (L : Nat) (x1 : Int32) (x2 : Int32) (x3 : Int32) (x4 : Int32) (r0 : Nat) (z : ow_MS), fr (fun g => pr0 + 5 ≤ g ∧ g ≤ pr0 + 10) z0 z → (L = 0 ∨ L = 1 ∨ L = 2 ∨ L = 3 ∨ L = 4 → r0 = pr0) → Fo id (fun g => pr0 + 5 ≤ g ∧ g ≤ pr0 + 10) z0 (go L x1 x2 x3 x4 r0 z)) (hz : fr (fun g => pr0 + 5 ≤ g ∧ g ≤ pr0 + 10) z0 z) (e_r0 : r0 = pr0) : Fo id (fun g => pr0 + 5 ≤ g ∧ g ≤ pr0 + 10) z0 (cm_X7_markRings_2 vl K go x1 x2 x3 x4 r0 z) := by
  unfold cm_X7_markRings_2
  exact (fo_if (hgo 3 _ _ _ _ _ z hz (fun _ => by omega)) (fc_crI (fun v5 => (fo_if (fo_rdF (fun v6 => (fc_ctI (by omega) hz (fun z7 h_z7 => (fc_crI (fun v8 => (hgo 2 _ _ _ _ _ z7 h_z7 (fun _ => by omega)))))))) (hgo 3 _ _ _ _ _ z hz (fun _ => by omega))))))
theorem fb_X7_markRings_3 {K : Nat} {vl : Nat → Nat} {z0 z : ow_MS} {pr0 : Nat} {go : Nat → Int32 → Int32 → Int32 → Int32 → Nat → ow_MS → Option ow_MS} {x1 : Int32} {x2 : Int32} {x3 : Int32} {x4 : Int32} {r0 : Nat} (hgo : ∀ (L : Nat) (x1 : Int32) (x2 : Int32) (x3 : Int32) (x4 : Int32) (r0 : Nat) (z : ow_MS), fr (fun g => pr0 + 5 ≤ g ∧ g ≤ pr0 + 10) z0 z → (L = 0 ∨ L = 1 ∨ L = 2 ∨ L = 3 ∨ L = 4 → r0 = pr0) → Fo id (fun g => pr0 + 5 ≤ g ∧ g ≤ pr0 + 10) z0 (go L x1 x2 x3 x4 r0 z)) (hz : fr (fun g => pr0 + 5 ≤ g ∧ g ≤ pr0 + 10) z0 z) (e_r0 : r0 = pr0) : Fo id (fun g => pr0 + 5 ≤ g ∧ g ≤ pr0 + 10) z0 (cm_X7_markRings_3 vl K go x1 x2 x3 x4 r0 z) := by
  unfold cm_X7_markRings_3
  exact (fo_rdF (fun v9 => (fo_wrF (by omega) hz (fun z10 h_z10 => (hgo 4 _ _ _ _ _ z10 h_z10 (fun _ => by omega))))))
theorem fb_X7_markRings_4 {K : Nat} {vl : Nat → Nat} {z0 z : ow_MS} {pr0 : Nat} {go : Nat → Int32 → Int32 → Int32 → Int32 → Nat → ow_MS → Option ow_MS} {x1 : Int32} {x2 : Int32} {x3 : Int32} {x4 : Int32} {r0 : Nat} (hgo : ∀ (L : Nat) (x1 : Int32) (x2 : Int32) (x3 : Int32) (x4 : Int32) (r0 : Nat) (z : ow_MS), fr (fun g => pr0 + 5 ≤ g ∧ g ≤ pr0 + 10) z0 z → (L = 0 ∨ L = 1 ∨ L = 2 ∨ L = 3 ∨ L = 4 → r0 = pr0) → Fo id (fun g => pr0 + 5 ≤ g ∧ g ≤ pr0 + 10) z0 (go L x1 x2 x3 x4 r0 z)) (hz : fr (fun g => pr0 + 5 ≤ g ∧ g ≤ pr0 + 10) z0 z) (e_r0 : r0 = pr0) : Fo id (fun g => pr0 + 5 ≤ g ∧ g ≤ pr0 + 10) z0 (cm_X7_markRings_4 vl K go x1 x2 x3 x4 r0 z) := by
  unfold cm_X7_markRings_4
  exact (hgo 1 _ _ _ _ _ z hz (fun _ => by omega))
theorem fq_X7_markRings {K : Nat} {vl : Nat → Nat} {z0 : ow_MS} {pr0 : Nat} : ∀ (k L : Nat) (x1 : Int32) (x2 : Int32) (x3 : Int32) (x4 : Int32) (r0 : Nat) (z : ow_MS), fr (fun g => pr0 + 5 ≤ g ∧ g ≤ pr0 + 10) z0 z → (L = 0 ∨ L = 1 ∨ L = 2 ∨ L = 3 ∨ L = 4 → r0 = pr0) → Fo id (fun g => pr0 + 5 ≤ g ∧ g ≤ pr0 + 10) z0 (c_X7_markRings vl K k L x1 x2 x3 x4 r0 z)
  | 0 => by
    intros
    exact fo_none
  | k + 1 => by
    intro L x1 x2 x3 x4 r0 z hz h9_r0
    show Fo id (fun g => pr0 + 5 ≤ g ∧ g ≤ pr0 + 10) z0 (cb_X7_markRings vl K (c_X7_markRings vl K k) L x1 x2 x3 x4 r0 z)
    unfold cb_X7_markRings
    split
    · exact fb_X7_markRings_0 (fq_X7_markRings k) hz (h9_r0 (by decide))
    · exact fb_X7_markRings_1 (fq_X7_markRings k) hz (h9_r0 (by decide))
    · exact fb_X7_markRings_2 (fq_X7_markRings k) hz (h9_r0 (by decide))
    · exact fb_X7_markRings_3 (fq_X7_markRings k) hz (h9_r0 (by decide))
    · exact fb_X7_markRings_4 (fq_X7_markRings k) hz (h9_r0 (by decide))
    · exact fo_none
theorem ff_X7_markRings {vl : Nat → Nat} {K : Nat} {r0 : Nat} {z : ow_MS} : Fo id (fun g => r0 + 5 ≤ g ∧ g ≤ r0 + 10) z (ce_X7_markRings vl K r0 z) := fq_X7_markRings (pr0 := r0) K 0 _ _ _ _ _ z fr_rf (fun _ => rfl)
theorem ff_X11_smooth {vl : Nat → Nat} {K : Nat} {r0 : Nat} {x1 : Int32} {x2 : Int32} {z : ow_MS} : Fo (fun r => r.2.2) (fun g => r0 + 1001 ≤ g ∧ g ≤ r0 + 1003 ∨ r0 + 4001 ≤ g ∧ g ≤ r0 + 4011 ∨ r0 + 7004 ≤ g ∧ g ≤ r0 + 7006 ∨ r0 + 8001 ≤ g ∧ g ≤ r0 + 8003 ∨ r0 + 9001 ≤ g ∧ g ≤ r0 + 9003 ∨ r0 + 10001 ≤ g ∧ g ≤ r0 + 10005) z (ce_X11_smooth vl K r0 x1 x2 z) := by
  unfold ce_X11_smooth cm_X11_smooth_0
  exact (fc_tc0 ff_X11_needDiagram (fun g hg => hg.elim) fr_rf (fun k z h_e => (fo_some h_e)) (fun z1 h_z1 => (fo_cs0 ff_X7_load (fun g hg => by omega) h_z1 (fun z3 h_z3 => (fc_tc0 ff_X11_needCrossing (fun g hg => hg.elim) h_z3 (fun k z h_e => (fo_some h_e)) (fun z4 h_z4 => (fo_cs0 ff_X7_smoothCrossing (fun g hg => by omega) h_z4 (fun z6 h_z6 => (fo_cs0 ff_X7_markRings (fun g hg => by omega) h_z6 (fun z7 h_z7 => (fo_rdF (fun v8 => (fo_rdF (fun v9 => (fo_if (fc_tc1 ff_X11_freeDiagram (fun g hg => hg.elim) h_z7 (fun k z h_e => (fo_some h_e)) (fun v12 z10 h_z10 => (fo_cs1 ff_X11_keep (fun g hg => by omega) h_z10 (fun v14 z13 h_z13 => (fo_some h_z13))))) (fo_some h_z7))))))))))))))))
theorem ff_X11_loadBoth {vl : Nat → Nat} {K : Nat} {r0 : Nat} {x1 : Int32} {x2 : Int32} {x3 : Int32} {z : ow_MS} : Fo Prod.snd (fun g => r0 + 4001 ≤ g ∧ g ≤ r0 + 4010 ∨ r0 + 5001 ≤ g ∧ g ≤ r0 + 5010) z (ce_X11_loadBoth vl K r0 x1 x2 x3 z) := by
  unfold ce_X11_loadBoth cm_X11_loadBoth_0
  exact (fo_cs0 ff_X7_load (fun g hg => by omega) fr_rf (fun z1 h_z1 => (fo_cs0 ff_X7_load (fun g hg => by omega) h_z1 (fun z2 h_z2 => (fo_rdF (fun v3 => (fo_rdF (fun v4 => (fo_if (fo_some h_z2) (fo_rdF (fun v5 => (fo_rdF (fun v6 => (fo_if (fo_some h_z2) (fo_some h_z2)))))))))))))))
theorem fb_X7_append_0 {K : Nat} {vl : Nat → Nat} {z0 z : ow_MS} {pr0 : Nat} {pr1 : Nat} {go : Nat → Int32 → Int32 → Nat → Nat → ow_MS → Option ow_MS} {x2 : Int32} {x3 : Int32} {r0 : Nat} {r1 : Nat} (hgo : ∀ (L : Nat) (x2 : Int32) (x3 : Int32) (r0 : Nat) (r1 : Nat) (z : ow_MS), fr (fun g => pr0 + 1 ≤ g ∧ g ≤ pr0 + 9) z0 z → (L = 0 ∨ L = 1 → r0 = pr0) → (L = 0 ∨ L = 1 → r1 = pr1) → Fo id (fun g => pr0 + 1 ≤ g ∧ g ≤ pr0 + 9) z0 (go L x2 x3 r0 r1 z)) (hz : fr (fun g => pr0 + 1 ≤ g ∧ g ≤ pr0 + 9) z0 z) (e_r0 : r0 = pr0) (e_r1 : r1 = pr1) : Fo id (fun g => pr0 + 1 ≤ g ∧ g ≤ pr0 + 9) z0 (cm_X7_append_0 vl K go x2 x3 r0 r1 z) := by
  unfold cm_X7_append_0
  exact (fo_rdF (fun v1 => (hgo 1 _ _ _ _ z hz (fun _ => by omega) (fun _ => by omega))))
theorem fb_X7_append_1 {K : Nat} {vl : Nat → Nat} {z0 z : ow_MS} {pr0 : Nat} {pr1 : Nat} {go : Nat → Int32 → Int32 → Nat → Nat → ow_MS → Option ow_MS} {x2 : Int32} {x3 : Int32} {r0 : Nat} {r1 : Nat} (hgo : ∀ (L : Nat) (x2 : Int32) (x3 : Int32) (r0 : Nat) (r1 : Nat) (z : ow_MS), fr (fun g => pr0 + 1 ≤ g ∧ g ≤ pr0 + 9) z0 z → (L = 0 ∨ L = 1 → r0 = pr0) → (L = 0 ∨ L = 1 → r1 = pr1) → Fo id (fun g => pr0 + 1 ≤ g ∧ g ≤ pr0 + 9) z0 (go L x2 x3 r0 r1 z)) (hz : fr (fun g => pr0 + 1 ≤ g ∧ g ≤ pr0 + 9) z0 z) (e_r0 : r0 = pr0) (e_r1 : r1 = pr1) : Fo id (fun g => pr0 + 1 ≤ g ∧ g ≤ pr0 + 9) z0 (cm_X7_append_1 vl K go x2 x3 r0 r1 z) := by
  unfold cm_X7_append_1
  exact (fo_rdF (fun v2 => (fo_if (fo_rdF (fun v3 => (fo_rdF (fun v4 => (fc_cpI (by omega) hz (fun z5 h_z5 => (fo_rdF (fun v6 => (fo_rdF (fun v7 => (fo_wrF (by omega) h_z5 (fun z8 h_z8 => (fo_rdF (fun v9 => (fo_rdF (fun v10 => (fo_wrF (by omega) h_z8 (fun z11 h_z11 => (fo_some h_z11))))))))))))))))))) (fc_crI (fun v12 => (fc_ctI (by omega) hz (fun z13 h_z13 => (fc_crI (fun v14 => (fc_ctI (by omega) h_z13 (fun z15 h_z15 => (hgo 1 _ _ _ _ z15 h_z15 (fun _ => by omega) (fun _ => by omega)))))))))))))
theorem fq_X7_append {K : Nat} {vl : Nat → Nat} {z0 : ow_MS} {pr0 : Nat} {pr1 : Nat} : ∀ (k L : Nat) (x2 : Int32) (x3 : Int32) (r0 : Nat) (r1 : Nat) (z : ow_MS), fr (fun g => pr0 + 1 ≤ g ∧ g ≤ pr0 + 9) z0 z → (L = 0 ∨ L = 1 → r0 = pr0) → (L = 0 ∨ L = 1 → r1 = pr1) → Fo id (fun g => pr0 + 1 ≤ g ∧ g ≤ pr0 + 9) z0 (c_X7_append vl K k L x2 x3 r0 r1 z)
  | 0 => by
    intros
    exact fo_none
  | k + 1 => by
    intro L x2 x3 r0 r1 z hz h9_r0 h9_r1
    show Fo id (fun g => pr0 + 1 ≤ g ∧ g ≤ pr0 + 9) z0 (cb_X7_append vl K (c_X7_append vl K k) L x2 x3 r0 r1 z)
    unfold cb_X7_append
    split
    · exact fb_X7_append_0 (fq_X7_append k) hz (h9_r0 (by decide)) (h9_r1 (by decide))
    · exact fb_X7_append_1 (fq_X7_append k) hz (h9_r0 (by decide)) (h9_r1 (by decide))
    · exact fo_none
theorem ff_X7_append {vl : Nat → Nat} {K : Nat} {r0 : Nat} {r1 : Nat} {z : ow_MS} : Fo id (fun g => r0 + 1 ≤ g ∧ g ≤ r0 + 9) z (ce_X7_append vl K r0 r1 z) := fq_X7_append (pr0 := r0) (pr1 := r1) K 0 _ _ _ _ z fr_rf (fun _ => rfl) (fun _ => rfl)
theorem ff_X11_apart {vl : Nat → Nat} {K : Nat} {r0 : Nat} {x1 : Int32} {x2 : Int32} {z : ow_MS} : Fo (fun r => r.2.2) (fun g => r0 + 1001 ≤ g ∧ g ≤ r0 + 1003 ∨ r0 + 4001 ≤ g ∧ g ≤ r0 + 4011 ∨ r0 + 5001 ≤ g ∧ g ≤ r0 + 5010 ∨ r0 + 7004 ≤ g ∧ g ≤ r0 + 7006 ∨ r0 + 8001 ≤ g ∧ g ≤ r0 + 8003 ∨ r0 + 9001 ≤ g ∧ g ≤ r0 + 9003 ∨ r0 + 10001 ≤ g ∧ g ≤ r0 + 10005) z (ce_X11_apart vl K r0 x1 x2 z) := by
  unfold ce_X11_apart cm_X11_apart_0
  exact (fc_tc0 ff_X11_needDiagram (fun g hg => hg.elim) fr_rf (fun k z h_e => (fo_some h_e)) (fun z1 h_z1 => (fc_tc0 ff_X11_needDiagram (fun g hg => hg.elim) h_z1 (fun k z h_e => (fo_some h_e)) (fun z3 h_z3 => (fc_tc0 ff_X11_loadBoth (fun g hg => by omega) h_z3 (fun k z h_e => (fo_some h_e)) (fun z5 h_z5 => (fc_tc1 ff_X11_freeDiagram (fun g hg => hg.elim) h_z5 (fun k z h_e => (fo_some h_e)) (fun v9 z7 h_z7 => (fo_cs0 ff_X7_append (fun g hg => by omega) h_z7 (fun z10 h_z10 => (fo_cs1 ff_X11_keep (fun g hg => by omega) h_z10 (fun v12 z11 h_z11 => (fo_some h_z11)))))))))))))
theorem ff_X11_join {vl : Nat → Nat} {K : Nat} {r0 : Nat} {x1 : Int32} {x2 : Int32} {x3 : Int32} {x4 : Int32} {z : ow_MS} : Fo (fun r => r.2.2) (fun g => r0 + 1001 ≤ g ∧ g ≤ r0 + 1003 ∨ r0 + 4001 ≤ g ∧ g ≤ r0 + 4011 ∨ r0 + 5001 ≤ g ∧ g ≤ r0 + 5010 ∨ r0 + 7004 ≤ g ∧ g ≤ r0 + 7006 ∨ r0 + 8001 ≤ g ∧ g ≤ r0 + 8003 ∨ r0 + 9001 ≤ g ∧ g ≤ r0 + 9003 ∨ r0 + 10001 ≤ g ∧ g ≤ r0 + 10005) z (ce_X11_join vl K r0 x1 x2 x3 x4 z) := by
  unfold ce_X11_join cm_X11_join_0
  exact (fc_tc0 ff_X11_needDiagram (fun g hg => hg.elim) fr_rf (fun k z h_e => (fo_some h_e)) (fun z1 h_z1 => (fo_if (fo_some h_z1) (fc_crI (fun v3 => (fo_if (fc_tc0 ff_X11_needDiagram (fun g hg => hg.elim) h_z1 (fun k z h_e => (fo_some h_e)) (fun z4 h_z4 => (fo_if (fo_some h_z4) (fc_crI (fun v6 => (fo_if (fc_tc0 ff_X11_loadBoth (fun g hg => by omega) h_z4 (fun k z h_e => (fo_some h_e)) (fun z7 h_z7 => (fc_tc1 ff_X11_freeDiagram (fun g hg => hg.elim) h_z7 (fun k z h_e => (fo_some h_e)) (fun v11 z9 h_z9 => (fc_crI (fun v12 => (fo_rdF (fun v13 => (fc_crI (fun v14 => (fo_cs0 ff_X7_append (fun g hg => by omega) h_z9 (fun z15 h_z15 => (fo_cs0 ff_X7_exchange (fun g hg => by omega) h_z15 (fun z16 h_z16 => (fo_cs1 ff_X11_keep (fun g hg => by omega) h_z16 (fun v18 z17 h_z17 => (fo_some h_z17))))))))))))))))) (fo_some h_z4))))))) (fo_some h_z1)))))))
theorem ff_X6_countNumbers {vl : Nat → Nat} {K : Nat} {r0 : Nat} {x1 : Int32} {z : ow_MS} : Fo Prod.snd (fun _ => False) z (ce_X6_countNumbers vl K r0 x1 z) := by
  unfold ce_X6_countNumbers cm_X6_countNumbers_0
  exact (fo_rdF (fun v1 => (fo_if (fo_some fr_rf) (fo_if (fo_rdF (fun v2 => (fo_some fr_rf))) (fo_if (fo_rdF (fun v3 => (fo_if (fo_some fr_rf) (fo_some fr_rf)))) (fo_if (fo_rdF (fun v4 => (fo_rdF (fun v5 => (fo_some fr_rf))))) (fo_if (fo_rdF (fun v6 => (fo_if (fo_some fr_rf) (fo_some fr_rf)))) fo_none)))))))
theorem ff_X4_endOf {vl : Nat → Nat} {K : Nat} {r0 : Nat} {x1 : Int32} {z : ow_MS} : Fo Prod.snd (fun _ => False) z (ce_X4_endOf vl K r0 x1 z) := by
  unfold ce_X4_endOf cm_X4_endOf_0
  exact (fo_if (fc_crI (fun v1 => (fo_some fr_rf))) (fo_some fr_rf))
theorem ff_X6_isOver {vl : Nat → Nat} {K : Nat} {r0 : Nat} {x1 : Int32} {z : ow_MS} : Fo Prod.snd (fun _ => False) z (ce_X6_isOver vl K r0 x1 z) := by
  unfold ce_X6_isOver cm_X6_isOver_0
  exact (fo_if (fc_crI (fun v1 => (fo_if (fo_okZ (fo_some fr_rf)) (fo_okZ (fo_some fr_rf))))) (fo_okZ (fo_some fr_rf)))
theorem fb_X6_isPassable_0 {K : Nat} {vl : Nat → Nat} {z0 z : ow_MS} {pr0 : Nat} {go : Nat → Int32 → Int32 → Int32 → Int32 → Int32 → Int32 → Nat → ow_MS → Option (Int32 × ow_MS)} {x1 : Int32} {x2 : Int32} {x3 : Int32} {x4 : Int32} {x5 : Int32} {x6 : Int32} {r0 : Nat} (hgo : ∀ (L : Nat) (x1 : Int32) (x2 : Int32) (x3 : Int32) (x4 : Int32) (x5 : Int32) (x6 : Int32) (r0 : Nat) (z : ow_MS), fr (fun _ => False) z0 z → (L = 0 ∨ L = 1 → r0 = pr0) → Fo Prod.snd (fun _ => False) z0 (go L x1 x2 x3 x4 x5 x6 r0 z)) (hz : fr (fun _ => False) z0 z) (e_r0 : r0 = pr0) : Fo Prod.snd (fun _ => False) z0 (cm_X6_isPassable_0 vl K go x1 x2 x3 x4 x5 x6 r0 z) := by
  unfold cm_X6_isPassable_0
  exact (fo_cs1 ff_X4_endOf (fun g hg => hg.elim) hz (fun v2 z1 h_z1 => (fo_cs1 ff_X4_endOf (fun g hg => hg.elim) h_z1 (fun v4 z3 h_z3 => (fo_cs1 ff_X4_endOf (fun g hg => hg.elim) h_z3 (fun v6 z5 h_z5 => (fo_if (fo_okZ (fo_some h_z5)) (fo_if (fo_okZ (fo_some h_z5)) (fo_if (fo_okZ (fo_some h_z5)) (fo_cs1 ff_X6_isOver (fun g hg => hg.elim) h_z5 (fun v8 z7 h_z7 => (fo_if (fo_cs1 ff_X6_isOver (fun g hg => hg.elim) h_z7 (fun v10 z9 h_z9 => (fo_if (fo_cs1 ff_X6_isOver (fun g hg => hg.elim) h_z9 (fun v12 z11 h_z11 => (fo_if (fo_okZ (fo_some h_z11)) (hgo 1 _ _ _ _ _ _ _ z11 h_z11 (fun _ => by omega))))) (hgo 1 _ _ _ _ _ _ _ z9 h_z9 (fun _ => by omega))))) (hgo 1 _ _ _ _ _ _ _ z7 h_z7 (fun _ => by omega))))))))))))))
theorem fb_X6_isPassable_1 {K : Nat} {vl : Nat → Nat} {z0 z : ow_MS} {pr0 : Nat} {go : Nat → Int32 → Int32 → Int32 → Int32 → Int32 → Int32 → Nat → ow_MS → Option (Int32 × ow_MS)} {x1 : Int32} {x2 : Int32} {x3 : Int32} {x4 : Int32} {x5 : Int32} {x6 : Int32} {r0 : Nat} (hgo : ∀ (L : Nat) (x1 : Int32) (x2 : Int32) (x3 : Int32) (x4 : Int32) (x5 : Int32) (x6 : Int32) (r0 : Nat) (z : ow_MS), fr (fun _ => False) z0 z → (L = 0 ∨ L = 1 → r0 = pr0) → Fo Prod.snd (fun _ => False) z0 (go L x1 x2 x3 x4 x5 x6 r0 z)) (hz : fr (fun _ => False) z0 z) (e_r0 : r0 = pr0) : Fo Prod.snd (fun _ => False) z0 (cm_X6_isPassable_1 vl K go x1 x2 x3 x4 x5 x6 r0 z) := by
  unfold cm_X6_isPassable_1
  exact (fo_okZ (fo_some hz))
theorem fq_X6_isPassable {K : Nat} {vl : Nat → Nat} {z0 : ow_MS} {pr0 : Nat} : ∀ (k L : Nat) (x1 : Int32) (x2 : Int32) (x3 : Int32) (x4 : Int32) (x5 : Int32) (x6 : Int32) (r0 : Nat) (z : ow_MS), fr (fun _ => False) z0 z → (L = 0 ∨ L = 1 → r0 = pr0) → Fo Prod.snd (fun _ => False) z0 (c_X6_isPassable vl K k L x1 x2 x3 x4 x5 x6 r0 z)
  | 0 => by
    intros
    exact fo_none
  | k + 1 => by
    intro L x1 x2 x3 x4 x5 x6 r0 z hz h9_r0
    show Fo Prod.snd (fun _ => False) z0 (cb_X6_isPassable vl K (c_X6_isPassable vl K k) L x1 x2 x3 x4 x5 x6 r0 z)
    unfold cb_X6_isPassable
    split
    · exact fb_X6_isPassable_0 (fq_X6_isPassable k) hz (h9_r0 (by decide))
    · exact fb_X6_isPassable_1 (fq_X6_isPassable k) hz (h9_r0 (by decide))
    · exact fo_none
theorem ff_X6_isPassable {vl : Nat → Nat} {K : Nat} {r0 : Nat} {x1 : Int32} {x2 : Int32} {x3 : Int32} {z : ow_MS} : Fo Prod.snd (fun _ => False) z (ce_X6_isPassable vl K r0 x1 x2 x3 z) := fq_X6_isPassable (pr0 := r0) K 0 _ _ _ _ _ _ _ z fr_rf (fun _ => rfl)
theorem ff_X7_copy {vl : Nat → Nat} {K : Nat} {r0 : Nat} {r1 : Nat} {z : ow_MS} : Fo id (fun g => r0 + 1 ≤ g ∧ g ≤ r0 + 9) z (ce_X7_copy vl K r0 r1 z) := by
  unfold ce_X7_copy cm_X7_copy_0
  exact (fo_rdF (fun v1 => (fo_wrF (by omega) fr_rf (fun z2 h_z2 => (fo_rdF (fun v3 => (fo_wrF (by omega) h_z2 (fun z4 h_z4 => (fo_rdF (fun v5 => (fc_cpI (by omega) h_z4 (fun z6 h_z6 => (fo_rdF (fun v7 => (fc_cpI (by omega) h_z6 (fun z8 h_z8 => (fo_rdF (fun v9 => (fc_cpI (by omega) h_z8 (fun z10 h_z10 => (fo_some h_z10)))))))))))))))))))))
theorem ff_X6_threePass {vl : Nat → Nat} {K : Nat} {r0 : Nat} {x1 : Int32} {z : ow_MS} : Fo Prod.snd (fun g => r0 + 5001 ≤ g ∧ g ≤ r0 + 5009) z (ce_X6_threePass vl K r0 x1 z) := by
  unfold ce_X6_threePass cm_X6_threePass_0
  exact (fo_cs1 ff_X4_onward (fun g hg => hg.elim) fr_rf (fun v2 z1 h_z1 => (fo_cs1 ff_X4_onward (fun g hg => hg.elim) h_z1 (fun v4 z3 h_z3 => (fo_if (fo_okZ (fo_some h_z3)) (fo_if (fo_okZ (fo_some h_z3)) (fo_cs1 ff_X4_onward (fun g hg => hg.elim) h_z3 (fun v6 z5 h_z5 => (fo_if (fo_cs1 ff_X6_isPassable (fun g hg => hg.elim) h_z5 (fun v8 z7 h_z7 => (fo_if (fo_okZ (fo_some h_z7)) (fo_cs0 ff_X7_copy (fun g hg => by omega) h_z7 (fun z9 h_z9 => (fc_crI (fun v10 => (fo_cs0 ff_X7_swapPlaces (fun g hg => by omega) h_z9 (fun z11 h_z11 => (fc_crI (fun v12 => (fo_cs0 ff_X7_swapPlaces (fun g hg => by omega) h_z11 (fun z13 h_z13 => (fc_crI (fun v14 => (fo_cs0 ff_X7_swapPlaces (fun g hg => by omega) h_z13 (fun z15 h_z15 => (fo_okZ (fo_some h_z15))))))))))))))))))) (fo_okZ (fo_some h_z5)))))))))))
theorem fb_X6_isBeside_0 {K : Nat} {vl : Nat → Nat} {z0 z : ow_MS} {pr0 : Nat} {go : Nat → Int32 → Int32 → Nat → ow_MS → Option (Int32 × ow_MS)} {x1 : Int32} {x2 : Int32} {r0 : Nat} (hgo : ∀ (L : Nat) (x1 : Int32) (x2 : Int32) (r0 : Nat) (z : ow_MS), fr (fun _ => False) z0 z → (L = 0 ∨ L = 1 → r0 = pr0) → Fo Prod.snd (fun _ => False) z0 (go L x1 x2 r0 z)) (hz : fr (fun _ => False) z0 z) (e_r0 : r0 = pr0) : Fo Prod.snd (fun _ => False) z0 (cm_X6_isBeside_0 vl K go x1 x2 r0 z) := by
  unfold cm_X6_isBeside_0
  exact (fc_crI (fun v1 => (fo_if (hgo 1 _ _ _ z hz (fun _ => by omega)) (fc_crI (fun v2 => (fo_if (hgo 1 _ _ _ z hz (fun _ => by omega)) (fo_okZ (fo_some hz))))))))
theorem fb_X6_isBeside_1 {K : Nat} {vl : Nat → Nat} {z0 z : ow_MS} {pr0 : Nat} {go : Nat → Int32 → Int32 → Nat → ow_MS → Option (Int32 × ow_MS)} {x1 : Int32} {x2 : Int32} {r0 : Nat} (hgo : ∀ (L : Nat) (x1 : Int32) (x2 : Int32) (r0 : Nat) (z : ow_MS), fr (fun _ => False) z0 z → (L = 0 ∨ L = 1 → r0 = pr0) → Fo Prod.snd (fun _ => False) z0 (go L x1 x2 r0 z)) (hz : fr (fun _ => False) z0 z) (e_r0 : r0 = pr0) : Fo Prod.snd (fun _ => False) z0 (cm_X6_isBeside_1 vl K go x1 x2 r0 z) := by
  unfold cm_X6_isBeside_1
  exact (fo_okZ (fo_some hz))
theorem fq_X6_isBeside {K : Nat} {vl : Nat → Nat} {z0 : ow_MS} {pr0 : Nat} : ∀ (k L : Nat) (x1 : Int32) (x2 : Int32) (r0 : Nat) (z : ow_MS), fr (fun _ => False) z0 z → (L = 0 ∨ L = 1 → r0 = pr0) → Fo Prod.snd (fun _ => False) z0 (c_X6_isBeside vl K k L x1 x2 r0 z)
  | 0 => by
    intros
    exact fo_none
  | k + 1 => by
    intro L x1 x2 r0 z hz h9_r0
    show Fo Prod.snd (fun _ => False) z0 (cb_X6_isBeside vl K (c_X6_isBeside vl K k) L x1 x2 r0 z)
    unfold cb_X6_isBeside
    split
    · exact fb_X6_isBeside_0 (fq_X6_isBeside k) hz (h9_r0 (by decide))
    · exact fb_X6_isBeside_1 (fq_X6_isBeside k) hz (h9_r0 (by decide))
    · exact fo_none
theorem ff_X6_isBeside {vl : Nat → Nat} {K : Nat} {r0 : Nat} {x1 : Int32} {x2 : Int32} {z : ow_MS} : Fo Prod.snd (fun _ => False) z (ce_X6_isBeside vl K r0 x1 x2 z) := fq_X6_isBeside (pr0 := r0) K 0 _ _ _ z fr_rf (fun _ => rfl)
theorem ff_X6_isLoop {vl : Nat → Nat} {K : Nat} {r0 : Nat} {x1 : Int32} {z : ow_MS} : Fo Prod.snd (fun _ => False) z (ce_X6_isLoop vl K r0 x1 z) := by
  unfold ce_X6_isLoop cm_X6_isLoop_0
  exact (fo_cs1 ff_X6_isBeside (fun g hg => hg.elim) fr_rf (fun v2 z1 h_z1 => (fo_okZ (fo_some h_z1))))
theorem ff_X6_oneGoes {vl : Nat → Nat} {K : Nat} {r0 : Nat} {x1 : Int32} {z : ow_MS} : Fo Prod.snd (fun g => r0 + 5001 ≤ g ∧ g ≤ r0 + 5009) z (ce_X6_oneGoes vl K r0 x1 z) := by
  unfold ce_X6_oneGoes cm_X6_oneGoes_0
  exact (fo_cs1 ff_X6_isLoop (fun g hg => hg.elim) fr_rf (fun v2 z1 h_z1 => (fo_if (fo_okZ (fo_some h_z1)) (fo_cs0 ff_X7_copy (fun g hg => by omega) h_z1 (fun z3 h_z3 => (fo_cs0 ff_X7_removeCrossing (fun g hg => by omega) h_z3 (fun z4 h_z4 => (fo_okZ (fo_some h_z4)))))))))
theorem ff_X7_openCircle {vl : Nat → Nat} {K : Nat} {r0 : Nat} {x1 : Int32} {z : ow_MS} : Fo id (fun g => r0 + 1 ≤ g ∧ g ≤ r0 + 9) z (ce_X7_openCircle vl K r0 x1 z) := by
  unfold ce_X7_openCircle cm_X7_openCircle_0
  exact (fo_rdF (fun v1 => (fo_wrF (by omega) fr_rf (fun z2 h_z2 => (fo_cs0 ff_X7_link (fun g hg => by omega) h_z2 (fun z3 h_z3 => (fo_some h_z3)))))))
theorem ff_X7_putBehind {vl : Nat → Nat} {K : Nat} {r0 : Nat} {x1 : Int32} {x2 : Int32} {z : ow_MS} : Fo id (fun g => r0 + 1 ≤ g ∧ g ≤ r0 + 2) z (ce_X7_putBehind vl K r0 x1 x2 z) := by
  unfold ce_X7_putBehind cm_X7_putBehind_0
  exact (fc_crI (fun v1 => (fo_cs0 ff_X7_link (fun g hg => by omega) fr_rf (fun z2 h_z2 => (fo_cs0 ff_X7_link (fun g hg => by omega) h_z2 (fun z3 h_z3 => (fo_some h_z3)))))))
