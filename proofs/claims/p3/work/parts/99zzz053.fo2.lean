section
/-! 99zzzzzzzzzzzzic.fo2 -/
/-! frames of the reference, on -/
theorem fb_X13_isParted_0 {K : Nat} {z0 z : ow_MS}  {go : Nat → Int32 → Int32 → Int32 → Int32 → Int32 → Int32 → Int32 → Nat → Int32 → Int32 → ow_MS → Option (Int32 × ow_MS)} {x2 : Int32} {x3 : Int32} {x4 : Int32} {x5 : Int32} {x6 : Int32} {x7 : Int32} {x8 : Int32} {r1 : Nat} {t0 : Int32} {t1 : Int32}  (hgo : ∀ (L : Nat) (x2 : Int32) (x3 : Int32) (x4 : Int32) (x5 : Int32) (x6 : Int32) (x7 : Int32) (x8 : Int32) (r1 : Nat) (t0 : Int32) (t1 : Int32) (z : ow_MS), fr (pf [38] []) z0 z → (L = 0 ∨ L = 1 ∨ L = 2 ∨ L = 3 ∨ L = 4 ∨ L = 5 ∨ L = 6 ∨ L = 7 → 1000 ≤ r1) → Fo Prod.snd (pf [38] []) z0 (go L x2 x3 x4 x5 x6 x7 x8 r1 t0 t1 z)) (hz : fr (pf [38] []) z0 z) (hr1 : 1000 ≤ r1) : Fo Prod.snd (pf [38] []) z0 (qm_X13_isParted_0 K go x2 x3 x4 x5 x6 x7 x8 r1 t0 t1 z) := by
  unfold qm_X13_isParted_0
  exact (hgo 1 _ _ _ _ _ _ _ _ _ _ z hz (fun _ => (by first | omega | decide)))
theorem fb_X13_isParted_1 {K : Nat} {z0 z : ow_MS}  {go : Nat → Int32 → Int32 → Int32 → Int32 → Int32 → Int32 → Int32 → Nat → Int32 → Int32 → ow_MS → Option (Int32 × ow_MS)} {x2 : Int32} {x3 : Int32} {x4 : Int32} {x5 : Int32} {x6 : Int32} {x7 : Int32} {x8 : Int32} {r1 : Nat} {t0 : Int32} {t1 : Int32}  (hgo : ∀ (L : Nat) (x2 : Int32) (x3 : Int32) (x4 : Int32) (x5 : Int32) (x6 : Int32) (x7 : Int32) (x8 : Int32) (r1 : Nat) (t0 : Int32) (t1 : Int32) (z : ow_MS), fr (pf [38] []) z0 z → (L = 0 ∨ L = 1 ∨ L = 2 ∨ L = 3 ∨ L = 4 ∨ L = 5 ∨ L = 6 ∨ L = 7 → 1000 ≤ r1) → Fo Prod.snd (pf [38] []) z0 (go L x2 x3 x4 x5 x6 x7 x8 r1 t0 t1 z)) (hz : fr (pf [38] []) z0 z) (hr1 : 1000 ≤ r1) : Fo Prod.snd (pf [38] []) z0 (qm_X13_isParted_1 K go x2 x3 x4 x5 x6 x7 x8 r1 t0 t1 z) := by
  unfold qm_X13_isParted_1
  exact (fo_rdF (fun v1 => (fo_if (hgo 4 _ _ _ _ _ _ _ _ _ _ z hz (fun _ => (by first | omega | decide))) (fo_if (hgo 2 _ _ _ _ _ _ _ _ _ _ z hz (fun _ => (by first | omega | decide))) (fo_if (hgo 2 _ _ _ _ _ _ _ _ _ _ z hz (fun _ => (by first | omega | decide))) (hgo 3 _ _ _ _ _ _ _ _ _ _ z hz (fun _ => (by first | omega | decide))))))))
theorem fb_X13_isParted_2 {K : Nat} {z0 z : ow_MS}  {go : Nat → Int32 → Int32 → Int32 → Int32 → Int32 → Int32 → Int32 → Nat → Int32 → Int32 → ow_MS → Option (Int32 × ow_MS)} {x2 : Int32} {x3 : Int32} {x4 : Int32} {x5 : Int32} {x6 : Int32} {x7 : Int32} {x8 : Int32} {r1 : Nat} {t0 : Int32} {t1 : Int32}  (hgo : ∀ (L : Nat) (x2 : Int32) (x3 : Int32) (x4 : Int32) (x5 : Int32) (x6 : Int32) (x7 : Int32) (x8 : Int32) (r1 : Nat) (t0 : Int32) (t1 : Int32) (z : ow_MS), fr (pf [38] []) z0 z → (L = 0 ∨ L = 1 ∨ L = 2 ∨ L = 3 ∨ L = 4 ∨ L = 5 ∨ L = 6 ∨ L = 7 → 1000 ≤ r1) → Fo Prod.snd (pf [38] []) z0 (go L x2 x3 x4 x5 x6 x7 x8 r1 t0 t1 z)) (hz : fr (pf [38] []) z0 z) (hr1 : 1000 ≤ r1) : Fo Prod.snd (pf [38] []) z0 (qm_X13_isParted_2 K go x2 x3 x4 x5 x6 x7 x8 r1 t0 t1 z) := by
  unfold qm_X13_isParted_2
  exact (hgo 3 _ _ _ _ _ _ _ _ _ _ z hz (fun _ => (by first | omega | decide)))
theorem fb_X13_isParted_3 {K : Nat} {z0 z : ow_MS}  {go : Nat → Int32 → Int32 → Int32 → Int32 → Int32 → Int32 → Int32 → Nat → Int32 → Int32 → ow_MS → Option (Int32 × ow_MS)} {x2 : Int32} {x3 : Int32} {x4 : Int32} {x5 : Int32} {x6 : Int32} {x7 : Int32} {x8 : Int32} {r1 : Nat} {t0 : Int32} {t1 : Int32}  (hgo : ∀ (L : Nat) (x2 : Int32) (x3 : Int32) (x4 : Int32) (x5 : Int32) (x6 : Int32) (x7 : Int32) (x8 : Int32) (r1 : Nat) (t0 : Int32) (t1 : Int32) (z : ow_MS), fr (pf [38] []) z0 z → (L = 0 ∨ L = 1 ∨ L = 2 ∨ L = 3 ∨ L = 4 ∨ L = 5 ∨ L = 6 ∨ L = 7 → 1000 ≤ r1) → Fo Prod.snd (pf [38] []) z0 (go L x2 x3 x4 x5 x6 x7 x8 r1 t0 t1 z)) (hz : fr (pf [38] []) z0 z) (hr1 : 1000 ≤ r1) : Fo Prod.snd (pf [38] []) z0 (qm_X13_isParted_3 K go x2 x3 x4 x5 x6 x7 x8 r1 t0 t1 z) := by
  unfold qm_X13_isParted_3
  exact (fo_wrZ (Or.inl (by decide)) hz (fun z2 h_z2 => (hgo 1 _ _ _ _ _ _ _ _ _ _ z2 h_z2 (fun _ => (by first | omega | decide)))))
theorem fb_X13_isParted_4 {K : Nat} {z0 z : ow_MS}  {go : Nat → Int32 → Int32 → Int32 → Int32 → Int32 → Int32 → Int32 → Nat → Int32 → Int32 → ow_MS → Option (Int32 × ow_MS)} {x2 : Int32} {x3 : Int32} {x4 : Int32} {x5 : Int32} {x6 : Int32} {x7 : Int32} {x8 : Int32} {r1 : Nat} {t0 : Int32} {t1 : Int32}  (hgo : ∀ (L : Nat) (x2 : Int32) (x3 : Int32) (x4 : Int32) (x5 : Int32) (x6 : Int32) (x7 : Int32) (x8 : Int32) (r1 : Nat) (t0 : Int32) (t1 : Int32) (z : ow_MS), fr (pf [38] []) z0 z → (L = 0 ∨ L = 1 ∨ L = 2 ∨ L = 3 ∨ L = 4 ∨ L = 5 ∨ L = 6 ∨ L = 7 → 1000 ≤ r1) → Fo Prod.snd (pf [38] []) z0 (go L x2 x3 x4 x5 x6 x7 x8 r1 t0 t1 z)) (hz : fr (pf [38] []) z0 z) (hr1 : 1000 ≤ r1) : Fo Prod.snd (pf [38] []) z0 (qm_X13_isParted_4 K go x2 x3 x4 x5 x6 x7 x8 r1 t0 t1 z) := by
  unfold qm_X13_isParted_4
  exact (fo_if (fo_okZ (fo_some hz)) (hgo 5 _ _ _ _ _ _ _ _ _ _ z hz (fun _ => (by first | omega | decide))))
theorem fb_X13_isParted_5 {K : Nat} {z0 z : ow_MS}  {go : Nat → Int32 → Int32 → Int32 → Int32 → Int32 → Int32 → Int32 → Nat → Int32 → Int32 → ow_MS → Option (Int32 × ow_MS)} {x2 : Int32} {x3 : Int32} {x4 : Int32} {x5 : Int32} {x6 : Int32} {x7 : Int32} {x8 : Int32} {r1 : Nat} {t0 : Int32} {t1 : Int32}  (hgo : ∀ (L : Nat) (x2 : Int32) (x3 : Int32) (x4 : Int32) (x5 : Int32) (x6 : Int32) (x7 : Int32) (x8 : Int32) (r1 : Nat) (t0 : Int32) (t1 : Int32) (z : ow_MS), fr (pf [38] []) z0 z → (L = 0 ∨ L = 1 ∨ L = 2 ∨ L = 3 ∨ L = 4 ∨ L = 5 ∨ L = 6 ∨ L = 7 → 1000 ≤ r1) → Fo Prod.snd (pf [38] []) z0 (go L x2 x3 x4 x5 x6 x7 x8 r1 t0 t1 z)) (hz : fr (pf [38] []) z0 z) (hr1 : 1000 ≤ r1) : Fo Prod.snd (pf [38] []) z0 (qm_X13_isParted_5 K go x2 x3 x4 x5 x6 x7 x8 r1 t0 t1 z) := by
  unfold qm_X13_isParted_5
  exact (fo_rdF (fun v3 => (fo_if (hgo 4 _ _ _ _ _ _ _ _ _ _ z hz (fun _ => (by first | omega | decide))) (fo_rdI (fun v4 => (fo_if (hgo 7 _ _ _ _ _ _ _ _ _ _ z hz (fun _ => (by first | omega | decide))) (fo_rdI (fun v5 => (fo_rdI (fun v6 => (fo_if (fo_rdI (fun v7 => (fo_rdI (fun v8 => (fo_if (fo_okZ (fo_some hz)) (fo_rdI (fun v9 => (hgo 6 _ _ _ _ _ _ _ _ _ _ z hz (fun _ => (by first | omega | decide)))))))))) (hgo 7 _ _ _ _ _ _ _ _ _ _ z hz (fun _ => (by first | omega | decide))))))))))))))
theorem fb_X13_isParted_6 {K : Nat} {z0 z : ow_MS}  {go : Nat → Int32 → Int32 → Int32 → Int32 → Int32 → Int32 → Int32 → Nat → Int32 → Int32 → ow_MS → Option (Int32 × ow_MS)} {x2 : Int32} {x3 : Int32} {x4 : Int32} {x5 : Int32} {x6 : Int32} {x7 : Int32} {x8 : Int32} {r1 : Nat} {t0 : Int32} {t1 : Int32}  (hgo : ∀ (L : Nat) (x2 : Int32) (x3 : Int32) (x4 : Int32) (x5 : Int32) (x6 : Int32) (x7 : Int32) (x8 : Int32) (r1 : Nat) (t0 : Int32) (t1 : Int32) (z : ow_MS), fr (pf [38] []) z0 z → (L = 0 ∨ L = 1 ∨ L = 2 ∨ L = 3 ∨ L = 4 ∨ L = 5 ∨ L = 6 ∨ L = 7 → 1000 ≤ r1) → Fo Prod.snd (pf [38] []) z0 (go L x2 x3 x4 x5 x6 x7 x8 r1 t0 t1 z)) (hz : fr (pf [38] []) z0 z) (hr1 : 1000 ≤ r1) : Fo Prod.snd (pf [38] []) z0 (qm_X13_isParted_6 K go x2 x3 x4 x5 x6 x7 x8 r1 t0 t1 z) := by
  unfold qm_X13_isParted_6
  exact (fo_rdI (fun v10 => (fo_if (hgo 7 _ _ _ _ _ _ _ _ _ _ z hz (fun _ => (by first | omega | decide))) (fo_wrZ (Or.inl (by decide)) hz (fun z11 h_z11 => (hgo 6 _ _ _ _ _ _ _ _ _ _ z11 h_z11 (fun _ => (by first | omega | decide))))))))
theorem fb_X13_isParted_7 {K : Nat} {z0 z : ow_MS}  {go : Nat → Int32 → Int32 → Int32 → Int32 → Int32 → Int32 → Int32 → Nat → Int32 → Int32 → ow_MS → Option (Int32 × ow_MS)} {x2 : Int32} {x3 : Int32} {x4 : Int32} {x5 : Int32} {x6 : Int32} {x7 : Int32} {x8 : Int32} {r1 : Nat} {t0 : Int32} {t1 : Int32}  (hgo : ∀ (L : Nat) (x2 : Int32) (x3 : Int32) (x4 : Int32) (x5 : Int32) (x6 : Int32) (x7 : Int32) (x8 : Int32) (r1 : Nat) (t0 : Int32) (t1 : Int32) (z : ow_MS), fr (pf [38] []) z0 z → (L = 0 ∨ L = 1 ∨ L = 2 ∨ L = 3 ∨ L = 4 ∨ L = 5 ∨ L = 6 ∨ L = 7 → 1000 ≤ r1) → Fo Prod.snd (pf [38] []) z0 (go L x2 x3 x4 x5 x6 x7 x8 r1 t0 t1 z)) (hz : fr (pf [38] []) z0 z) (hr1 : 1000 ≤ r1) : Fo Prod.snd (pf [38] []) z0 (qm_X13_isParted_7 K go x2 x3 x4 x5 x6 x7 x8 r1 t0 t1 z) := by
  unfold qm_X13_isParted_7
  exact (hgo 5 _ _ _ _ _ _ _ _ _ _ z hz (fun _ => (by first | omega | decide)))
theorem fq_X13_isParted {K : Nat} {z0 : ow_MS}   : ∀ (k L : Nat) (x2 : Int32) (x3 : Int32) (x4 : Int32) (x5 : Int32) (x6 : Int32) (x7 : Int32) (x8 : Int32) (r1 : Nat) (t0 : Int32) (t1 : Int32) (z : ow_MS), fr (pf [38] []) z0 z → (L = 0 ∨ L = 1 ∨ L = 2 ∨ L = 3 ∨ L = 4 ∨ L = 5 ∨ L = 6 ∨ L = 7 → 1000 ≤ r1) → Fo Prod.snd (pf [38] []) z0 (q_X13_isParted K k L x2 x3 x4 x5 x6 x7 x8 r1 t0 t1 z)
  | 0 => by
    intros
    exact fo_none
  | k + 1 => by
    intro L x2 x3 x4 x5 x6 x7 x8 r1 t0 t1 z hz h9_r1
    show Fo Prod.snd (pf [38] []) z0 (qb_X13_isParted K (q_X13_isParted K k) L x2 x3 x4 x5 x6 x7 x8 r1 t0 t1 z)
    unfold qb_X13_isParted
    split
    · exact fb_X13_isParted_0 (fq_X13_isParted k) hz (h9_r1 (by decide))
    · exact fb_X13_isParted_1 (fq_X13_isParted k) hz (h9_r1 (by decide))
    · exact fb_X13_isParted_2 (fq_X13_isParted k) hz (h9_r1 (by decide))
    · exact fb_X13_isParted_3 (fq_X13_isParted k) hz (h9_r1 (by decide))
    · exact fb_X13_isParted_4 (fq_X13_isParted k) hz (h9_r1 (by decide))
    · exact fb_X13_isParted_5 (fq_X13_isParted k) hz (h9_r1 (by decide))
    · exact fb_X13_isParted_6 (fq_X13_isParted k) hz (h9_r1 (by decide))
    · exact fb_X13_isParted_7 (fq_X13_isParted k) hz (h9_r1 (by decide))
    · exact fo_none
theorem ff_X13_isParted {K : Nat} {r1 : Nat} {x2 : Int32} {x3 : Int32} {x4 : Int32} {z : ow_MS} (hr1 : 1000 ≤ r1) : Fo Prod.snd (pf [38] []) z (qe_X13_isParted K r1 x2 x3 x4 z) := fq_X13_isParted K 0 _ _ _ _ _ _ _ _ _ _ z fr_rf (fun _ => (by first | omega | decide))
theorem fb_X13_addSummand_0 {K : Nat} {z0 z : ow_MS}  {go : Nat → Int32 → Int32 → ow_MS → Option ow_MS} {x1 : Int32} {x2 : Int32}  (hgo : ∀ (L : Nat) (x1 : Int32) (x2 : Int32) (z : ow_MS), fr (pf [35, 36, 39] []) z0 z → Fo id (pf [35, 36, 39] []) z0 (go L x1 x2 z)) (hz : fr (pf [35, 36, 39] []) z0 z)  : Fo id (pf [35, 36, 39] []) z0 (qm_X13_addSummand_0 K go x1 x2 z) := by
  unfold qm_X13_addSummand_0
  exact (hgo 1 _ _ z hz)
theorem fb_X13_addSummand_1 {K : Nat} {z0 z : ow_MS}  {go : Nat → Int32 → Int32 → ow_MS → Option ow_MS} {x1 : Int32} {x2 : Int32}  (hgo : ∀ (L : Nat) (x1 : Int32) (x2 : Int32) (z : ow_MS), fr (pf [35, 36, 39] []) z0 z → Fo id (pf [35, 36, 39] []) z0 (go L x1 x2 z)) (hz : fr (pf [35, 36, 39] []) z0 z)  : Fo id (pf [35, 36, 39] []) z0 (qm_X13_addSummand_1 K go x1 x2 z) := by
  unfold qm_X13_addSummand_1
  exact (fo_rdI (fun v1 => (fo_if (fo_rdF (fun v2 => (hgo 2 _ _ z hz))) (fo_rdF (fun v3 => (fo_rdI (fun v4 => (fo_wrI (Or.inl (by decide)) hz (fun z5 h_z5 => (hgo 1 _ _ z5 h_z5))))))))))
theorem fb_X13_addSummand_2 {K : Nat} {z0 z : ow_MS}  {go : Nat → Int32 → Int32 → ow_MS → Option ow_MS} {x1 : Int32} {x2 : Int32}  (hgo : ∀ (L : Nat) (x1 : Int32) (x2 : Int32) (z : ow_MS), fr (pf [35, 36, 39] []) z0 z → Fo id (pf [35, 36, 39] []) z0 (go L x1 x2 z)) (hz : fr (pf [35, 36, 39] []) z0 z)  : Fo id (pf [35, 36, 39] []) z0 (qm_X13_addSummand_2 K go x1 x2 z) := by
  unfold qm_X13_addSummand_2
  exact (fo_if (hgo 3 _ _ z hz) (fo_rdF (fun v6 => (fo_rdI (fun v7 => (fo_cs1 (ff_X13_isLesser) (pf_sub (by decide) pf_0) hz (fun v9 z8 h_z8 => (fo_if (hgo 3 _ _ z8 h_z8) (fo_rdI (fun v10 => (fo_wrI (Or.inl (by decide)) h_z8 (fun z11 h_z11 => (hgo 2 _ _ z11 h_z11)))))))))))))
theorem fb_X13_addSummand_3 {K : Nat} {z0 z : ow_MS}  {go : Nat → Int32 → Int32 → ow_MS → Option ow_MS} {x1 : Int32} {x2 : Int32}  (hgo : ∀ (L : Nat) (x1 : Int32) (x2 : Int32) (z : ow_MS), fr (pf [35, 36, 39] []) z0 z → Fo id (pf [35, 36, 39] []) z0 (go L x1 x2 z)) (hz : fr (pf [35, 36, 39] []) z0 z)  : Fo id (pf [35, 36, 39] []) z0 (qm_X13_addSummand_3 K go x1 x2 z) := by
  unfold qm_X13_addSummand_3
  exact (fo_rdF (fun v12 => (fo_wrI (Or.inl (by decide)) hz (fun z13 h_z13 => (fo_rdF (fun v14 => (fo_wrF (Or.inl (by decide)) h_z13 (fun z15 h_z15 => (fo_some h_z15)))))))))
theorem fq_X13_addSummand {K : Nat} {z0 : ow_MS}   : ∀ (k L : Nat) (x1 : Int32) (x2 : Int32) (z : ow_MS), fr (pf [35, 36, 39] []) z0 z → Fo id (pf [35, 36, 39] []) z0 (q_X13_addSummand K k L x1 x2 z)
  | 0 => by
    intros
    exact fo_none
  | k + 1 => by
    intro L x1 x2 z hz 
    show Fo id (pf [35, 36, 39] []) z0 (qb_X13_addSummand K (q_X13_addSummand K k) L x1 x2 z)
    unfold qb_X13_addSummand
    split
    · exact fb_X13_addSummand_0 (fq_X13_addSummand k) hz 
    · exact fb_X13_addSummand_1 (fq_X13_addSummand k) hz 
    · exact fb_X13_addSummand_2 (fq_X13_addSummand k) hz 
    · exact fb_X13_addSummand_3 (fq_X13_addSummand k) hz 
    · exact fo_none
theorem ff_X13_addSummand {K : Nat} {x1 : Int32} {z : ow_MS}  : Fo id (pf [35, 36, 39] []) z (qe_X13_addSummand K x1 z) := fq_X13_addSummand K 0 _ _ z fr_rf 
theorem fb_X13_summands_0 {K : Nat} {z0 z : ow_MS}  {go : Nat → Int32 → Int32 → Int32 → Int32 → Int32 → Int32 → Int32 → Int32 → ow_MS → Option (Int32 × ow_MS)} {x1 : Int32} {x2 : Int32} {x3 : Int32} {x4 : Int32} {x5 : Int32} {x6 : Int32} {t0 : Int32} {t1 : Int32}  (hgo : ∀ (L : Nat) (x1 : Int32) (x2 : Int32) (x3 : Int32) (x4 : Int32) (x5 : Int32) (x6 : Int32) (t0 : Int32) (t1 : Int32) (z : ow_MS), fr (pf [1, 2, 3, 4, 5, 6, 7, 8, 9, 35, 36, 37, 38, 39] []) z0 z → Fo Prod.snd (pf [1, 2, 3, 4, 5, 6, 7, 8, 9, 35, 36, 37, 38, 39] []) z0 (go L x1 x2 x3 x4 x5 x6 t0 t1 z)) (hz : fr (pf [1, 2, 3, 4, 5, 6, 7, 8, 9, 35, 36, 37, 38, 39] []) z0 z)  : Fo Prod.snd (pf [1, 2, 3, 4, 5, 6, 7, 8, 9, 35, 36, 37, 38, 39] []) z0 (qm_X13_summands_0 K go x1 x2 x3 x4 x5 x6 t0 t1 z) := by
  unfold qm_X13_summands_0
  exact (fo_wrF (Or.inl (by decide)) hz (fun z1 h_z1 => (fo_cs1 (ff_X13_has) (pf_sub (by decide) pf_0) h_z1 (fun v3 z2 h_z2 => (fo_if (fo_cs1 (ff_X13_fails) (pf_sub (by decide) pf_0) h_z2 (fun v7 z6 h_z6 => (fo_some h_z6))) (fo_cs0 (ff_X13_open (by first | omega | decide)) (pf_sub (by decide) pf_0) h_z2 (fun z4 h_z4 => (fo_cs0 (ff_X12_split (by first | omega | decide)) (pf_sub (by decide) pf_0) h_z4 (fun z5 h_z5 => (hgo 1 _ _ _ _ _ _ _ _ z5 h_z5))))))))))
theorem fb_X13_summands_1 {K : Nat} {z0 z : ow_MS}  {go : Nat → Int32 → Int32 → Int32 → Int32 → Int32 → Int32 → Int32 → Int32 → ow_MS → Option (Int32 × ow_MS)} {x1 : Int32} {x2 : Int32} {x3 : Int32} {x4 : Int32} {x5 : Int32} {x6 : Int32} {t0 : Int32} {t1 : Int32}  (hgo : ∀ (L : Nat) (x1 : Int32) (x2 : Int32) (x3 : Int32) (x4 : Int32) (x5 : Int32) (x6 : Int32) (t0 : Int32) (t1 : Int32) (z : ow_MS), fr (pf [1, 2, 3, 4, 5, 6, 7, 8, 9, 35, 36, 37, 38, 39] []) z0 z → Fo Prod.snd (pf [1, 2, 3, 4, 5, 6, 7, 8, 9, 35, 36, 37, 38, 39] []) z0 (go L x1 x2 x3 x4 x5 x6 t0 t1 z)) (hz : fr (pf [1, 2, 3, 4, 5, 6, 7, 8, 9, 35, 36, 37, 38, 39] []) z0 z)  : Fo Prod.snd (pf [1, 2, 3, 4, 5, 6, 7, 8, 9, 35, 36, 37, 38, 39] []) z0 (qm_X13_summands_1 K go x1 x2 x3 x4 x5 x6 t0 t1 z) := by
  unfold qm_X13_summands_1
  exact (fo_rdF (fun v8 => (fo_if (fo_wrF (Or.inl (by decide)) hz (fun z9 h_z9 => (hgo 5 _ _ _ _ _ _ _ _ z9 h_z9))) (hgo 2 _ _ _ _ _ _ _ _ z hz))))
theorem fb_X13_summands_2 {K : Nat} {z0 z : ow_MS}  {go : Nat → Int32 → Int32 → Int32 → Int32 → Int32 → Int32 → Int32 → Int32 → ow_MS → Option (Int32 × ow_MS)} {x1 : Int32} {x2 : Int32} {x3 : Int32} {x4 : Int32} {x5 : Int32} {x6 : Int32} {t0 : Int32} {t1 : Int32}  (hgo : ∀ (L : Nat) (x1 : Int32) (x2 : Int32) (x3 : Int32) (x4 : Int32) (x5 : Int32) (x6 : Int32) (t0 : Int32) (t1 : Int32) (z : ow_MS), fr (pf [1, 2, 3, 4, 5, 6, 7, 8, 9, 35, 36, 37, 38, 39] []) z0 z → Fo Prod.snd (pf [1, 2, 3, 4, 5, 6, 7, 8, 9, 35, 36, 37, 38, 39] []) z0 (go L x1 x2 x3 x4 x5 x6 t0 t1 z)) (hz : fr (pf [1, 2, 3, 4, 5, 6, 7, 8, 9, 35, 36, 37, 38, 39] []) z0 z)  : Fo Prod.snd (pf [1, 2, 3, 4, 5, 6, 7, 8, 9, 35, 36, 37, 38, 39] []) z0 (qm_X13_summands_2 K go x1 x2 x3 x4 x5 x6 t0 t1 z) := by
  unfold qm_X13_summands_2
  exact (fo_rdF (fun v10 => (fo_if (fo_if (hgo 4 _ _ _ _ _ _ _ _ z hz) (fo_cs0 (ff_X13_waitsFor (by first | omega | decide)) (pf_sub (by decide) pf_0) hz (fun z11 h_z11 => (hgo 4 _ _ _ _ _ _ _ _ z11 h_z11)))) (fo_rdI (fun v12 => (fo_rdI (fun v13 => (fo_if (hgo 3 _ _ _ _ _ _ _ _ z hz) (hgo 3 _ _ _ _ _ _ _ _ z hz)))))))))
theorem fb_X13_summands_3 {K : Nat} {z0 z : ow_MS}  {go : Nat → Int32 → Int32 → Int32 → Int32 → Int32 → Int32 → Int32 → Int32 → ow_MS → Option (Int32 × ow_MS)} {x1 : Int32} {x2 : Int32} {x3 : Int32} {x4 : Int32} {x5 : Int32} {x6 : Int32} {t0 : Int32} {t1 : Int32}  (hgo : ∀ (L : Nat) (x1 : Int32) (x2 : Int32) (x3 : Int32) (x4 : Int32) (x5 : Int32) (x6 : Int32) (t0 : Int32) (t1 : Int32) (z : ow_MS), fr (pf [1, 2, 3, 4, 5, 6, 7, 8, 9, 35, 36, 37, 38, 39] []) z0 z → Fo Prod.snd (pf [1, 2, 3, 4, 5, 6, 7, 8, 9, 35, 36, 37, 38, 39] []) z0 (go L x1 x2 x3 x4 x5 x6 t0 t1 z)) (hz : fr (pf [1, 2, 3, 4, 5, 6, 7, 8, 9, 35, 36, 37, 38, 39] []) z0 z)  : Fo Prod.snd (pf [1, 2, 3, 4, 5, 6, 7, 8, 9, 35, 36, 37, 38, 39] []) z0 (qm_X13_summands_3 K go x1 x2 x3 x4 x5 x6 t0 t1 z) := by
  unfold qm_X13_summands_3
  exact (fo_wrZ (Or.inl (by decide)) hz (fun z14 h_z14 => (fo_rdI (fun v15 => (hgo 2 _ _ _ _ _ _ _ _ z14 h_z14)))))
theorem fb_X13_summands_4 {K : Nat} {z0 z : ow_MS}  {go : Nat → Int32 → Int32 → Int32 → Int32 → Int32 → Int32 → Int32 → Int32 → ow_MS → Option (Int32 × ow_MS)} {x1 : Int32} {x2 : Int32} {x3 : Int32} {x4 : Int32} {x5 : Int32} {x6 : Int32} {t0 : Int32} {t1 : Int32}  (hgo : ∀ (L : Nat) (x1 : Int32) (x2 : Int32) (x3 : Int32) (x4 : Int32) (x5 : Int32) (x6 : Int32) (t0 : Int32) (t1 : Int32) (z : ow_MS), fr (pf [1, 2, 3, 4, 5, 6, 7, 8, 9, 35, 36, 37, 38, 39] []) z0 z → Fo Prod.snd (pf [1, 2, 3, 4, 5, 6, 7, 8, 9, 35, 36, 37, 38, 39] []) z0 (go L x1 x2 x3 x4 x5 x6 t0 t1 z)) (hz : fr (pf [1, 2, 3, 4, 5, 6, 7, 8, 9, 35, 36, 37, 38, 39] []) z0 z)  : Fo Prod.snd (pf [1, 2, 3, 4, 5, 6, 7, 8, 9, 35, 36, 37, 38, 39] []) z0 (qm_X13_summands_4 K go x1 x2 x3 x4 x5 x6 t0 t1 z) := by
  unfold qm_X13_summands_4
  exact (hgo 1 _ _ _ _ _ _ _ _ z hz)
theorem fb_X13_summands_5 {K : Nat} {z0 z : ow_MS}  {go : Nat → Int32 → Int32 → Int32 → Int32 → Int32 → Int32 → Int32 → Int32 → ow_MS → Option (Int32 × ow_MS)} {x1 : Int32} {x2 : Int32} {x3 : Int32} {x4 : Int32} {x5 : Int32} {x6 : Int32} {t0 : Int32} {t1 : Int32}  (hgo : ∀ (L : Nat) (x1 : Int32) (x2 : Int32) (x3 : Int32) (x4 : Int32) (x5 : Int32) (x6 : Int32) (t0 : Int32) (t1 : Int32) (z : ow_MS), fr (pf [1, 2, 3, 4, 5, 6, 7, 8, 9, 35, 36, 37, 38, 39] []) z0 z → Fo Prod.snd (pf [1, 2, 3, 4, 5, 6, 7, 8, 9, 35, 36, 37, 38, 39] []) z0 (go L x1 x2 x3 x4 x5 x6 t0 t1 z)) (hz : fr (pf [1, 2, 3, 4, 5, 6, 7, 8, 9, 35, 36, 37, 38, 39] []) z0 z)  : Fo Prod.snd (pf [1, 2, 3, 4, 5, 6, 7, 8, 9, 35, 36, 37, 38, 39] []) z0 (qm_X13_summands_5 K go x1 x2 x3 x4 x5 x6 t0 t1 z) := by
  unfold qm_X13_summands_5
  exact (fo_if (fo_rdF (fun v16 => (fo_some hz))) (fo_cs0 (ff_X13_unpack (by first | omega | decide)) (pf_sub (by decide) pf_0) hz (fun z17 h_z17 => (fo_cs0 (ff_X12_link (by first | omega | decide)) (pf_sub (by decide) pf_0) h_z17 (fun z18 h_z18 => (hgo 6 _ _ _ _ _ _ _ _ z18 h_z18))))))
theorem fb_X13_summands_6 {K : Nat} {z0 z : ow_MS}  {go : Nat → Int32 → Int32 → Int32 → Int32 → Int32 → Int32 → Int32 → Int32 → ow_MS → Option (Int32 × ow_MS)} {x1 : Int32} {x2 : Int32} {x3 : Int32} {x4 : Int32} {x5 : Int32} {x6 : Int32} {t0 : Int32} {t1 : Int32}  (hgo : ∀ (L : Nat) (x1 : Int32) (x2 : Int32) (x3 : Int32) (x4 : Int32) (x5 : Int32) (x6 : Int32) (t0 : Int32) (t1 : Int32) (z : ow_MS), fr (pf [1, 2, 3, 4, 5, 6, 7, 8, 9, 35, 36, 37, 38, 39] []) z0 z → Fo Prod.snd (pf [1, 2, 3, 4, 5, 6, 7, 8, 9, 35, 36, 37, 38, 39] []) z0 (go L x1 x2 x3 x4 x5 x6 t0 t1 z)) (hz : fr (pf [1, 2, 3, 4, 5, 6, 7, 8, 9, 35, 36, 37, 38, 39] []) z0 z)  : Fo Prod.snd (pf [1, 2, 3, 4, 5, 6, 7, 8, 9, 35, 36, 37, 38, 39] []) z0 (qm_X13_summands_6 K go x1 x2 x3 x4 x5 x6 t0 t1 z) := by
  unfold qm_X13_summands_6
  exact (fo_rdF (fun v19 => (fo_if (hgo 11 _ _ _ _ _ _ _ _ z hz) (fo_if (fo_rdI (fun v20 => (hgo 7 _ _ _ _ _ _ _ _ z hz))) (hgo 11 _ _ _ _ _ _ _ _ z hz)))))
theorem fb_X13_summands_7 {K : Nat} {z0 z : ow_MS}  {go : Nat → Int32 → Int32 → Int32 → Int32 → Int32 → Int32 → Int32 → Int32 → ow_MS → Option (Int32 × ow_MS)} {x1 : Int32} {x2 : Int32} {x3 : Int32} {x4 : Int32} {x5 : Int32} {x6 : Int32} {t0 : Int32} {t1 : Int32}  (hgo : ∀ (L : Nat) (x1 : Int32) (x2 : Int32) (x3 : Int32) (x4 : Int32) (x5 : Int32) (x6 : Int32) (t0 : Int32) (t1 : Int32) (z : ow_MS), fr (pf [1, 2, 3, 4, 5, 6, 7, 8, 9, 35, 36, 37, 38, 39] []) z0 z → Fo Prod.snd (pf [1, 2, 3, 4, 5, 6, 7, 8, 9, 35, 36, 37, 38, 39] []) z0 (go L x1 x2 x3 x4 x5 x6 t0 t1 z)) (hz : fr (pf [1, 2, 3, 4, 5, 6, 7, 8, 9, 35, 36, 37, 38, 39] []) z0 z)  : Fo Prod.snd (pf [1, 2, 3, 4, 5, 6, 7, 8, 9, 35, 36, 37, 38, 39] []) z0 (qm_X13_summands_7 K go x1 x2 x3 x4 x5 x6 t0 t1 z) := by
  unfold qm_X13_summands_7
  exact (fo_rdI (fun v21 => (fo_if (hgo 10 _ _ _ _ _ _ _ _ z hz) (fo_if (hgo 8 _ _ _ _ _ _ _ _ z hz) (hgo 10 _ _ _ _ _ _ _ _ z hz)))))
theorem fb_X13_summands_8 {K : Nat} {z0 z : ow_MS}  {go : Nat → Int32 → Int32 → Int32 → Int32 → Int32 → Int32 → Int32 → Int32 → ow_MS → Option (Int32 × ow_MS)} {x1 : Int32} {x2 : Int32} {x3 : Int32} {x4 : Int32} {x5 : Int32} {x6 : Int32} {t0 : Int32} {t1 : Int32}  (hgo : ∀ (L : Nat) (x1 : Int32) (x2 : Int32) (x3 : Int32) (x4 : Int32) (x5 : Int32) (x6 : Int32) (t0 : Int32) (t1 : Int32) (z : ow_MS), fr (pf [1, 2, 3, 4, 5, 6, 7, 8, 9, 35, 36, 37, 38, 39] []) z0 z → Fo Prod.snd (pf [1, 2, 3, 4, 5, 6, 7, 8, 9, 35, 36, 37, 38, 39] []) z0 (go L x1 x2 x3 x4 x5 x6 t0 t1 z)) (hz : fr (pf [1, 2, 3, 4, 5, 6, 7, 8, 9, 35, 36, 37, 38, 39] []) z0 z)  : Fo Prod.snd (pf [1, 2, 3, 4, 5, 6, 7, 8, 9, 35, 36, 37, 38, 39] []) z0 (qm_X13_summands_8 K go x1 x2 x3 x4 x5 x6 t0 t1 z) := by
  unfold qm_X13_summands_8
  exact (fo_rdI (fun v22 => (fo_if (hgo 9 _ _ _ _ _ _ _ _ z hz) (fo_if (fo_cs1 (ff_X13_isParted (by first | omega | decide)) (pf_sub (by decide) pf_0) hz (fun v24 z23 h_z23 => (hgo 8 _ _ _ _ _ _ _ _ z23 h_z23))) (hgo 9 _ _ _ _ _ _ _ _ z hz)))))
theorem fb_X13_summands_9 {K : Nat} {z0 z : ow_MS}  {go : Nat → Int32 → Int32 → Int32 → Int32 → Int32 → Int32 → Int32 → Int32 → ow_MS → Option (Int32 × ow_MS)} {x1 : Int32} {x2 : Int32} {x3 : Int32} {x4 : Int32} {x5 : Int32} {x6 : Int32} {t0 : Int32} {t1 : Int32}  (hgo : ∀ (L : Nat) (x1 : Int32) (x2 : Int32) (x3 : Int32) (x4 : Int32) (x5 : Int32) (x6 : Int32) (t0 : Int32) (t1 : Int32) (z : ow_MS), fr (pf [1, 2, 3, 4, 5, 6, 7, 8, 9, 35, 36, 37, 38, 39] []) z0 z → Fo Prod.snd (pf [1, 2, 3, 4, 5, 6, 7, 8, 9, 35, 36, 37, 38, 39] []) z0 (go L x1 x2 x3 x4 x5 x6 t0 t1 z)) (hz : fr (pf [1, 2, 3, 4, 5, 6, 7, 8, 9, 35, 36, 37, 38, 39] []) z0 z)  : Fo Prod.snd (pf [1, 2, 3, 4, 5, 6, 7, 8, 9, 35, 36, 37, 38, 39] []) z0 (qm_X13_summands_9 K go x1 x2 x3 x4 x5 x6 t0 t1 z) := by
  unfold qm_X13_summands_9
  exact (hgo 7 _ _ _ _ _ _ _ _ z hz)
theorem fb_X13_summands_10 {K : Nat} {z0 z : ow_MS}  {go : Nat → Int32 → Int32 → Int32 → Int32 → Int32 → Int32 → Int32 → Int32 → ow_MS → Option (Int32 × ow_MS)} {x1 : Int32} {x2 : Int32} {x3 : Int32} {x4 : Int32} {x5 : Int32} {x6 : Int32} {t0 : Int32} {t1 : Int32}  (hgo : ∀ (L : Nat) (x1 : Int32) (x2 : Int32) (x3 : Int32) (x4 : Int32) (x5 : Int32) (x6 : Int32) (t0 : Int32) (t1 : Int32) (z : ow_MS), fr (pf [1, 2, 3, 4, 5, 6, 7, 8, 9, 35, 36, 37, 38, 39] []) z0 z → Fo Prod.snd (pf [1, 2, 3, 4, 5, 6, 7, 8, 9, 35, 36, 37, 38, 39] []) z0 (go L x1 x2 x3 x4 x5 x6 t0 t1 z)) (hz : fr (pf [1, 2, 3, 4, 5, 6, 7, 8, 9, 35, 36, 37, 38, 39] []) z0 z)  : Fo Prod.snd (pf [1, 2, 3, 4, 5, 6, 7, 8, 9, 35, 36, 37, 38, 39] []) z0 (qm_X13_summands_10 K go x1 x2 x3 x4 x5 x6 t0 t1 z) := by
  unfold qm_X13_summands_10
  exact (hgo 6 _ _ _ _ _ _ _ _ z hz)
theorem fb_X13_summands_11 {K : Nat} {z0 z : ow_MS}  {go : Nat → Int32 → Int32 → Int32 → Int32 → Int32 → Int32 → Int32 → Int32 → ow_MS → Option (Int32 × ow_MS)} {x1 : Int32} {x2 : Int32} {x3 : Int32} {x4 : Int32} {x5 : Int32} {x6 : Int32} {t0 : Int32} {t1 : Int32}  (hgo : ∀ (L : Nat) (x1 : Int32) (x2 : Int32) (x3 : Int32) (x4 : Int32) (x5 : Int32) (x6 : Int32) (t0 : Int32) (t1 : Int32) (z : ow_MS), fr (pf [1, 2, 3, 4, 5, 6, 7, 8, 9, 35, 36, 37, 38, 39] []) z0 z → Fo Prod.snd (pf [1, 2, 3, 4, 5, 6, 7, 8, 9, 35, 36, 37, 38, 39] []) z0 (go L x1 x2 x3 x4 x5 x6 t0 t1 z)) (hz : fr (pf [1, 2, 3, 4, 5, 6, 7, 8, 9, 35, 36, 37, 38, 39] []) z0 z)  : Fo Prod.snd (pf [1, 2, 3, 4, 5, 6, 7, 8, 9, 35, 36, 37, 38, 39] []) z0 (qm_X13_summands_11 K go x1 x2 x3 x4 x5 x6 t0 t1 z) := by
  unfold qm_X13_summands_11
  exact (fo_if (fo_cs0 (ff_X13_addSummand) (pf_sub (by decide) pf_0) hz (fun z25 h_z25 => (hgo 12 _ _ _ _ _ _ _ _ z25 h_z25))) (fo_cs0 (ff_X13_waitsFor (by first | omega | decide)) (pf_sub (by decide) pf_0) hz (fun z26 h_z26 => (fo_cs0 (ff_X13_waitsFor (by first | omega | decide)) (pf_sub (by decide) pf_0) h_z26 (fun z27 h_z27 => (hgo 12 _ _ _ _ _ _ _ _ z27 h_z27))))))
theorem fb_X13_summands_12 {K : Nat} {z0 z : ow_MS}  {go : Nat → Int32 → Int32 → Int32 → Int32 → Int32 → Int32 → Int32 → Int32 → ow_MS → Option (Int32 × ow_MS)} {x1 : Int32} {x2 : Int32} {x3 : Int32} {x4 : Int32} {x5 : Int32} {x6 : Int32} {t0 : Int32} {t1 : Int32}  (hgo : ∀ (L : Nat) (x1 : Int32) (x2 : Int32) (x3 : Int32) (x4 : Int32) (x5 : Int32) (x6 : Int32) (t0 : Int32) (t1 : Int32) (z : ow_MS), fr (pf [1, 2, 3, 4, 5, 6, 7, 8, 9, 35, 36, 37, 38, 39] []) z0 z → Fo Prod.snd (pf [1, 2, 3, 4, 5, 6, 7, 8, 9, 35, 36, 37, 38, 39] []) z0 (go L x1 x2 x3 x4 x5 x6 t0 t1 z)) (hz : fr (pf [1, 2, 3, 4, 5, 6, 7, 8, 9, 35, 36, 37, 38, 39] []) z0 z)  : Fo Prod.snd (pf [1, 2, 3, 4, 5, 6, 7, 8, 9, 35, 36, 37, 38, 39] []) z0 (qm_X13_summands_12 K go x1 x2 x3 x4 x5 x6 t0 t1 z) := by
  unfold qm_X13_summands_12
  exact (hgo 5 _ _ _ _ _ _ _ _ z hz)
theorem fq_X13_summands {K : Nat} {z0 : ow_MS}   : ∀ (k L : Nat) (x1 : Int32) (x2 : Int32) (x3 : Int32) (x4 : Int32) (x5 : Int32) (x6 : Int32) (t0 : Int32) (t1 : Int32) (z : ow_MS), fr (pf [1, 2, 3, 4, 5, 6, 7, 8, 9, 35, 36, 37, 38, 39] []) z0 z → Fo Prod.snd (pf [1, 2, 3, 4, 5, 6, 7, 8, 9, 35, 36, 37, 38, 39] []) z0 (q_X13_summands K k L x1 x2 x3 x4 x5 x6 t0 t1 z)
  | 0 => by
    intros
    exact fo_none
  | k + 1 => by
    intro L x1 x2 x3 x4 x5 x6 t0 t1 z hz 
    show Fo Prod.snd (pf [1, 2, 3, 4, 5, 6, 7, 8, 9, 35, 36, 37, 38, 39] []) z0 (qb_X13_summands K (q_X13_summands K k) L x1 x2 x3 x4 x5 x6 t0 t1 z)
    unfold qb_X13_summands
    split
    · exact fb_X13_summands_0 (fq_X13_summands k) hz 
    · exact fb_X13_summands_1 (fq_X13_summands k) hz 
    · exact fb_X13_summands_2 (fq_X13_summands k) hz 
    · exact fb_X13_summands_3 (fq_X13_summands k) hz 
    · exact fb_X13_summands_4 (fq_X13_summands k) hz 
    · exact fb_X13_summands_5 (fq_X13_summands k) hz 
    · exact fb_X13_summands_6 (fq_X13_summands k) hz 
    · exact fb_X13_summands_7 (fq_X13_summands k) hz 
    · exact fb_X13_summands_8 (fq_X13_summands k) hz 
    · exact fb_X13_summands_9 (fq_X13_summands k) hz 
    · exact fb_X13_summands_10 (fq_X13_summands k) hz 
    · exact fb_X13_summands_11 (fq_X13_summands k) hz 
    · exact fb_X13_summands_12 (fq_X13_summands k) hz 
    · exact fo_none
theorem ff_X13_summands {K : Nat} {x1 : Int32} {z : ow_MS}  : Fo Prod.snd (pf [1, 2, 3, 4, 5, 6, 7, 8, 9, 35, 36, 37, 38, 39] []) z (qe_X13_summands K x1 z) := fq_X13_summands K 0 _ _ _ _ _ _ _ _ z fr_rf 
theorem fb_X13_summand_0 {K : Nat} {z0 z : ow_MS}  {go : Nat → Int32 → ow_MS → Option (Int32 × ow_MS)} {x1 : Int32}  (hgo : ∀ (L : Nat) (x1 : Int32) (z : ow_MS), fr (pf [1, 12] []) z0 z → Fo Prod.snd (pf [1, 12] []) z0 (go L x1 z)) (hz : fr (pf [1, 12] []) z0 z)  : Fo Prod.snd (pf [1, 12] []) z0 (qm_X13_summand_0 K go x1 z) := by
  unfold qm_X13_summand_0
  exact (fo_wrF (Or.inl (by decide)) hz (fun z1 h_z1 => (fo_if (hgo 1 _ z1 h_z1) (fo_rdF (fun v2 => (fo_if (fo_cs1 (ff_X13_free) (pf_sub (by decide) pf_0) h_z1 (fun v4 z3 h_z3 => (fo_if (fo_cs1 (ff_X13_fails) (pf_sub (by decide) pf_0) h_z3 (fun v9 z8 h_z8 => (fo_some h_z8))) (fo_rdI (fun v5 => (fo_cs1 (ff_X13_keepRow) (pf_sub (by decide) pf_0) h_z3 (fun v7 z6 h_z6 => (fo_some h_z6)))))))) (hgo 1 _ z1 h_z1)))))))
theorem fb_X13_summand_1 {K : Nat} {z0 z : ow_MS}  {go : Nat → Int32 → ow_MS → Option (Int32 × ow_MS)} {x1 : Int32}  (hgo : ∀ (L : Nat) (x1 : Int32) (z : ow_MS), fr (pf [1, 12] []) z0 z → Fo Prod.snd (pf [1, 12] []) z0 (go L x1 z)) (hz : fr (pf [1, 12] []) z0 z)  : Fo Prod.snd (pf [1, 12] []) z0 (qm_X13_summand_1 K go x1 z) := by
  unfold qm_X13_summand_1
  exact (fo_cs1 (ff_X13_fails) (pf_sub (by decide) pf_0) hz (fun v11 z10 h_z10 => (fo_some h_z10)))
theorem fq_X13_summand {K : Nat} {z0 : ow_MS}   : ∀ (k L : Nat) (x1 : Int32) (z : ow_MS), fr (pf [1, 12] []) z0 z → Fo Prod.snd (pf [1, 12] []) z0 (q_X13_summand K k L x1 z)
  | 0 => by
    intros
    exact fo_none
  | k + 1 => by
    intro L x1 z hz 
    show Fo Prod.snd (pf [1, 12] []) z0 (qb_X13_summand K (q_X13_summand K k) L x1 z)
    unfold qb_X13_summand
    split
    · exact fb_X13_summand_0 (fq_X13_summand k) hz 
    · exact fb_X13_summand_1 (fq_X13_summand k) hz 
    · exact fo_none
theorem ff_X13_summand {K : Nat} {x1 : Int32} {z : ow_MS}  : Fo Prod.snd (pf [1, 12] []) z (qe_X13_summand K x1 z) := fq_X13_summand K 0 _ z fr_rf 
theorem fb_X13_leaf_0 {K : Nat} {z0 z : ow_MS}  {go : Nat → Int32 → Int32 → Int32 → Int32 → Int32 → Int64 → Int64 → Int32 → Int64 → Int64 → ow_MS → Option ow_MS} {x1 : Int32} {x4 : Int32} {x5 : Int32} {x6 : Int32} {x9 : Int32} {w2 : Int64} {w7 : Int64} {t2 : Int32} {y0 : Int64} {y1 : Int64}  (hgo : ∀ (L : Nat) (x1 : Int32) (x4 : Int32) (x5 : Int32) (x6 : Int32) (x9 : Int32) (w2 : Int64) (w7 : Int64) (t2 : Int32) (y0 : Int64) (y1 : Int64) (z : ow_MS), fr (pf [42, 44] []) z0 z → Fo id (pf [42, 44] []) z0 (go L x1 x4 x5 x6 x9 w2 w7 t2 y0 y1 z)) (hz : fr (pf [42, 44] []) z0 z)  : Fo id (pf [42, 44] []) z0 (qm_X13_leaf_0 K go x1 x4 x5 x6 x9 w2 w7 t2 y0 y1 z) := by
  unfold qm_X13_leaf_0
  exact (fo_rdF (fun v1 => (fo_if (fo_rdJ (fun v2 => (fo_if (fo_wrJ (Or.inl (by decide)) hz (fun z4 h_z4 => (fo_some h_z4))) (fo_wrJ (Or.inl (by decide)) hz (fun z3 h_z3 => (fo_some h_z3)))))) (hgo 1 _ _ _ _ _ _ _ _ _ _ z hz))))
theorem fb_X13_leaf_1 {K : Nat} {z0 z : ow_MS}  {go : Nat → Int32 → Int32 → Int32 → Int32 → Int32 → Int64 → Int64 → Int32 → Int64 → Int64 → ow_MS → Option ow_MS} {x1 : Int32} {x4 : Int32} {x5 : Int32} {x6 : Int32} {x9 : Int32} {w2 : Int64} {w7 : Int64} {t2 : Int32} {y0 : Int64} {y1 : Int64}  (hgo : ∀ (L : Nat) (x1 : Int32) (x4 : Int32) (x5 : Int32) (x6 : Int32) (x9 : Int32) (w2 : Int64) (w7 : Int64) (t2 : Int32) (y0 : Int64) (y1 : Int64) (z : ow_MS), fr (pf [42, 44] []) z0 z → Fo id (pf [42, 44] []) z0 (go L x1 x4 x5 x6 x9 w2 w7 t2 y0 y1 z)) (hz : fr (pf [42, 44] []) z0 z)  : Fo id (pf [42, 44] []) z0 (qm_X13_leaf_1 K go x1 x4 x5 x6 x9 w2 w7 t2 y0 y1 z) := by
  unfold qm_X13_leaf_1
  exact (fo_if (fo_some hz) (fo_rdJ (fun v5 => (fo_if (hgo 2 _ _ _ _ _ _ _ _ _ _ z hz) (hgo 2 _ _ _ _ _ _ _ _ _ _ z hz)))))
theorem fb_X13_leaf_2 {K : Nat} {z0 z : ow_MS}  {go : Nat → Int32 → Int32 → Int32 → Int32 → Int32 → Int64 → Int64 → Int32 → Int64 → Int64 → ow_MS → Option ow_MS} {x1 : Int32} {x4 : Int32} {x5 : Int32} {x6 : Int32} {x9 : Int32} {w2 : Int64} {w7 : Int64} {t2 : Int32} {y0 : Int64} {y1 : Int64}  (hgo : ∀ (L : Nat) (x1 : Int32) (x4 : Int32) (x5 : Int32) (x6 : Int32) (x9 : Int32) (w2 : Int64) (w7 : Int64) (t2 : Int32) (y0 : Int64) (y1 : Int64) (z : ow_MS), fr (pf [42, 44] []) z0 z → Fo id (pf [42, 44] []) z0 (go L x1 x4 x5 x6 x9 w2 w7 t2 y0 y1 z)) (hz : fr (pf [42, 44] []) z0 z)  : Fo id (pf [42, 44] []) z0 (qm_X13_leaf_2 K go x1 x4 x5 x6 x9 w2 w7 t2 y0 y1 z) := by
  unfold qm_X13_leaf_2
  exact (fo_wrJ (Or.inl (by decide)) hz (fun z6 h_z6 => (fo_nzJ (hgo 1 _ _ _ _ _ _ _ _ _ _ z6 h_z6))))
theorem fq_X13_leaf {K : Nat} {z0 : ow_MS}   : ∀ (k L : Nat) (x1 : Int32) (x4 : Int32) (x5 : Int32) (x6 : Int32) (x9 : Int32) (w2 : Int64) (w7 : Int64) (t2 : Int32) (y0 : Int64) (y1 : Int64) (z : ow_MS), fr (pf [42, 44] []) z0 z → Fo id (pf [42, 44] []) z0 (q_X13_leaf K k L x1 x4 x5 x6 x9 w2 w7 t2 y0 y1 z)
  | 0 => by
    intros
    exact fo_none
  | k + 1 => by
    intro L x1 x4 x5 x6 x9 w2 w7 t2 y0 y1 z hz 
    show Fo id (pf [42, 44] []) z0 (qb_X13_leaf K (q_X13_leaf K k) L x1 x4 x5 x6 x9 w2 w7 t2 y0 y1 z)
    unfold qb_X13_leaf
    split
    · exact fb_X13_leaf_0 (fq_X13_leaf k) hz 
    · exact fb_X13_leaf_1 (fq_X13_leaf k) hz 
    · exact fb_X13_leaf_2 (fq_X13_leaf k) hz 
    · exact fo_none
theorem ff_X13_leaf {K : Nat} {x1 : Int32} {w2 : Int64} {x4 : Int32} {x5 : Int32} {z : ow_MS}  : Fo id (pf [42, 44] []) z (qe_X13_leaf K x1 w2 x4 x5 z) := fq_X13_leaf K 0 _ _ _ _ _ _ _ _ _ _ z fr_rf 
theorem fb_X13_skein_0 {K : Nat} {z0 z : ow_MS}  {self : Int32 → Int64 → Int32 → Int32 → ow_MS → Option ow_MS} {go : Nat → Int32 → Int32 → Int32 → Int32 → Int32 → Int32 → Int32 → Int32 → Int64 → Nat → Nat → Int32 → Int32 → Int32 → Int32 → Int64 → Int64 → Int64 → ow_MS → Option ow_MS} {x1 : Int32} {x4 : Int32} {x5 : Int32} {x7 : Int32} {x8 : Int32} {x9 : Int32} {x10 : Int32} {x11 : Int32} {w2 : Int64} {r6 : Nat} {r12 : Nat} {t0 : Int32} {t1 : Int32} {t2 : Int32} {t3 : Int32} {y0 : Int64} {y1 : Int64} {y2 : Int64} (hself : ∀ (a0 : Int32) (a1 : Int64) (a2 : Int32) (a3 : Int32) (z : ow_MS), fr (pf [41, 42, 44] []) z0 z → Fo id (pf [41, 42, 44] []) z0 (self a0 a1 a2 a3 z)) (hgo : ∀ (L : Nat) (x1 : Int32) (x4 : Int32) (x5 : Int32) (x7 : Int32) (x8 : Int32) (x9 : Int32) (x10 : Int32) (x11 : Int32) (w2 : Int64) (r6 : Nat) (r12 : Nat) (t0 : Int32) (t1 : Int32) (t2 : Int32) (t3 : Int32) (y0 : Int64) (y1 : Int64) (y2 : Int64) (z : ow_MS), fr (pf [41, 42, 44] []) z0 z → (L = 1 ∨ L = 2 ∨ L = 3 ∨ L = 4 ∨ L = 5 ∨ L = 6 ∨ L = 7 ∨ L = 8 ∨ L = 9 ∨ L = 10 ∨ L = 11 ∨ L = 12 ∨ L = 13 → 1000 ≤ r6) → (L = 9 ∨ L = 10 ∨ L = 11 ∨ L = 12 ∨ L = 13 → 1000 ≤ r12) → Fo id (pf [41, 42, 44] []) z0 (go L x1 x4 x5 x7 x8 x9 x10 x11 w2 r6 r12 t0 t1 t2 t3 y0 y1 y2 z)) (hz : fr (pf [41, 42, 44] []) z0 z)  : Fo id (pf [41, 42, 44] []) z0 (qm_X13_skein_0 K self go x1 x4 x5 x7 x8 x9 x10 x11 w2 r6 r12 t0 t1 t2 t3 y0 y1 y2 z) := by
  unfold qm_X13_skein_0
  exact (fo_rdN (fun n1 hn1 => (hgo 1 _ _ _ _ _ _ _ _ _ _ _ _ _ _ _ _ _ _ z hz (fun _ => (by first | omega | decide)) (fun h9 => absurd h9 (by decide)))))
theorem fb_X13_skein_1 {K : Nat} {z0 z : ow_MS}  {self : Int32 → Int64 → Int32 → Int32 → ow_MS → Option ow_MS} {go : Nat → Int32 → Int32 → Int32 → Int32 → Int32 → Int32 → Int32 → Int32 → Int64 → Nat → Nat → Int32 → Int32 → Int32 → Int32 → Int64 → Int64 → Int64 → ow_MS → Option ow_MS} {x1 : Int32} {x4 : Int32} {x5 : Int32} {x7 : Int32} {x8 : Int32} {x9 : Int32} {x10 : Int32} {x11 : Int32} {w2 : Int64} {r6 : Nat} {r12 : Nat} {t0 : Int32} {t1 : Int32} {t2 : Int32} {t3 : Int32} {y0 : Int64} {y1 : Int64} {y2 : Int64} (hself : ∀ (a0 : Int32) (a1 : Int64) (a2 : Int32) (a3 : Int32) (z : ow_MS), fr (pf [41, 42, 44] []) z0 z → Fo id (pf [41, 42, 44] []) z0 (self a0 a1 a2 a3 z)) (hgo : ∀ (L : Nat) (x1 : Int32) (x4 : Int32) (x5 : Int32) (x7 : Int32) (x8 : Int32) (x9 : Int32) (x10 : Int32) (x11 : Int32) (w2 : Int64) (r6 : Nat) (r12 : Nat) (t0 : Int32) (t1 : Int32) (t2 : Int32) (t3 : Int32) (y0 : Int64) (y1 : Int64) (y2 : Int64) (z : ow_MS), fr (pf [41, 42, 44] []) z0 z → (L = 1 ∨ L = 2 ∨ L = 3 ∨ L = 4 ∨ L = 5 ∨ L = 6 ∨ L = 7 ∨ L = 8 ∨ L = 9 ∨ L = 10 ∨ L = 11 ∨ L = 12 ∨ L = 13 → 1000 ≤ r6) → (L = 9 ∨ L = 10 ∨ L = 11 ∨ L = 12 ∨ L = 13 → 1000 ≤ r12) → Fo id (pf [41, 42, 44] []) z0 (go L x1 x4 x5 x7 x8 x9 x10 x11 w2 r6 r12 t0 t1 t2 t3 y0 y1 y2 z)) (hz : fr (pf [41, 42, 44] []) z0 z) (hr6 : 1000 ≤ r6) : Fo id (pf [41, 42, 44] []) z0 (qm_X13_skein_1 K self go x1 x4 x5 x7 x8 x9 x10 x11 w2 r6 r12 t0 t1 t2 t3 y0 y1 y2 z) := by
  unfold qm_X13_skein_1
  exact (fo_if (hgo 2 _ _ _ _ _ _ _ _ _ _ _ _ _ _ _ _ _ _ z hz (fun _ => (by first | omega | decide)) (fun h9 => absurd h9 (by decide))) (fo_wrZ (Or.inl (by decide)) hz (fun z2 h_z2 => (hgo 1 _ _ _ _ _ _ _ _ _ _ _ _ _ _ _ _ _ _ z2 h_z2 (fun _ => (by first | omega | decide)) (fun h9 => absurd h9 (by decide))))))
theorem fb_X13_skein_2 {K : Nat} {z0 z : ow_MS}  {self : Int32 → Int64 → Int32 → Int32 → ow_MS → Option ow_MS} {go : Nat → Int32 → Int32 → Int32 → Int32 → Int32 → Int32 → Int32 → Int32 → Int64 → Nat → Nat → Int32 → Int32 → Int32 → Int32 → Int64 → Int64 → Int64 → ow_MS → Option ow_MS} {x1 : Int32} {x4 : Int32} {x5 : Int32} {x7 : Int32} {x8 : Int32} {x9 : Int32} {x10 : Int32} {x11 : Int32} {w2 : Int64} {r6 : Nat} {r12 : Nat} {t0 : Int32} {t1 : Int32} {t2 : Int32} {t3 : Int32} {y0 : Int64} {y1 : Int64} {y2 : Int64} (hself : ∀ (a0 : Int32) (a1 : Int64) (a2 : Int32) (a3 : Int32) (z : ow_MS), fr (pf [41, 42, 44] []) z0 z → Fo id (pf [41, 42, 44] []) z0 (self a0 a1 a2 a3 z)) (hgo : ∀ (L : Nat) (x1 : Int32) (x4 : Int32) (x5 : Int32) (x7 : Int32) (x8 : Int32) (x9 : Int32) (x10 : Int32) (x11 : Int32) (w2 : Int64) (r6 : Nat) (r12 : Nat) (t0 : Int32) (t1 : Int32) (t2 : Int32) (t3 : Int32) (y0 : Int64) (y1 : Int64) (y2 : Int64) (z : ow_MS), fr (pf [41, 42, 44] []) z0 z → (L = 1 ∨ L = 2 ∨ L = 3 ∨ L = 4 ∨ L = 5 ∨ L = 6 ∨ L = 7 ∨ L = 8 ∨ L = 9 ∨ L = 10 ∨ L = 11 ∨ L = 12 ∨ L = 13 → 1000 ≤ r6) → (L = 9 ∨ L = 10 ∨ L = 11 ∨ L = 12 ∨ L = 13 → 1000 ≤ r12) → Fo id (pf [41, 42, 44] []) z0 (go L x1 x4 x5 x7 x8 x9 x10 x11 w2 r6 r12 t0 t1 t2 t3 y0 y1 y2 z)) (hz : fr (pf [41, 42, 44] []) z0 z) (hr6 : 1000 ≤ r6) : Fo id (pf [41, 42, 44] []) z0 (qm_X13_skein_2 K self go x1 x4 x5 x7 x8 x9 x10 x11 w2 r6 r12 t0 t1 t2 t3 y0 y1 y2 z) := by
  unfold qm_X13_skein_2
  exact (fo_rdF (fun v3 => (fo_if (hgo 5 _ _ _ _ _ _ _ _ _ _ _ _ _ _ _ _ _ _ z hz (fun _ => (by first | omega | decide)) (fun h9 => absurd h9 (by decide))) (fo_if (fo_rdI (fun v4 => (fo_rdI (fun v5 => (fo_if (fo_wrZ (Or.inl (by decide)) hz (fun z6 h_z6 => (fo_rdI (fun v7 => (fo_if (hgo 3 _ _ _ _ _ _ _ _ _ _ _ _ _ _ _ _ _ _ z6 h_z6 (fun _ => (by first | omega | decide)) (fun h9 => absurd h9 (by decide))) (hgo 3 _ _ _ _ _ _ _ _ _ _ _ _ _ _ _ _ _ _ z6 h_z6 (fun _ => (by first | omega | decide)) (fun h9 => absurd h9 (by decide)))))))) (hgo 4 _ _ _ _ _ _ _ _ _ _ _ _ _ _ _ _ _ _ z hz (fun _ => (by first | omega | decide)) (fun h9 => absurd h9 (by decide)))))))) (hgo 5 _ _ _ _ _ _ _ _ _ _ _ _ _ _ _ _ _ _ z hz (fun _ => (by first | omega | decide)) (fun h9 => absurd h9 (by decide)))))))
theorem fb_X13_skein_3 {K : Nat} {z0 z : ow_MS}  {self : Int32 → Int64 → Int32 → Int32 → ow_MS → Option ow_MS} {go : Nat → Int32 → Int32 → Int32 → Int32 → Int32 → Int32 → Int32 → Int32 → Int64 → Nat → Nat → Int32 → Int32 → Int32 → Int32 → Int64 → Int64 → Int64 → ow_MS → Option ow_MS} {x1 : Int32} {x4 : Int32} {x5 : Int32} {x7 : Int32} {x8 : Int32} {x9 : Int32} {x10 : Int32} {x11 : Int32} {w2 : Int64} {r6 : Nat} {r12 : Nat} {t0 : Int32} {t1 : Int32} {t2 : Int32} {t3 : Int32} {y0 : Int64} {y1 : Int64} {y2 : Int64} (hself : ∀ (a0 : Int32) (a1 : Int64) (a2 : Int32) (a3 : Int32) (z : ow_MS), fr (pf [41, 42, 44] []) z0 z → Fo id (pf [41, 42, 44] []) z0 (self a0 a1 a2 a3 z)) (hgo : ∀ (L : Nat) (x1 : Int32) (x4 : Int32) (x5 : Int32) (x7 : Int32) (x8 : Int32) (x9 : Int32) (x10 : Int32) (x11 : Int32) (w2 : Int64) (r6 : Nat) (r12 : Nat) (t0 : Int32) (t1 : Int32) (t2 : Int32) (t3 : Int32) (y0 : Int64) (y1 : Int64) (y2 : Int64) (z : ow_MS), fr (pf [41, 42, 44] []) z0 z → (L = 1 ∨ L = 2 ∨ L = 3 ∨ L = 4 ∨ L = 5 ∨ L = 6 ∨ L = 7 ∨ L = 8 ∨ L = 9 ∨ L = 10 ∨ L = 11 ∨ L = 12 ∨ L = 13 → 1000 ≤ r6) → (L = 9 ∨ L = 10 ∨ L = 11 ∨ L = 12 ∨ L = 13 → 1000 ≤ r12) → Fo id (pf [41, 42, 44] []) z0 (go L x1 x4 x5 x7 x8 x9 x10 x11 w2 r6 r12 t0 t1 t2 t3 y0 y1 y2 z)) (hz : fr (pf [41, 42, 44] []) z0 z) (hr6 : 1000 ≤ r6) : Fo id (pf [41, 42, 44] []) z0 (qm_X13_skein_3 K self go x1 x4 x5 x7 x8 x9 x10 x11 w2 r6 r12 t0 t1 t2 t3 y0 y1 y2 z) := by
  unfold qm_X13_skein_3
  exact (hgo 4 _ _ _ _ _ _ _ _ _ _ _ _ _ _ _ _ _ _ z hz (fun _ => (by first | omega | decide)) (fun h9 => absurd h9 (by decide)))
theorem fb_X13_skein_4 {K : Nat} {z0 z : ow_MS}  {self : Int32 → Int64 → Int32 → Int32 → ow_MS → Option ow_MS} {go : Nat → Int32 → Int32 → Int32 → Int32 → Int32 → Int32 → Int32 → Int32 → Int64 → Nat → Nat → Int32 → Int32 → Int32 → Int32 → Int64 → Int64 → Int64 → ow_MS → Option ow_MS} {x1 : Int32} {x4 : Int32} {x5 : Int32} {x7 : Int32} {x8 : Int32} {x9 : Int32} {x10 : Int32} {x11 : Int32} {w2 : Int64} {r6 : Nat} {r12 : Nat} {t0 : Int32} {t1 : Int32} {t2 : Int32} {t3 : Int32} {y0 : Int64} {y1 : Int64} {y2 : Int64} (hself : ∀ (a0 : Int32) (a1 : Int64) (a2 : Int32) (a3 : Int32) (z : ow_MS), fr (pf [41, 42, 44] []) z0 z → Fo id (pf [41, 42, 44] []) z0 (self a0 a1 a2 a3 z)) (hgo : ∀ (L : Nat) (x1 : Int32) (x4 : Int32) (x5 : Int32) (x7 : Int32) (x8 : Int32) (x9 : Int32) (x10 : Int32) (x11 : Int32) (w2 : Int64) (r6 : Nat) (r12 : Nat) (t0 : Int32) (t1 : Int32) (t2 : Int32) (t3 : Int32) (y0 : Int64) (y1 : Int64) (y2 : Int64) (z : ow_MS), fr (pf [41, 42, 44] []) z0 z → (L = 1 ∨ L = 2 ∨ L = 3 ∨ L = 4 ∨ L = 5 ∨ L = 6 ∨ L = 7 ∨ L = 8 ∨ L = 9 ∨ L = 10 ∨ L = 11 ∨ L = 12 ∨ L = 13 → 1000 ≤ r6) → (L = 9 ∨ L = 10 ∨ L = 11 ∨ L = 12 ∨ L = 13 → 1000 ≤ r12) → Fo id (pf [41, 42, 44] []) z0 (go L x1 x4 x5 x7 x8 x9 x10 x11 w2 r6 r12 t0 t1 t2 t3 y0 y1 y2 z)) (hz : fr (pf [41, 42, 44] []) z0 z) (hr6 : 1000 ≤ r6) : Fo id (pf [41, 42, 44] []) z0 (qm_X13_skein_4 K self go x1 x4 x5 x7 x8 x9 x10 x11 w2 r6 r12 t0 t1 t2 t3 y0 y1 y2 z) := by
  unfold qm_X13_skein_4
  exact (hgo 2 _ _ _ _ _ _ _ _ _ _ _ _ _ _ _ _ _ _ z hz (fun _ => (by first | omega | decide)) (fun h9 => absurd h9 (by decide)))
theorem fb_X13_skein_5 {K : Nat} {z0 z : ow_MS}  {self : Int32 → Int64 → Int32 → Int32 → ow_MS → Option ow_MS} {go : Nat → Int32 → Int32 → Int32 → Int32 → Int32 → Int32 → Int32 → Int32 → Int64 → Nat → Nat → Int32 → Int32 → Int32 → Int32 → Int64 → Int64 → Int64 → ow_MS → Option ow_MS} {x1 : Int32} {x4 : Int32} {x5 : Int32} {x7 : Int32} {x8 : Int32} {x9 : Int32} {x10 : Int32} {x11 : Int32} {w2 : Int64} {r6 : Nat} {r12 : Nat} {t0 : Int32} {t1 : Int32} {t2 : Int32} {t3 : Int32} {y0 : Int64} {y1 : Int64} {y2 : Int64} (hself : ∀ (a0 : Int32) (a1 : Int64) (a2 : Int32) (a3 : Int32) (z : ow_MS), fr (pf [41, 42, 44] []) z0 z → Fo id (pf [41, 42, 44] []) z0 (self a0 a1 a2 a3 z)) (hgo : ∀ (L : Nat) (x1 : Int32) (x4 : Int32) (x5 : Int32) (x7 : Int32) (x8 : Int32) (x9 : Int32) (x10 : Int32) (x11 : Int32) (w2 : Int64) (r6 : Nat) (r12 : Nat) (t0 : Int32) (t1 : Int32) (t2 : Int32) (t3 : Int32) (y0 : Int64) (y1 : Int64) (y2 : Int64) (z : ow_MS), fr (pf [41, 42, 44] []) z0 z → (L = 1 ∨ L = 2 ∨ L = 3 ∨ L = 4 ∨ L = 5 ∨ L = 6 ∨ L = 7 ∨ L = 8 ∨ L = 9 ∨ L = 10 ∨ L = 11 ∨ L = 12 ∨ L = 13 → 1000 ≤ r6) → (L = 9 ∨ L = 10 ∨ L = 11 ∨ L = 12 ∨ L = 13 → 1000 ≤ r12) → Fo id (pf [41, 42, 44] []) z0 (go L x1 x4 x5 x7 x8 x9 x10 x11 w2 r6 r12 t0 t1 t2 t3 y0 y1 y2 z)) (hz : fr (pf [41, 42, 44] []) z0 z) (hr6 : 1000 ≤ r6) : Fo id (pf [41, 42, 44] []) z0 (qm_X13_skein_5 K self go x1 x4 x5 x7 x8 x9 x10 x11 w2 r6 r12 t0 t1 t2 t3 y0 y1 y2 z) := by
  unfold qm_X13_skein_5
  exact (fo_if (fo_rdF (fun v8 => (fo_cs0 (ff_X13_leaf) (pf_sub (by decide) pf_0) hz (fun z9 h_z9 => (fo_some h_z9))))) (hgo 6 _ _ _ _ _ _ _ _ _ _ _ _ _ _ _ _ _ _ z hz (fun _ => (by first | omega | decide)) (fun h9 => absurd h9 (by decide))))
theorem fb_X13_skein_6 {K : Nat} {z0 z : ow_MS}  {self : Int32 → Int64 → Int32 → Int32 → ow_MS → Option ow_MS} {go : Nat → Int32 → Int32 → Int32 → Int32 → Int32 → Int32 → Int32 → Int32 → Int64 → Nat → Nat → Int32 → Int32 → Int32 → Int32 → Int64 → Int64 → Int64 → ow_MS → Option ow_MS} {x1 : Int32} {x4 : Int32} {x5 : Int32} {x7 : Int32} {x8 : Int32} {x9 : Int32} {x10 : Int32} {x11 : Int32} {w2 : Int64} {r6 : Nat} {r12 : Nat} {t0 : Int32} {t1 : Int32} {t2 : Int32} {t3 : Int32} {y0 : Int64} {y1 : Int64} {y2 : Int64} (hself : ∀ (a0 : Int32) (a1 : Int64) (a2 : Int32) (a3 : Int32) (z : ow_MS), fr (pf [41, 42, 44] []) z0 z → Fo id (pf [41, 42, 44] []) z0 (self a0 a1 a2 a3 z)) (hgo : ∀ (L : Nat) (x1 : Int32) (x4 : Int32) (x5 : Int32) (x7 : Int32) (x8 : Int32) (x9 : Int32) (x10 : Int32) (x11 : Int32) (w2 : Int64) (r6 : Nat) (r12 : Nat) (t0 : Int32) (t1 : Int32) (t2 : Int32) (t3 : Int32) (y0 : Int64) (y1 : Int64) (y2 : Int64) (z : ow_MS), fr (pf [41, 42, 44] []) z0 z → (L = 1 ∨ L = 2 ∨ L = 3 ∨ L = 4 ∨ L = 5 ∨ L = 6 ∨ L = 7 ∨ L = 8 ∨ L = 9 ∨ L = 10 ∨ L = 11 ∨ L = 12 ∨ L = 13 → 1000 ≤ r6) → (L = 9 ∨ L = 10 ∨ L = 11 ∨ L = 12 ∨ L = 13 → 1000 ≤ r12) → Fo id (pf [41, 42, 44] []) z0 (go L x1 x4 x5 x7 x8 x9 x10 x11 w2 r6 r12 t0 t1 t2 t3 y0 y1 y2 z)) (hz : fr (pf [41, 42, 44] []) z0 z) (hr6 : 1000 ≤ r6) : Fo id (pf [41, 42, 44] []) z0 (qm_X13_skein_6 K self go x1 x4 x5 x7 x8 x9 x10 x11 w2 r6 r12 t0 t1 t2 t3 y0 y1 y2 z) := by
  unfold qm_X13_skein_6
  exact (fo_rdI (fun v10 => (fo_if (fo_rdI (fun v11 => (hgo 7 _ _ _ _ _ _ _ _ _ _ _ _ _ _ _ _ _ _ z hz (fun _ => (by first | omega | decide)) (fun h9 => absurd h9 (by decide))))) (hgo 6 _ _ _ _ _ _ _ _ _ _ _ _ _ _ _ _ _ _ z hz (fun _ => (by first | omega | decide)) (fun h9 => absurd h9 (by decide))))))
theorem fb_X13_skein_7 {K : Nat} {z0 z : ow_MS}  {self : Int32 → Int64 → Int32 → Int32 → ow_MS → Option ow_MS} {go : Nat → Int32 → Int32 → Int32 → Int32 → Int32 → Int32 → Int32 → Int32 → Int64 → Nat → Nat → Int32 → Int32 → Int32 → Int32 → Int64 → Int64 → Int64 → ow_MS → Option ow_MS} {x1 : Int32} {x4 : Int32} {x5 : Int32} {x7 : Int32} {x8 : Int32} {x9 : Int32} {x10 : Int32} {x11 : Int32} {w2 : Int64} {r6 : Nat} {r12 : Nat} {t0 : Int32} {t1 : Int32} {t2 : Int32} {t3 : Int32} {y0 : Int64} {y1 : Int64} {y2 : Int64} (hself : ∀ (a0 : Int32) (a1 : Int64) (a2 : Int32) (a3 : Int32) (z : ow_MS), fr (pf [41, 42, 44] []) z0 z → Fo id (pf [41, 42, 44] []) z0 (self a0 a1 a2 a3 z)) (hgo : ∀ (L : Nat) (x1 : Int32) (x4 : Int32) (x5 : Int32) (x7 : Int32) (x8 : Int32) (x9 : Int32) (x10 : Int32) (x11 : Int32) (w2 : Int64) (r6 : Nat) (r12 : Nat) (t0 : Int32) (t1 : Int32) (t2 : Int32) (t3 : Int32) (y0 : Int64) (y1 : Int64) (y2 : Int64) (z : ow_MS), fr (pf [41, 42, 44] []) z0 z → (L = 1 ∨ L = 2 ∨ L = 3 ∨ L = 4 ∨ L = 5 ∨ L = 6 ∨ L = 7 ∨ L = 8 ∨ L = 9 ∨ L = 10 ∨ L = 11 ∨ L = 12 ∨ L = 13 → 1000 ≤ r6) → (L = 9 ∨ L = 10 ∨ L = 11 ∨ L = 12 ∨ L = 13 → 1000 ≤ r12) → Fo id (pf [41, 42, 44] []) z0 (go L x1 x4 x5 x7 x8 x9 x10 x11 w2 r6 r12 t0 t1 t2 t3 y0 y1 y2 z)) (hz : fr (pf [41, 42, 44] []) z0 z) (hr6 : 1000 ≤ r6) : Fo id (pf [41, 42, 44] []) z0 (qm_X13_skein_7 K self go x1 x4 x5 x7 x8 x9 x10 x11 w2 r6 r12 t0 t1 t2 t3 y0 y1 y2 z) := by
  unfold qm_X13_skein_7
  exact (fo_rdI (fun v12 => (fo_if (fo_rdI (fun v13 => (fo_if (hgo 8 _ _ _ _ _ _ _ _ _ _ _ _ _ _ _ _ _ _ z hz (fun _ => (by first | omega | decide)) (fun h9 => absurd h9 (by decide))) (hgo 8 _ _ _ _ _ _ _ _ _ _ _ _ _ _ _ _ _ _ z hz (fun _ => (by first | omega | decide)) (fun h9 => absurd h9 (by decide)))))) (hgo 7 _ _ _ _ _ _ _ _ _ _ _ _ _ _ _ _ _ _ z hz (fun _ => (by first | omega | decide)) (fun h9 => absurd h9 (by decide))))))
theorem fb_X13_skein_8 {K : Nat} {z0 z : ow_MS}  {self : Int32 → Int64 → Int32 → Int32 → ow_MS → Option ow_MS} {go : Nat → Int32 → Int32 → Int32 → Int32 → Int32 → Int32 → Int32 → Int32 → Int64 → Nat → Nat → Int32 → Int32 → Int32 → Int32 → Int64 → Int64 → Int64 → ow_MS → Option ow_MS} {x1 : Int32} {x4 : Int32} {x5 : Int32} {x7 : Int32} {x8 : Int32} {x9 : Int32} {x10 : Int32} {x11 : Int32} {w2 : Int64} {r6 : Nat} {r12 : Nat} {t0 : Int32} {t1 : Int32} {t2 : Int32} {t3 : Int32} {y0 : Int64} {y1 : Int64} {y2 : Int64} (hself : ∀ (a0 : Int32) (a1 : Int64) (a2 : Int32) (a3 : Int32) (z : ow_MS), fr (pf [41, 42, 44] []) z0 z → Fo id (pf [41, 42, 44] []) z0 (self a0 a1 a2 a3 z)) (hgo : ∀ (L : Nat) (x1 : Int32) (x4 : Int32) (x5 : Int32) (x7 : Int32) (x8 : Int32) (x9 : Int32) (x10 : Int32) (x11 : Int32) (w2 : Int64) (r6 : Nat) (r12 : Nat) (t0 : Int32) (t1 : Int32) (t2 : Int32) (t3 : Int32) (y0 : Int64) (y1 : Int64) (y2 : Int64) (z : ow_MS), fr (pf [41, 42, 44] []) z0 z → (L = 1 ∨ L = 2 ∨ L = 3 ∨ L = 4 ∨ L = 5 ∨ L = 6 ∨ L = 7 ∨ L = 8 ∨ L = 9 ∨ L = 10 ∨ L = 11 ∨ L = 12 ∨ L = 13 → 1000 ≤ r6) → (L = 9 ∨ L = 10 ∨ L = 11 ∨ L = 12 ∨ L = 13 → 1000 ≤ r12) → Fo id (pf [41, 42, 44] []) z0 (go L x1 x4 x5 x7 x8 x9 x10 x11 w2 r6 r12 t0 t1 t2 t3 y0 y1 y2 z)) (hz : fr (pf [41, 42, 44] []) z0 z) (hr6 : 1000 ≤ r6) : Fo id (pf [41, 42, 44] []) z0 (qm_X13_skein_8 K self go x1 x4 x5 x7 x8 x9 x10 x11 w2 r6 r12 t0 t1 t2 t3 y0 y1 y2 z) := by
  unfold qm_X13_skein_8
  exact (fo_rdN (fun n14 hn14 => (fo_cs0 (ff_X13_smoothIn (by first | omega | decide) (by first | omega | decide)) (pf_sub (by decide) pf_0) hz (fun z15 h_z15 => (fo_if (hgo 9 _ _ _ _ _ _ _ _ _ _ _ _ _ _ _ _ _ _ z15 h_z15 (fun _ => (by first | omega | decide)) (fun _ => (by first | omega | decide))) (hgo 9 _ _ _ _ _ _ _ _ _ _ _ _ _ _ _ _ _ _ z15 h_z15 (fun _ => (by first | omega | decide)) (fun _ => (by first | omega | decide))))))))
theorem fb_X13_skein_9 {K : Nat} {z0 z : ow_MS}  {self : Int32 → Int64 → Int32 → Int32 → ow_MS → Option ow_MS} {go : Nat → Int32 → Int32 → Int32 → Int32 → Int32 → Int32 → Int32 → Int32 → Int64 → Nat → Nat → Int32 → Int32 → Int32 → Int32 → Int64 → Int64 → Int64 → ow_MS → Option ow_MS} {x1 : Int32} {x4 : Int32} {x5 : Int32} {x7 : Int32} {x8 : Int32} {x9 : Int32} {x10 : Int32} {x11 : Int32} {w2 : Int64} {r6 : Nat} {r12 : Nat} {t0 : Int32} {t1 : Int32} {t2 : Int32} {t3 : Int32} {y0 : Int64} {y1 : Int64} {y2 : Int64} (hself : ∀ (a0 : Int32) (a1 : Int64) (a2 : Int32) (a3 : Int32) (z : ow_MS), fr (pf [41, 42, 44] []) z0 z → Fo id (pf [41, 42, 44] []) z0 (self a0 a1 a2 a3 z)) (hgo : ∀ (L : Nat) (x1 : Int32) (x4 : Int32) (x5 : Int32) (x7 : Int32) (x8 : Int32) (x9 : Int32) (x10 : Int32) (x11 : Int32) (w2 : Int64) (r6 : Nat) (r12 : Nat) (t0 : Int32) (t1 : Int32) (t2 : Int32) (t3 : Int32) (y0 : Int64) (y1 : Int64) (y2 : Int64) (z : ow_MS), fr (pf [41, 42, 44] []) z0 z → (L = 1 ∨ L = 2 ∨ L = 3 ∨ L = 4 ∨ L = 5 ∨ L = 6 ∨ L = 7 ∨ L = 8 ∨ L = 9 ∨ L = 10 ∨ L = 11 ∨ L = 12 ∨ L = 13 → 1000 ≤ r6) → (L = 9 ∨ L = 10 ∨ L = 11 ∨ L = 12 ∨ L = 13 → 1000 ≤ r12) → Fo id (pf [41, 42, 44] []) z0 (go L x1 x4 x5 x7 x8 x9 x10 x11 w2 r6 r12 t0 t1 t2 t3 y0 y1 y2 z)) (hz : fr (pf [41, 42, 44] []) z0 z) (hr6 : 1000 ≤ r6) (hr12 : 1000 ≤ r12) : Fo id (pf [41, 42, 44] []) z0 (qm_X13_skein_9 K self go x1 x4 x5 x7 x8 x9 x10 x11 w2 r6 r12 t0 t1 t2 t3 y0 y1 y2 z) := by
  unfold qm_X13_skein_9
  exact (fo_rdF (fun v16 => (fo_if (hgo 11 _ _ _ _ _ _ _ _ _ _ _ _ _ _ _ _ _ _ z hz (fun _ => (by first | omega | decide)) (fun _ => (by first | omega | decide))) (fo_if (hgo 10 _ _ _ _ _ _ _ _ _ _ _ _ _ _ _ _ _ _ z hz (fun _ => (by first | omega | decide)) (fun _ => (by first | omega | decide))) (hgo 10 _ _ _ _ _ _ _ _ _ _ _ _ _ _ _ _ _ _ z hz (fun _ => (by first | omega | decide)) (fun _ => (by first | omega | decide)))))))
theorem fb_X13_skein_10 {K : Nat} {z0 z : ow_MS}  {self : Int32 → Int64 → Int32 → Int32 → ow_MS → Option ow_MS} {go : Nat → Int32 → Int32 → Int32 → Int32 → Int32 → Int32 → Int32 → Int32 → Int64 → Nat → Nat → Int32 → Int32 → Int32 → Int32 → Int64 → Int64 → Int64 → ow_MS → Option ow_MS} {x1 : Int32} {x4 : Int32} {x5 : Int32} {x7 : Int32} {x8 : Int32} {x9 : Int32} {x10 : Int32} {x11 : Int32} {w2 : Int64} {r6 : Nat} {r12 : Nat} {t0 : Int32} {t1 : Int32} {t2 : Int32} {t3 : Int32} {y0 : Int64} {y1 : Int64} {y2 : Int64} (hself : ∀ (a0 : Int32) (a1 : Int64) (a2 : Int32) (a3 : Int32) (z : ow_MS), fr (pf [41, 42, 44] []) z0 z → Fo id (pf [41, 42, 44] []) z0 (self a0 a1 a2 a3 z)) (hgo : ∀ (L : Nat) (x1 : Int32) (x4 : Int32) (x5 : Int32) (x7 : Int32) (x8 : Int32) (x9 : Int32) (x10 : Int32) (x11 : Int32) (w2 : Int64) (r6 : Nat) (r12 : Nat) (t0 : Int32) (t1 : Int32) (t2 : Int32) (t3 : Int32) (y0 : Int64) (y1 : Int64) (y2 : Int64) (z : ow_MS), fr (pf [41, 42, 44] []) z0 z → (L = 1 ∨ L = 2 ∨ L = 3 ∨ L = 4 ∨ L = 5 ∨ L = 6 ∨ L = 7 ∨ L = 8 ∨ L = 9 ∨ L = 10 ∨ L = 11 ∨ L = 12 ∨ L = 13 → 1000 ≤ r6) → (L = 9 ∨ L = 10 ∨ L = 11 ∨ L = 12 ∨ L = 13 → 1000 ≤ r12) → Fo id (pf [41, 42, 44] []) z0 (go L x1 x4 x5 x7 x8 x9 x10 x11 w2 r6 r12 t0 t1 t2 t3 y0 y1 y2 z)) (hz : fr (pf [41, 42, 44] []) z0 z) (hr6 : 1000 ≤ r6) (hr12 : 1000 ≤ r12) : Fo id (pf [41, 42, 44] []) z0 (qm_X13_skein_10 K self go x1 x4 x5 x7 x8 x9 x10 x11 w2 r6 r12 t0 t1 t2 t3 y0 y1 y2 z) := by
  unfold qm_X13_skein_10
  exact (hgo 11 _ _ _ _ _ _ _ _ _ _ _ _ _ _ _ _ _ _ z hz (fun _ => (by first | omega | decide)) (fun _ => (by first | omega | decide)))
theorem fb_X13_skein_11 {K : Nat} {z0 z : ow_MS}  {self : Int32 → Int64 → Int32 → Int32 → ow_MS → Option ow_MS} {go : Nat → Int32 → Int32 → Int32 → Int32 → Int32 → Int32 → Int32 → Int32 → Int64 → Nat → Nat → Int32 → Int32 → Int32 → Int32 → Int64 → Int64 → Int64 → ow_MS → Option ow_MS} {x1 : Int32} {x4 : Int32} {x5 : Int32} {x7 : Int32} {x8 : Int32} {x9 : Int32} {x10 : Int32} {x11 : Int32} {w2 : Int64} {r6 : Nat} {r12 : Nat} {t0 : Int32} {t1 : Int32} {t2 : Int32} {t3 : Int32} {y0 : Int64} {y1 : Int64} {y2 : Int64} (hself : ∀ (a0 : Int32) (a1 : Int64) (a2 : Int32) (a3 : Int32) (z : ow_MS), fr (pf [41, 42, 44] []) z0 z → Fo id (pf [41, 42, 44] []) z0 (self a0 a1 a2 a3 z)) (hgo : ∀ (L : Nat) (x1 : Int32) (x4 : Int32) (x5 : Int32) (x7 : Int32) (x8 : Int32) (x9 : Int32) (x10 : Int32) (x11 : Int32) (w2 : Int64) (r6 : Nat) (r12 : Nat) (t0 : Int32) (t1 : Int32) (t2 : Int32) (t3 : Int32) (y0 : Int64) (y1 : Int64) (y2 : Int64) (z : ow_MS), fr (pf [41, 42, 44] []) z0 z → (L = 1 ∨ L = 2 ∨ L = 3 ∨ L = 4 ∨ L = 5 ∨ L = 6 ∨ L = 7 ∨ L = 8 ∨ L = 9 ∨ L = 10 ∨ L = 11 ∨ L = 12 ∨ L = 13 → 1000 ≤ r6) → (L = 9 ∨ L = 10 ∨ L = 11 ∨ L = 12 ∨ L = 13 → 1000 ≤ r12) → Fo id (pf [41, 42, 44] []) z0 (go L x1 x4 x5 x7 x8 x9 x10 x11 w2 r6 r12 t0 t1 t2 t3 y0 y1 y2 z)) (hz : fr (pf [41, 42, 44] []) z0 z) (hr6 : 1000 ≤ r6) (hr12 : 1000 ≤ r12) : Fo id (pf [41, 42, 44] []) z0 (qm_X13_skein_11 K self go x1 x4 x5 x7 x8 x9 x10 x11 w2 r6 r12 t0 t1 t2 t3 y0 y1 y2 z) := by
  unfold qm_X13_skein_11
  exact (fo_ss0 (hself _ _ _ _ z hz) (fun z17 h_z17 => (fo_cs0 (ff_X12_copy (by first | omega | decide) (by first | omega | decide)) (pf_sub (by decide) pf_0) h_z17 (fun z18 h_z18 => (fo_cs0 (ff_X13_changeIn (by first | omega | decide)) (pf_sub (by decide) pf_0) h_z18 (fun z19 h_z19 => (fo_rdF (fun v20 => (fo_if (hgo 13 _ _ _ _ _ _ _ _ _ _ _ _ _ _ _ _ _ _ z19 h_z19 (fun _ => (by first | omega | decide)) (fun _ => (by first | omega | decide))) (fo_if (hgo 12 _ _ _ _ _ _ _ _ _ _ _ _ _ _ _ _ _ _ z19 h_z19 (fun _ => (by first | omega | decide)) (fun _ => (by first | omega | decide))) (hgo 12 _ _ _ _ _ _ _ _ _ _ _ _ _ _ _ _ _ _ z19 h_z19 (fun _ => (by first | omega | decide)) (fun _ => (by first | omega | decide)))))))))))))
theorem fb_X13_skein_12 {K : Nat} {z0 z : ow_MS}  {self : Int32 → Int64 → Int32 → Int32 → ow_MS → Option ow_MS} {go : Nat → Int32 → Int32 → Int32 → Int32 → Int32 → Int32 → Int32 → Int32 → Int64 → Nat → Nat → Int32 → Int32 → Int32 → Int32 → Int64 → Int64 → Int64 → ow_MS → Option ow_MS} {x1 : Int32} {x4 : Int32} {x5 : Int32} {x7 : Int32} {x8 : Int32} {x9 : Int32} {x10 : Int32} {x11 : Int32} {w2 : Int64} {r6 : Nat} {r12 : Nat} {t0 : Int32} {t1 : Int32} {t2 : Int32} {t3 : Int32} {y0 : Int64} {y1 : Int64} {y2 : Int64} (hself : ∀ (a0 : Int32) (a1 : Int64) (a2 : Int32) (a3 : Int32) (z : ow_MS), fr (pf [41, 42, 44] []) z0 z → Fo id (pf [41, 42, 44] []) z0 (self a0 a1 a2 a3 z)) (hgo : ∀ (L : Nat) (x1 : Int32) (x4 : Int32) (x5 : Int32) (x7 : Int32) (x8 : Int32) (x9 : Int32) (x10 : Int32) (x11 : Int32) (w2 : Int64) (r6 : Nat) (r12 : Nat) (t0 : Int32) (t1 : Int32) (t2 : Int32) (t3 : Int32) (y0 : Int64) (y1 : Int64) (y2 : Int64) (z : ow_MS), fr (pf [41, 42, 44] []) z0 z → (L = 1 ∨ L = 2 ∨ L = 3 ∨ L = 4 ∨ L = 5 ∨ L = 6 ∨ L = 7 ∨ L = 8 ∨ L = 9 ∨ L = 10 ∨ L = 11 ∨ L = 12 ∨ L = 13 → 1000 ≤ r6) → (L = 9 ∨ L = 10 ∨ L = 11 ∨ L = 12 ∨ L = 13 → 1000 ≤ r12) → Fo id (pf [41, 42, 44] []) z0 (go L x1 x4 x5 x7 x8 x9 x10 x11 w2 r6 r12 t0 t1 t2 t3 y0 y1 y2 z)) (hz : fr (pf [41, 42, 44] []) z0 z) (hr6 : 1000 ≤ r6) (hr12 : 1000 ≤ r12) : Fo id (pf [41, 42, 44] []) z0 (qm_X13_skein_12 K self go x1 x4 x5 x7 x8 x9 x10 x11 w2 r6 r12 t0 t1 t2 t3 y0 y1 y2 z) := by
  unfold qm_X13_skein_12
  exact (hgo 13 _ _ _ _ _ _ _ _ _ _ _ _ _ _ _ _ _ _ z hz (fun _ => (by first | omega | decide)) (fun _ => (by first | omega | decide)))
theorem fb_X13_skein_13 {K : Nat} {z0 z : ow_MS}  {self : Int32 → Int64 → Int32 → Int32 → ow_MS → Option ow_MS} {go : Nat → Int32 → Int32 → Int32 → Int32 → Int32 → Int32 → Int32 → Int32 → Int64 → Nat → Nat → Int32 → Int32 → Int32 → Int32 → Int64 → Int64 → Int64 → ow_MS → Option ow_MS} {x1 : Int32} {x4 : Int32} {x5 : Int32} {x7 : Int32} {x8 : Int32} {x9 : Int32} {x10 : Int32} {x11 : Int32} {w2 : Int64} {r6 : Nat} {r12 : Nat} {t0 : Int32} {t1 : Int32} {t2 : Int32} {t3 : Int32} {y0 : Int64} {y1 : Int64} {y2 : Int64} (hself : ∀ (a0 : Int32) (a1 : Int64) (a2 : Int32) (a3 : Int32) (z : ow_MS), fr (pf [41, 42, 44] []) z0 z → Fo id (pf [41, 42, 44] []) z0 (self a0 a1 a2 a3 z)) (hgo : ∀ (L : Nat) (x1 : Int32) (x4 : Int32) (x5 : Int32) (x7 : Int32) (x8 : Int32) (x9 : Int32) (x10 : Int32) (x11 : Int32) (w2 : Int64) (r6 : Nat) (r12 : Nat) (t0 : Int32) (t1 : Int32) (t2 : Int32) (t3 : Int32) (y0 : Int64) (y1 : Int64) (y2 : Int64) (z : ow_MS), fr (pf [41, 42, 44] []) z0 z → (L = 1 ∨ L = 2 ∨ L = 3 ∨ L = 4 ∨ L = 5 ∨ L = 6 ∨ L = 7 ∨ L = 8 ∨ L = 9 ∨ L = 10 ∨ L = 11 ∨ L = 12 ∨ L = 13 → 1000 ≤ r6) → (L = 9 ∨ L = 10 ∨ L = 11 ∨ L = 12 ∨ L = 13 → 1000 ≤ r12) → Fo id (pf [41, 42, 44] []) z0 (go L x1 x4 x5 x7 x8 x9 x10 x11 w2 r6 r12 t0 t1 t2 t3 y0 y1 y2 z)) (hz : fr (pf [41, 42, 44] []) z0 z) (hr6 : 1000 ≤ r6) (hr12 : 1000 ≤ r12) : Fo id (pf [41, 42, 44] []) z0 (qm_X13_skein_13 K self go x1 x4 x5 x7 x8 x9 x10 x11 w2 r6 r12 t0 t1 t2 t3 y0 y1 y2 z) := by
  unfold qm_X13_skein_13
  exact (fo_ss0 (hself _ _ _ _ z hz) (fun z21 h_z21 => (fo_some h_z21)))
theorem fq_X13_skein {K : Nat} {z0 : ow_MS}  {self : Int32 → Int64 → Int32 → Int32 → ow_MS → Option ow_MS} (hself : ∀ (a0 : Int32) (a1 : Int64) (a2 : Int32) (a3 : Int32) (z : ow_MS), fr (pf [41, 42, 44] []) z0 z → Fo id (pf [41, 42, 44] []) z0 (self a0 a1 a2 a3 z)) : ∀ (k L : Nat) (x1 : Int32) (x4 : Int32) (x5 : Int32) (x7 : Int32) (x8 : Int32) (x9 : Int32) (x10 : Int32) (x11 : Int32) (w2 : Int64) (r6 : Nat) (r12 : Nat) (t0 : Int32) (t1 : Int32) (t2 : Int32) (t3 : Int32) (y0 : Int64) (y1 : Int64) (y2 : Int64) (z : ow_MS), fr (pf [41, 42, 44] []) z0 z → (L = 1 ∨ L = 2 ∨ L = 3 ∨ L = 4 ∨ L = 5 ∨ L = 6 ∨ L = 7 ∨ L = 8 ∨ L = 9 ∨ L = 10 ∨ L = 11 ∨ L = 12 ∨ L = 13 → 1000 ≤ r6) → (L = 9 ∨ L = 10 ∨ L = 11 ∨ L = 12 ∨ L = 13 → 1000 ≤ r12) → Fo id (pf [41, 42, 44] []) z0 (q_X13_skein K self k L x1 x4 x5 x7 x8 x9 x10 x11 w2 r6 r12 t0 t1 t2 t3 y0 y1 y2 z)
  | 0 => by
    intros
    exact fo_none
  | k + 1 => by
    intro L x1 x4 x5 x7 x8 x9 x10 x11 w2 r6 r12 t0 t1 t2 t3 y0 y1 y2 z hz h9_r6 h9_r12
    show Fo id (pf [41, 42, 44] []) z0 (qb_X13_skein K self (q_X13_skein K self k) L x1 x4 x5 x7 x8 x9 x10 x11 w2 r6 r12 t0 t1 t2 t3 y0 y1 y2 z)
    unfold qb_X13_skein
    split
    · exact fb_X13_skein_0 hself (fq_X13_skein hself k) hz 
    · exact fb_X13_skein_1 hself (fq_X13_skein hself k) hz (h9_r6 (by decide))
    · exact fb_X13_skein_2 hself (fq_X13_skein hself k) hz (h9_r6 (by decide))
    · exact fb_X13_skein_3 hself (fq_X13_skein hself k) hz (h9_r6 (by decide))
    · exact fb_X13_skein_4 hself (fq_X13_skein hself k) hz (h9_r6 (by decide))
    · exact fb_X13_skein_5 hself (fq_X13_skein hself k) hz (h9_r6 (by decide))
    · exact fb_X13_skein_6 hself (fq_X13_skein hself k) hz (h9_r6 (by decide))
    · exact fb_X13_skein_7 hself (fq_X13_skein hself k) hz (h9_r6 (by decide))
    · exact fb_X13_skein_8 hself (fq_X13_skein hself k) hz (h9_r6 (by decide))
    · exact fb_X13_skein_9 hself (fq_X13_skein hself k) hz (h9_r6 (by decide)) (h9_r12 (by decide))
    · exact fb_X13_skein_10 hself (fq_X13_skein hself k) hz (h9_r6 (by decide)) (h9_r12 (by decide))
    · exact fb_X13_skein_11 hself (fq_X13_skein hself k) hz (h9_r6 (by decide)) (h9_r12 (by decide))
    · exact fb_X13_skein_12 hself (fq_X13_skein hself k) hz (h9_r6 (by decide)) (h9_r12 (by decide))
    · exact fb_X13_skein_13 hself (fq_X13_skein hself k) hz (h9_r6 (by decide)) (h9_r12 (by decide))
    · exact fo_none
theorem fd_X13_skein {K : Nat} {z0 : ow_MS} : ∀ (d : Nat) (x1 : Int32) (w2 : Int64) (x4 : Int32) (x5 : Int32) (z : ow_MS), fr (pf [41, 42, 44] []) z0 z → Fo id (pf [41, 42, 44] []) z0 (qd_X13_skein K d x1 w2 x4 x5 z)
  | 0 => by
    intros
    exact fo_none
  | d + 1 => by
    intro x1 w2 x4 x5 z hz 
    exact fq_X13_skein (fd_X13_skein d) K 0 _ _ _ _ _ _ _ _ _ _ _ _ _ _ _ _ _ _ z hz (fun h9 => absurd h9 (by decide)) (fun h9 => absurd h9 (by decide))
theorem ff_X13_skein {K : Nat} {x1 : Int32} {w2 : Int64} {x4 : Int32} {x5 : Int32} {z : ow_MS}  : Fo id (pf [41, 42, 44] []) z (qe_X13_skein K x1 w2 x4 x5 z) := fd_X13_skein 16 _ _ _ _ z fr_rf 
theorem fb_X13_conway_0 {K : Nat} {z0 z : ow_MS}  {go : Nat → Int32 → Int32 → Int32 → ow_MS → Option (Int32 × ow_MS)} {x1 : Int32} {x2 : Int32} {x3 : Int32}  (hgo : ∀ (L : Nat) (x1 : Int32) (x2 : Int32) (x3 : Int32) (z : ow_MS), fr (pf [1, 41, 42, 43, 44, 46] []) z0 z → Fo Prod.snd (pf [1, 41, 42, 43, 44, 46] []) z0 (go L x1 x2 x3 z)) (hz : fr (pf [1, 41, 42, 43, 44, 46] []) z0 z)  : Fo Prod.snd (pf [1, 41, 42, 43, 44, 46] []) z0 (qm_X13_conway_0 K go x1 x2 x3 z) := by
  unfold qm_X13_conway_0
  exact (fo_wrF (Or.inl (by decide)) hz (fun z1 h_z1 => (fo_cs1 (ff_X13_has) (pf_sub (by decide) pf_0) h_z1 (fun v3 z2 h_z2 => (fo_if (fo_cs1 (ff_X13_fails) (pf_sub (by decide) pf_0) h_z2 (fun v7 z6 h_z6 => (fo_some h_z6))) (fo_cs1 (ff_X13_isSame) (pf_sub (by decide) pf_0) h_z2 (fun v5 z4 h_z4 => (fo_if (hgo 1 _ _ _ z4 h_z4) (hgo 3 _ _ _ z4 h_z4)))))))))
theorem fb_X13_conway_1 {K : Nat} {z0 z : ow_MS}  {go : Nat → Int32 → Int32 → Int32 → ow_MS → Option (Int32 × ow_MS)} {x1 : Int32} {x2 : Int32} {x3 : Int32}  (hgo : ∀ (L : Nat) (x1 : Int32) (x2 : Int32) (x3 : Int32) (z : ow_MS), fr (pf [1, 41, 42, 43, 44, 46] []) z0 z → Fo Prod.snd (pf [1, 41, 42, 43, 44, 46] []) z0 (go L x1 x2 x3 z)) (hz : fr (pf [1, 41, 42, 43, 44, 46] []) z0 z)  : Fo Prod.snd (pf [1, 41, 42, 43, 44, 46] []) z0 (qm_X13_conway_1 K go x1 x2 x3 z) := by
  unfold qm_X13_conway_1
  exact (fo_if (fo_rdN (fun n8 hn8 => (fo_cs0 (ff_X13_open (by first | omega | decide)) (pf_sub (by decide) pf_0) hz (fun z9 h_z9 => (fo_okZ (fo_wrF (Or.inl (by decide)) h_z9 (fun z10 h_z10 => (fo_cs0 (ff_X13_skein) (pf_sub (by decide) pf_0) h_z10 (fun z11 h_z11 => (hgo 2 _ _ _ z11 h_z11)))))))))) (fo_wrJ (Or.inl (by decide)) hz (fun z12 h_z12 => (hgo 1 _ _ _ z12 h_z12))))
theorem fb_X13_conway_2 {K : Nat} {z0 z : ow_MS}  {go : Nat → Int32 → Int32 → Int32 → ow_MS → Option (Int32 × ow_MS)} {x1 : Int32} {x2 : Int32} {x3 : Int32}  (hgo : ∀ (L : Nat) (x1 : Int32) (x2 : Int32) (x3 : Int32) (z : ow_MS), fr (pf [1, 41, 42, 43, 44, 46] []) z0 z → Fo Prod.snd (pf [1, 41, 42, 43, 44, 46] []) z0 (go L x1 x2 x3 z)) (hz : fr (pf [1, 41, 42, 43, 44, 46] []) z0 z)  : Fo Prod.snd (pf [1, 41, 42, 43, 44, 46] []) z0 (qm_X13_conway_2 K go x1 x2 x3 z) := by
  unfold qm_X13_conway_2
  exact (fo_if (hgo 3 _ _ _ z hz) (fo_rdI (fun v13 => (fo_wrI (Or.inl (by decide)) hz (fun z14 h_z14 => (hgo 2 _ _ _ z14 h_z14))))))
theorem fb_X13_conway_3 {K : Nat} {z0 z : ow_MS}  {go : Nat → Int32 → Int32 → Int32 → ow_MS → Option (Int32 × ow_MS)} {x1 : Int32} {x2 : Int32} {x3 : Int32}  (hgo : ∀ (L : Nat) (x1 : Int32) (x2 : Int32) (x3 : Int32) (z : ow_MS), fr (pf [1, 41, 42, 43, 44, 46] []) z0 z → Fo Prod.snd (pf [1, 41, 42, 43, 44, 46] []) z0 (go L x1 x2 x3 z)) (hz : fr (pf [1, 41, 42, 43, 44, 46] []) z0 z)  : Fo Prod.snd (pf [1, 41, 42, 43, 44, 46] []) z0 (qm_X13_conway_3 K go x1 x2 x3 z) := by
  unfold qm_X13_conway_3
  exact (fo_if (hgo 4 _ _ _ z hz) (fo_if (fo_rdJ (fun v15 => (fo_some hz))) (hgo 4 _ _ _ z hz)))
theorem fb_X13_conway_4 {K : Nat} {z0 z : ow_MS}  {go : Nat → Int32 → Int32 → Int32 → ow_MS → Option (Int32 × ow_MS)} {x1 : Int32} {x2 : Int32} {x3 : Int32}  (hgo : ∀ (L : Nat) (x1 : Int32) (x2 : Int32) (x3 : Int32) (z : ow_MS), fr (pf [1, 41, 42, 43, 44, 46] []) z0 z → Fo Prod.snd (pf [1, 41, 42, 43, 44, 46] []) z0 (go L x1 x2 x3 z)) (hz : fr (pf [1, 41, 42, 43, 44, 46] []) z0 z)  : Fo Prod.snd (pf [1, 41, 42, 43, 44, 46] []) z0 (qm_X13_conway_4 K go x1 x2 x3 z) := by
  unfold qm_X13_conway_4
  exact (fo_some hz)
theorem fq_X13_conway {K : Nat} {z0 : ow_MS}   : ∀ (k L : Nat) (x1 : Int32) (x2 : Int32) (x3 : Int32) (z : ow_MS), fr (pf [1, 41, 42, 43, 44, 46] []) z0 z → Fo Prod.snd (pf [1, 41, 42, 43, 44, 46] []) z0 (q_X13_conway K k L x1 x2 x3 z)
  | 0 => by
    intros
    exact fo_none
  | k + 1 => by
    intro L x1 x2 x3 z hz 
    show Fo Prod.snd (pf [1, 41, 42, 43, 44, 46] []) z0 (qb_X13_conway K (q_X13_conway K k) L x1 x2 x3 z)
    unfold qb_X13_conway
    split
    · exact fb_X13_conway_0 (fq_X13_conway k) hz 
    · exact fb_X13_conway_1 (fq_X13_conway k) hz 
    · exact fb_X13_conway_2 (fq_X13_conway k) hz 
    · exact fb_X13_conway_3 (fq_X13_conway k) hz 
    · exact fb_X13_conway_4 (fq_X13_conway k) hz 
    · exact fo_none
theorem ff_X13_conway {K : Nat} {x1 : Int32} {x2 : Int32} {z : ow_MS}  : Fo Prod.snd (pf [1, 41, 42, 43, 44, 46] []) z (qe_X13_conway K x1 x2 z) := fq_X13_conway K 0 _ _ _ z fr_rf 
theorem fb_X13_root_0 {K : Nat} {z0 z : ow_MS}  {go : Nat → Int32 → Int32 → ow_MS → Option (Int32 × ow_MS)} {x1 : Int32} {x2 : Int32}  (hgo : ∀ (L : Nat) (x1 : Int32) (x2 : Int32) (z : ow_MS), fr (pf [] []) z0 z → Fo Prod.snd (pf [] []) z0 (go L x1 x2 z)) (hz : fr (pf [] []) z0 z)  : Fo Prod.snd (pf [] []) z0 (qm_X13_root_0 K go x1 x2 z) := by
  unfold qm_X13_root_0
  exact (hgo 1 _ _ z hz)
theorem fb_X13_root_1 {K : Nat} {z0 z : ow_MS}  {go : Nat → Int32 → Int32 → ow_MS → Option (Int32 × ow_MS)} {x1 : Int32} {x2 : Int32}  (hgo : ∀ (L : Nat) (x1 : Int32) (x2 : Int32) (z : ow_MS), fr (pf [] []) z0 z → Fo Prod.snd (pf [] []) z0 (go L x1 x2 z)) (hz : fr (pf [] []) z0 z)  : Fo Prod.snd (pf [] []) z0 (qm_X13_root_1 K go x1 x2 z) := by
  unfold qm_X13_root_1
  exact (fo_rdI (fun v1 => (fo_if (fo_some hz) (fo_rdI (fun v2 => (hgo 1 _ _ z hz))))))
theorem fq_X13_root {K : Nat} {z0 : ow_MS}   : ∀ (k L : Nat) (x1 : Int32) (x2 : Int32) (z : ow_MS), fr (pf [] []) z0 z → Fo Prod.snd (pf [] []) z0 (q_X13_root K k L x1 x2 z)
  | 0 => by
    intros
    exact fo_none
  | k + 1 => by
    intro L x1 x2 z hz 
    show Fo Prod.snd (pf [] []) z0 (qb_X13_root K (q_X13_root K k) L x1 x2 z)
    unfold qb_X13_root
    split
    · exact fb_X13_root_0 (fq_X13_root k) hz 
    · exact fb_X13_root_1 (fq_X13_root k) hz 
    · exact fo_none
theorem ff_X13_root {K : Nat} {x1 : Int32} {z : ow_MS}  : Fo Prod.snd (pf [] []) z (qe_X13_root K x1 z) := fq_X13_root K 0 _ _ z fr_rf 
theorem ff_X13_unite {K : Nat} {x1 : Int32} {x2 : Int32} {z : ow_MS}  : Fo id (pf [47] []) z (qe_X13_unite K x1 x2 z) := by
  unfold qe_X13_unite qm_X13_unite_0
  exact (fo_cs1 (ff_X13_root) (pf_sub (by decide) pf_0) fr_rf (fun v2 z1 h_z1 => (fo_cs1 (ff_X13_root) (pf_sub (by decide) pf_0) h_z1 (fun v4 z3 h_z3 => (fo_if (fo_wrI (Or.inl (by decide)) h_z3 (fun z5 h_z5 => (fo_some h_z5))) (fo_wrI (Or.inl (by decide)) h_z3 (fun z6 h_z6 => (fo_some h_z6))))))))
theorem fb_X13_loops_0 {K : Nat} {z0 z : ow_MS}  {go : Nat → Int32 → Int32 → Int32 → Int32 → Nat → Int32 → ow_MS → Option ow_MS} {x2 : Int32} {x3 : Int32} {x4 : Int32} {x5 : Int32} {r1 : Nat} {t0 : Int32}  (hgo : ∀ (L : Nat) (x2 : Int32) (x3 : Int32) (x4 : Int32) (x5 : Int32) (r1 : Nat) (t0 : Int32) (z : ow_MS), fr (pf [47] []) z0 z → (L = 0 ∨ L = 1 ∨ L = 2 ∨ L = 3 ∨ L = 4 ∨ L = 5 → 1000 ≤ r1) → Fo id (pf [47] []) z0 (go L x2 x3 x4 x5 r1 t0 z)) (hz : fr (pf [47] []) z0 z) (hr1 : 1000 ≤ r1) : Fo id (pf [47] []) z0 (qm_X13_loops_0 K go x2 x3 x4 x5 r1 t0 z) := by
  unfold qm_X13_loops_0
  exact (hgo 1 _ _ _ _ _ _ z hz (fun _ => (by first | omega | decide)))
theorem fb_X13_loops_1 {K : Nat} {z0 z : ow_MS}  {go : Nat → Int32 → Int32 → Int32 → Int32 → Nat → Int32 → ow_MS → Option ow_MS} {x2 : Int32} {x3 : Int32} {x4 : Int32} {x5 : Int32} {r1 : Nat} {t0 : Int32}  (hgo : ∀ (L : Nat) (x2 : Int32) (x3 : Int32) (x4 : Int32) (x5 : Int32) (r1 : Nat) (t0 : Int32) (z : ow_MS), fr (pf [47] []) z0 z → (L = 0 ∨ L = 1 ∨ L = 2 ∨ L = 3 ∨ L = 4 ∨ L = 5 → 1000 ≤ r1) → Fo id (pf [47] []) z0 (go L x2 x3 x4 x5 r1 t0 z)) (hz : fr (pf [47] []) z0 z) (hr1 : 1000 ≤ r1) : Fo id (pf [47] []) z0 (qm_X13_loops_1 K go x2 x3 x4 x5 r1 t0 z) := by
  unfold qm_X13_loops_1
  exact (fo_if (hgo 2 _ _ _ _ _ _ z hz (fun _ => (by first | omega | decide))) (fo_wrI (Or.inl (by decide)) hz (fun z1 h_z1 => (hgo 1 _ _ _ _ _ _ z1 h_z1 (fun _ => (by first | omega | decide))))))
theorem fb_X13_loops_2 {K : Nat} {z0 z : ow_MS}  {go : Nat → Int32 → Int32 → Int32 → Int32 → Nat → Int32 → ow_MS → Option ow_MS} {x2 : Int32} {x3 : Int32} {x4 : Int32} {x5 : Int32} {r1 : Nat} {t0 : Int32}  (hgo : ∀ (L : Nat) (x2 : Int32) (x3 : Int32) (x4 : Int32) (x5 : Int32) (r1 : Nat) (t0 : Int32) (z : ow_MS), fr (pf [47] []) z0 z → (L = 0 ∨ L = 1 ∨ L = 2 ∨ L = 3 ∨ L = 4 ∨ L = 5 → 1000 ≤ r1) → Fo id (pf [47] []) z0 (go L x2 x3 x4 x5 r1 t0 z)) (hz : fr (pf [47] []) z0 z) (hr1 : 1000 ≤ r1) : Fo id (pf [47] []) z0 (qm_X13_loops_2 K go x2 x3 x4 x5 r1 t0 z) := by
  unfold qm_X13_loops_2
  exact (fo_rdF (fun v2 => (fo_if (fo_some hz) (fo_rdI (fun v3 => (fo_rdI (fun v4 => (fo_if (fo_rdI (fun v5 => (fo_if (hgo 3 _ _ _ _ _ _ z hz (fun _ => (by first | omega | decide))) (hgo 3 _ _ _ _ _ _ z hz (fun _ => (by first | omega | decide)))))) (hgo 5 _ _ _ _ _ _ z hz (fun _ => (by first | omega | decide)))))))))))
theorem fb_X13_loops_3 {K : Nat} {z0 z : ow_MS}  {go : Nat → Int32 → Int32 → Int32 → Int32 → Nat → Int32 → ow_MS → Option ow_MS} {x2 : Int32} {x3 : Int32} {x4 : Int32} {x5 : Int32} {r1 : Nat} {t0 : Int32}  (hgo : ∀ (L : Nat) (x2 : Int32) (x3 : Int32) (x4 : Int32) (x5 : Int32) (r1 : Nat) (t0 : Int32) (z : ow_MS), fr (pf [47] []) z0 z → (L = 0 ∨ L = 1 ∨ L = 2 ∨ L = 3 ∨ L = 4 ∨ L = 5 → 1000 ≤ r1) → Fo id (pf [47] []) z0 (go L x2 x3 x4 x5 r1 t0 z)) (hz : fr (pf [47] []) z0 z) (hr1 : 1000 ≤ r1) : Fo id (pf [47] []) z0 (qm_X13_loops_3 K go x2 x3 x4 x5 r1 t0 z) := by
  unfold qm_X13_loops_3
  exact (fo_rdI (fun v6 => (fo_rdI (fun v7 => (fo_if (hgo 4 _ _ _ _ _ _ z hz (fun _ => (by first | omega | decide))) (hgo 4 _ _ _ _ _ _ z hz (fun _ => (by first | omega | decide))))))))
theorem fb_X13_loops_4 {K : Nat} {z0 z : ow_MS}  {go : Nat → Int32 → Int32 → Int32 → Int32 → Nat → Int32 → ow_MS → Option ow_MS} {x2 : Int32} {x3 : Int32} {x4 : Int32} {x5 : Int32} {r1 : Nat} {t0 : Int32}  (hgo : ∀ (L : Nat) (x2 : Int32) (x3 : Int32) (x4 : Int32) (x5 : Int32) (r1 : Nat) (t0 : Int32) (z : ow_MS), fr (pf [47] []) z0 z → (L = 0 ∨ L = 1 ∨ L = 2 ∨ L = 3 ∨ L = 4 ∨ L = 5 → 1000 ≤ r1) → Fo id (pf [47] []) z0 (go L x2 x3 x4 x5 r1 t0 z)) (hz : fr (pf [47] []) z0 z) (hr1 : 1000 ≤ r1) : Fo id (pf [47] []) z0 (qm_X13_loops_4 K go x2 x3 x4 x5 r1 t0 z) := by
  unfold qm_X13_loops_4
  exact (fo_if (fo_rdI (fun v8 => (fo_rdI (fun v9 => (fo_cs0 (ff_X13_unite) (pf_sub (by decide) pf_0) hz (fun z10 h_z10 => (fo_cs0 (ff_X13_unite) (pf_sub (by decide) pf_0) h_z10 (fun z11 h_z11 => (hgo 5 _ _ _ _ _ _ z11 h_z11 (fun _ => (by first | omega | decide))))))))))) (fo_rdI (fun v12 => (fo_cs0 (ff_X13_unite) (pf_sub (by decide) pf_0) hz (fun z13 h_z13 => (fo_rdI (fun v14 => (fo_cs0 (ff_X13_unite) (pf_sub (by decide) pf_0) h_z13 (fun z15 h_z15 => (hgo 5 _ _ _ _ _ _ z15 h_z15 (fun _ => (by first | omega | decide))))))))))))
theorem fb_X13_loops_5 {K : Nat} {z0 z : ow_MS}  {go : Nat → Int32 → Int32 → Int32 → Int32 → Nat → Int32 → ow_MS → Option ow_MS} {x2 : Int32} {x3 : Int32} {x4 : Int32} {x5 : Int32} {r1 : Nat} {t0 : Int32}  (hgo : ∀ (L : Nat) (x2 : Int32) (x3 : Int32) (x4 : Int32) (x5 : Int32) (r1 : Nat) (t0 : Int32) (z : ow_MS), fr (pf [47] []) z0 z → (L = 0 ∨ L = 1 ∨ L = 2 ∨ L = 3 ∨ L = 4 ∨ L = 5 → 1000 ≤ r1) → Fo id (pf [47] []) z0 (go L x2 x3 x4 x5 r1 t0 z)) (hz : fr (pf [47] []) z0 z) (hr1 : 1000 ≤ r1) : Fo id (pf [47] []) z0 (qm_X13_loops_5 K go x2 x3 x4 x5 r1 t0 z) := by
  unfold qm_X13_loops_5
  exact (hgo 2 _ _ _ _ _ _ z hz (fun _ => (by first | omega | decide)))
theorem fq_X13_loops {K : Nat} {z0 : ow_MS}   : ∀ (k L : Nat) (x2 : Int32) (x3 : Int32) (x4 : Int32) (x5 : Int32) (r1 : Nat) (t0 : Int32) (z : ow_MS), fr (pf [47] []) z0 z → (L = 0 ∨ L = 1 ∨ L = 2 ∨ L = 3 ∨ L = 4 ∨ L = 5 → 1000 ≤ r1) → Fo id (pf [47] []) z0 (q_X13_loops K k L x2 x3 x4 x5 r1 t0 z)
  | 0 => by
    intros
    exact fo_none
  | k + 1 => by
    intro L x2 x3 x4 x5 r1 t0 z hz h9_r1
    show Fo id (pf [47] []) z0 (qb_X13_loops K (q_X13_loops K k) L x2 x3 x4 x5 r1 t0 z)
    unfold qb_X13_loops
    split
    · exact fb_X13_loops_0 (fq_X13_loops k) hz (h9_r1 (by decide))
    · exact fb_X13_loops_1 (fq_X13_loops k) hz (h9_r1 (by decide))
    · exact fb_X13_loops_2 (fq_X13_loops k) hz (h9_r1 (by decide))
    · exact fb_X13_loops_3 (fq_X13_loops k) hz (h9_r1 (by decide))
    · exact fb_X13_loops_4 (fq_X13_loops k) hz (h9_r1 (by decide))
    · exact fb_X13_loops_5 (fq_X13_loops k) hz (h9_r1 (by decide))
    · exact fo_none
theorem ff_X13_loops {K : Nat} {r1 : Nat} {x2 : Int32} {z : ow_MS} (hr1 : 1000 ≤ r1) : Fo id (pf [47] []) z (qe_X13_loops K r1 x2 z) := fq_X13_loops K 0 _ _ _ _ _ _ z fr_rf (fun _ => (by first | omega | decide))
theorem fb_X13_countLoops_0 {K : Nat} {z0 z : ow_MS}  {go : Nat → Int32 → Int32 → Nat → Int32 → Int32 → ow_MS → Option (Int32 × ow_MS)} {x2 : Int32} {x3 : Int32} {r1 : Nat} {t0 : Int32} {t1 : Int32}  (hgo : ∀ (L : Nat) (x2 : Int32) (x3 : Int32) (r1 : Nat) (t0 : Int32) (t1 : Int32) (z : ow_MS), fr (pf [] []) z0 z → (L = 0 ∨ L = 1 ∨ L = 2 → 1000 ≤ r1) → Fo Prod.snd (pf [] []) z0 (go L x2 x3 r1 t0 t1 z)) (hz : fr (pf [] []) z0 z) (hr1 : 1000 ≤ r1) : Fo Prod.snd (pf [] []) z0 (qm_X13_countLoops_0 K go x2 x3 r1 t0 t1 z) := by
  unfold qm_X13_countLoops_0
  exact (hgo 1 _ _ _ _ _ z hz (fun _ => (by first | omega | decide)))
theorem fb_X13_countLoops_1 {K : Nat} {z0 z : ow_MS}  {go : Nat → Int32 → Int32 → Nat → Int32 → Int32 → ow_MS → Option (Int32 × ow_MS)} {x2 : Int32} {x3 : Int32} {r1 : Nat} {t0 : Int32} {t1 : Int32}  (hgo : ∀ (L : Nat) (x2 : Int32) (x3 : Int32) (r1 : Nat) (t0 : Int32) (t1 : Int32) (z : ow_MS), fr (pf [] []) z0 z → (L = 0 ∨ L = 1 ∨ L = 2 → 1000 ≤ r1) → Fo Prod.snd (pf [] []) z0 (go L x2 x3 r1 t0 t1 z)) (hz : fr (pf [] []) z0 z) (hr1 : 1000 ≤ r1) : Fo Prod.snd (pf [] []) z0 (qm_X13_countLoops_1 K go x2 x3 r1 t0 t1 z) := by
  unfold qm_X13_countLoops_1
  exact (fo_rdF (fun v1 => (fo_if (fo_some hz) (fo_rdI (fun v2 => (fo_if (hgo 2 _ _ _ _ _ z hz (fun _ => (by first | omega | decide))) (hgo 2 _ _ _ _ _ z hz (fun _ => (by first | omega | decide)))))))))
theorem fb_X13_countLoops_2 {K : Nat} {z0 z : ow_MS}  {go : Nat → Int32 → Int32 → Nat → Int32 → Int32 → ow_MS → Option (Int32 × ow_MS)} {x2 : Int32} {x3 : Int32} {r1 : Nat} {t0 : Int32} {t1 : Int32}  (hgo : ∀ (L : Nat) (x2 : Int32) (x3 : Int32) (r1 : Nat) (t0 : Int32) (t1 : Int32) (z : ow_MS), fr (pf [] []) z0 z → (L = 0 ∨ L = 1 ∨ L = 2 → 1000 ≤ r1) → Fo Prod.snd (pf [] []) z0 (go L x2 x3 r1 t0 t1 z)) (hz : fr (pf [] []) z0 z) (hr1 : 1000 ≤ r1) : Fo Prod.snd (pf [] []) z0 (qm_X13_countLoops_2 K go x2 x3 r1 t0 t1 z) := by
  unfold qm_X13_countLoops_2
  exact (hgo 1 _ _ _ _ _ z hz (fun _ => (by first | omega | decide)))
theorem fq_X13_countLoops {K : Nat} {z0 : ow_MS}   : ∀ (k L : Nat) (x2 : Int32) (x3 : Int32) (r1 : Nat) (t0 : Int32) (t1 : Int32) (z : ow_MS), fr (pf [] []) z0 z → (L = 0 ∨ L = 1 ∨ L = 2 → 1000 ≤ r1) → Fo Prod.snd (pf [] []) z0 (q_X13_countLoops K k L x2 x3 r1 t0 t1 z)
  | 0 => by
    intros
    exact fo_none
  | k + 1 => by
    intro L x2 x3 r1 t0 t1 z hz h9_r1
    show Fo Prod.snd (pf [] []) z0 (qb_X13_countLoops K (q_X13_countLoops K k) L x2 x3 r1 t0 t1 z)
    unfold qb_X13_countLoops
    split
    · exact fb_X13_countLoops_0 (fq_X13_countLoops k) hz (h9_r1 (by decide))
    · exact fb_X13_countLoops_1 (fq_X13_countLoops k) hz (h9_r1 (by decide))
    · exact fb_X13_countLoops_2 (fq_X13_countLoops k) hz (h9_r1 (by decide))
    · exact fo_none
theorem ff_X13_countLoops {K : Nat} {r1 : Nat} {z : ow_MS} (hr1 : 1000 ≤ r1) : Fo Prod.snd (pf [] []) z (qe_X13_countLoops K r1 z) := fq_X13_countLoops K 0 _ _ _ _ _ z fr_rf (fun _ => (by first | omega | decide))
theorem fb_X13_makeJones_0 {K : Nat} {z0 z : ow_MS}  {go : Nat → Int32 → Int32 → Int32 → Int32 → Int32 → Int32 → Int32 → Int32 → Int64 → Int64 → Int64 → Nat → Int32 → Int64 → Int64 → ow_MS → Option ow_MS} {x2 : Int32} {x3 : Int32} {x4 : Int32} {x5 : Int32} {x10 : Int32} {x11 : Int32} {x12 : Int32} {x13 : Int32} {w6 : Int64} {w8 : Int64} {w14 : Int64} {r1 : Nat} {t2 : Int32} {y0 : Int64} {y1 : Int64}  (hgo : ∀ (L : Nat) (x2 : Int32) (x3 : Int32) (x4 : Int32) (x5 : Int32) (x10 : Int32) (x11 : Int32) (x12 : Int32) (x13 : Int32) (w6 : Int64) (w8 : Int64) (w14 : Int64) (r1 : Nat) (t2 : Int32) (y0 : Int64) (y1 : Int64) (z : ow_MS), fr (pf [47, 48, 51] []) z0 z → (L = 0 ∨ L = 1 ∨ L = 2 ∨ L = 3 ∨ L = 4 ∨ L = 5 ∨ L = 6 ∨ L = 7 ∨ L = 8 ∨ L = 9 → 1000 ≤ r1) → Fo id (pf [47, 48, 51] []) z0 (go L x2 x3 x4 x5 x10 x11 x12 x13 w6 w8 w14 r1 t2 y0 y1 z)) (hz : fr (pf [47, 48, 51] []) z0 z) (hr1 : 1000 ≤ r1) : Fo id (pf [47, 48, 51] []) z0 (qm_X13_makeJones_0 K go x2 x3 x4 x5 x10 x11 x12 x13 w6 w8 w14 r1 t2 y0 y1 z) := by
  unfold qm_X13_makeJones_0
  exact (fo_rdF (fun v1 => (fo_nzI (fo_cs1 (ff_X13_circlesOf (by first | omega | decide)) (pf_sub (by decide) pf_0) hz (fun v3 z2 h_z2 => (hgo 1 _ _ _ _ _ _ _ _ _ _ _ _ _ _ _ z2 h_z2 (fun _ => (by first | omega | decide))))))))
theorem fb_X13_makeJones_1 {K : Nat} {z0 z : ow_MS}  {go : Nat → Int32 → Int32 → Int32 → Int32 → Int32 → Int32 → Int32 → Int32 → Int64 → Int64 → Int64 → Nat → Int32 → Int64 → Int64 → ow_MS → Option ow_MS} {x2 : Int32} {x3 : Int32} {x4 : Int32} {x5 : Int32} {x10 : Int32} {x11 : Int32} {x12 : Int32} {x13 : Int32} {w6 : Int64} {w8 : Int64} {w14 : Int64} {r1 : Nat} {t2 : Int32} {y0 : Int64} {y1 : Int64}  (hgo : ∀ (L : Nat) (x2 : Int32) (x3 : Int32) (x4 : Int32) (x5 : Int32) (x10 : Int32) (x11 : Int32) (x12 : Int32) (x13 : Int32) (w6 : Int64) (w8 : Int64) (w14 : Int64) (r1 : Nat) (t2 : Int32) (y0 : Int64) (y1 : Int64) (z : ow_MS), fr (pf [47, 48, 51] []) z0 z → (L = 0 ∨ L = 1 ∨ L = 2 ∨ L = 3 ∨ L = 4 ∨ L = 5 ∨ L = 6 ∨ L = 7 ∨ L = 8 ∨ L = 9 → 1000 ≤ r1) → Fo id (pf [47, 48, 51] []) z0 (go L x2 x3 x4 x5 x10 x11 x12 x13 w6 w8 w14 r1 t2 y0 y1 z)) (hz : fr (pf [47, 48, 51] []) z0 z) (hr1 : 1000 ≤ r1) : Fo id (pf [47, 48, 51] []) z0 (qm_X13_makeJones_1 K go x2 x3 x4 x5 x10 x11 x12 x13 w6 w8 w14 r1 t2 y0 y1 z) := by
  unfold qm_X13_makeJones_1
  exact (fo_if (hgo 2 _ _ _ _ _ _ _ _ _ _ _ _ _ _ _ z hz (fun _ => (by first | omega | decide))) (fo_wrJ (Or.inl (by decide)) hz (fun z4 h_z4 => (hgo 1 _ _ _ _ _ _ _ _ _ _ _ _ _ _ _ z4 h_z4 (fun _ => (by first | omega | decide))))))
theorem fb_X13_makeJones_2 {K : Nat} {z0 z : ow_MS}  {go : Nat → Int32 → Int32 → Int32 → Int32 → Int32 → Int32 → Int32 → Int32 → Int64 → Int64 → Int64 → Nat → Int32 → Int64 → Int64 → ow_MS → Option ow_MS} {x2 : Int32} {x3 : Int32} {x4 : Int32} {x5 : Int32} {x10 : Int32} {x11 : Int32} {x12 : Int32} {x13 : Int32} {w6 : Int64} {w8 : Int64} {w14 : Int64} {r1 : Nat} {t2 : Int32} {y0 : Int64} {y1 : Int64}  (hgo : ∀ (L : Nat) (x2 : Int32) (x3 : Int32) (x4 : Int32) (x5 : Int32) (x10 : Int32) (x11 : Int32) (x12 : Int32) (x13 : Int32) (w6 : Int64) (w8 : Int64) (w14 : Int64) (r1 : Nat) (t2 : Int32) (y0 : Int64) (y1 : Int64) (z : ow_MS), fr (pf [47, 48, 51] []) z0 z → (L = 0 ∨ L = 1 ∨ L = 2 ∨ L = 3 ∨ L = 4 ∨ L = 5 ∨ L = 6 ∨ L = 7 ∨ L = 8 ∨ L = 9 → 1000 ≤ r1) → Fo id (pf [47, 48, 51] []) z0 (go L x2 x3 x4 x5 x10 x11 x12 x13 w6 w8 w14 r1 t2 y0 y1 z)) (hz : fr (pf [47, 48, 51] []) z0 z) (hr1 : 1000 ≤ r1) : Fo id (pf [47, 48, 51] []) z0 (qm_X13_makeJones_2 K go x2 x3 x4 x5 x10 x11 x12 x13 w6 w8 w14 r1 t2 y0 y1 z) := by
  unfold qm_X13_makeJones_2
  exact (fo_if (hgo 3 _ _ _ _ _ _ _ _ _ _ _ _ _ _ _ z hz (fun _ => (by first | omega | decide))) (fo_cs0 (ff_X13_loops (by first | omega | decide)) (pf_sub (by decide) pf_0) hz (fun z5 h_z5 => (fo_cs1 (ff_X13_countLoops (by first | omega | decide)) (pf_sub (by decide) pf_0) h_z5 (fun v8 z7 h_z7 => (fo_rdJ (fun v9 => (fo_wrJ (Or.inl (by decide)) h_z7 (fun z10 h_z10 => (hgo 2 _ _ _ _ _ _ _ _ _ _ _ _ _ _ _ z10 h_z10 (fun _ => (by first | omega | decide))))))))))))
theorem fb_X13_makeJones_3 {K : Nat} {z0 z : ow_MS}  {go : Nat → Int32 → Int32 → Int32 → Int32 → Int32 → Int32 → Int32 → Int32 → Int64 → Int64 → Int64 → Nat → Int32 → Int64 → Int64 → ow_MS → Option ow_MS} {x2 : Int32} {x3 : Int32} {x4 : Int32} {x5 : Int32} {x10 : Int32} {x11 : Int32} {x12 : Int32} {x13 : Int32} {w6 : Int64} {w8 : Int64} {w14 : Int64} {r1 : Nat} {t2 : Int32} {y0 : Int64} {y1 : Int64}  (hgo : ∀ (L : Nat) (x2 : Int32) (x3 : Int32) (x4 : Int32) (x5 : Int32) (x10 : Int32) (x11 : Int32) (x12 : Int32) (x13 : Int32) (w6 : Int64) (w8 : Int64) (w14 : Int64) (r1 : Nat) (t2 : Int32) (y0 : Int64) (y1 : Int64) (z : ow_MS), fr (pf [47, 48, 51] []) z0 z → (L = 0 ∨ L = 1 ∨ L = 2 ∨ L = 3 ∨ L = 4 ∨ L = 5 ∨ L = 6 ∨ L = 7 ∨ L = 8 ∨ L = 9 → 1000 ≤ r1) → Fo id (pf [47, 48, 51] []) z0 (go L x2 x3 x4 x5 x10 x11 x12 x13 w6 w8 w14 r1 t2 y0 y1 z)) (hz : fr (pf [47, 48, 51] []) z0 z) (hr1 : 1000 ≤ r1) : Fo id (pf [47, 48, 51] []) z0 (qm_X13_makeJones_3 K go x2 x3 x4 x5 x10 x11 x12 x13 w6 w8 w14 r1 t2 y0 y1 z) := by
  unfold qm_X13_makeJones_3
  exact (fo_if (fo_cs1 (ff_X13_writheOf (by first | omega | decide)) (pf_sub (by decide) pf_0) hz (fun v12 z11 h_z11 => (hgo 4 _ _ _ _ _ _ _ _ _ _ _ _ _ _ _ z11 h_z11 (fun _ => (by first | omega | decide))))) (fo_wrJ (Or.inl (by decide)) hz (fun z13 h_z13 => (hgo 3 _ _ _ _ _ _ _ _ _ _ _ _ _ _ _ z13 h_z13 (fun _ => (by first | omega | decide))))))
theorem fb_X13_makeJones_4 {K : Nat} {z0 z : ow_MS}  {go : Nat → Int32 → Int32 → Int32 → Int32 → Int32 → Int32 → Int32 → Int32 → Int64 → Int64 → Int64 → Nat → Int32 → Int64 → Int64 → ow_MS → Option ow_MS} {x2 : Int32} {x3 : Int32} {x4 : Int32} {x5 : Int32} {x10 : Int32} {x11 : Int32} {x12 : Int32} {x13 : Int32} {w6 : Int64} {w8 : Int64} {w14 : Int64} {r1 : Nat} {t2 : Int32} {y0 : Int64} {y1 : Int64}  (hgo : ∀ (L : Nat) (x2 : Int32) (x3 : Int32) (x4 : Int32) (x5 : Int32) (x10 : Int32) (x11 : Int32) (x12 : Int32) (x13 : Int32) (w6 : Int64) (w8 : Int64) (w14 : Int64) (r1 : Nat) (t2 : Int32) (y0 : Int64) (y1 : Int64) (z : ow_MS), fr (pf [47, 48, 51] []) z0 z → (L = 0 ∨ L = 1 ∨ L = 2 ∨ L = 3 ∨ L = 4 ∨ L = 5 ∨ L = 6 ∨ L = 7 ∨ L = 8 ∨ L = 9 → 1000 ≤ r1) → Fo id (pf [47, 48, 51] []) z0 (go L x2 x3 x4 x5 x10 x11 x12 x13 w6 w8 w14 r1 t2 y0 y1 z)) (hz : fr (pf [47, 48, 51] []) z0 z) (hr1 : 1000 ≤ r1) : Fo id (pf [47, 48, 51] []) z0 (qm_X13_makeJones_4 K go x2 x3 x4 x5 x10 x11 x12 x13 w6 w8 w14 r1 t2 y0 y1 z) := by
  unfold qm_X13_makeJones_4
  exact (fo_if (fo_some hz) (fo_if (hgo 5 _ _ _ _ _ _ _ _ _ _ _ _ _ _ _ z hz (fun _ => (by first | omega | decide))) (hgo 5 _ _ _ _ _ _ _ _ _ _ _ _ _ _ _ z hz (fun _ => (by first | omega | decide)))))
theorem fb_X13_makeJones_5 {K : Nat} {z0 z : ow_MS}  {go : Nat → Int32 → Int32 → Int32 → Int32 → Int32 → Int32 → Int32 → Int32 → Int64 → Int64 → Int64 → Nat → Int32 → Int64 → Int64 → ow_MS → Option ow_MS} {x2 : Int32} {x3 : Int32} {x4 : Int32} {x5 : Int32} {x10 : Int32} {x11 : Int32} {x12 : Int32} {x13 : Int32} {w6 : Int64} {w8 : Int64} {w14 : Int64} {r1 : Nat} {t2 : Int32} {y0 : Int64} {y1 : Int64}  (hgo : ∀ (L : Nat) (x2 : Int32) (x3 : Int32) (x4 : Int32) (x5 : Int32) (x10 : Int32) (x11 : Int32) (x12 : Int32) (x13 : Int32) (w6 : Int64) (w8 : Int64) (w14 : Int64) (r1 : Nat) (t2 : Int32) (y0 : Int64) (y1 : Int64) (z : ow_MS), fr (pf [47, 48, 51] []) z0 z → (L = 0 ∨ L = 1 ∨ L = 2 ∨ L = 3 ∨ L = 4 ∨ L = 5 ∨ L = 6 ∨ L = 7 ∨ L = 8 ∨ L = 9 → 1000 ≤ r1) → Fo id (pf [47, 48, 51] []) z0 (go L x2 x3 x4 x5 x10 x11 x12 x13 w6 w8 w14 r1 t2 y0 y1 z)) (hz : fr (pf [47, 48, 51] []) z0 z) (hr1 : 1000 ≤ r1) : Fo id (pf [47, 48, 51] []) z0 (qm_X13_makeJones_5 K go x2 x3 x4 x5 x10 x11 x12 x13 w6 w8 w14 r1 t2 y0 y1 z) := by
  unfold qm_X13_makeJones_5
  exact (hgo 6 _ _ _ _ _ _ _ _ _ _ _ _ _ _ _ z hz (fun _ => (by first | omega | decide)))
theorem fb_X13_makeJones_6 {K : Nat} {z0 z : ow_MS}  {go : Nat → Int32 → Int32 → Int32 → Int32 → Int32 → Int32 → Int32 → Int32 → Int64 → Int64 → Int64 → Nat → Int32 → Int64 → Int64 → ow_MS → Option ow_MS} {x2 : Int32} {x3 : Int32} {x4 : Int32} {x5 : Int32} {x10 : Int32} {x11 : Int32} {x12 : Int32} {x13 : Int32} {w6 : Int64} {w8 : Int64} {w14 : Int64} {r1 : Nat} {t2 : Int32} {y0 : Int64} {y1 : Int64}  (hgo : ∀ (L : Nat) (x2 : Int32) (x3 : Int32) (x4 : Int32) (x5 : Int32) (x10 : Int32) (x11 : Int32) (x12 : Int32) (x13 : Int32) (w6 : Int64) (w8 : Int64) (w14 : Int64) (r1 : Nat) (t2 : Int32) (y0 : Int64) (y1 : Int64) (z : ow_MS), fr (pf [47, 48, 51] []) z0 z → (L = 0 ∨ L = 1 ∨ L = 2 ∨ L = 3 ∨ L = 4 ∨ L = 5 ∨ L = 6 ∨ L = 7 ∨ L = 8 ∨ L = 9 → 1000 ≤ r1) → Fo id (pf [47, 48, 51] []) z0 (go L x2 x3 x4 x5 x10 x11 x12 x13 w6 w8 w14 r1 t2 y0 y1 z)) (hz : fr (pf [47, 48, 51] []) z0 z) (hr1 : 1000 ≤ r1) : Fo id (pf [47, 48, 51] []) z0 (qm_X13_makeJones_6 K go x2 x3 x4 x5 x10 x11 x12 x13 w6 w8 w14 r1 t2 y0 y1 z) := by
  unfold qm_X13_makeJones_6
  exact (fo_if (hgo 4 _ _ _ _ _ _ _ _ _ _ _ _ _ _ _ z hz (fun _ => (by first | omega | decide))) (hgo 7 _ _ _ _ _ _ _ _ _ _ _ _ _ _ _ z hz (fun _ => (by first | omega | decide))))
theorem fb_X13_makeJones_7 {K : Nat} {z0 z : ow_MS}  {go : Nat → Int32 → Int32 → Int32 → Int32 → Int32 → Int32 → Int32 → Int32 → Int64 → Int64 → Int64 → Nat → Int32 → Int64 → Int64 → ow_MS → Option ow_MS} {x2 : Int32} {x3 : Int32} {x4 : Int32} {x5 : Int32} {x10 : Int32} {x11 : Int32} {x12 : Int32} {x13 : Int32} {w6 : Int64} {w8 : Int64} {w14 : Int64} {r1 : Nat} {t2 : Int32} {y0 : Int64} {y1 : Int64}  (hgo : ∀ (L : Nat) (x2 : Int32) (x3 : Int32) (x4 : Int32) (x5 : Int32) (x10 : Int32) (x11 : Int32) (x12 : Int32) (x13 : Int32) (w6 : Int64) (w8 : Int64) (w14 : Int64) (r1 : Nat) (t2 : Int32) (y0 : Int64) (y1 : Int64) (z : ow_MS), fr (pf [47, 48, 51] []) z0 z → (L = 0 ∨ L = 1 ∨ L = 2 ∨ L = 3 ∨ L = 4 ∨ L = 5 ∨ L = 6 ∨ L = 7 ∨ L = 8 ∨ L = 9 → 1000 ≤ r1) → Fo id (pf [47, 48, 51] []) z0 (go L x2 x3 x4 x5 x10 x11 x12 x13 w6 w8 w14 r1 t2 y0 y1 z)) (hz : fr (pf [47, 48, 51] []) z0 z) (hr1 : 1000 ≤ r1) : Fo id (pf [47, 48, 51] []) z0 (qm_X13_makeJones_7 K go x2 x3 x4 x5 x10 x11 x12 x13 w6 w8 w14 r1 t2 y0 y1 z) := by
  unfold qm_X13_makeJones_7
  exact (fo_if (fo_nzJ (hgo 6 _ _ _ _ _ _ _ _ _ _ _ _ _ _ _ z hz (fun _ => (by first | omega | decide)))) (fo_rdJ (fun v14 => (fo_if (hgo 9 _ _ _ _ _ _ _ _ _ _ _ _ _ _ _ z hz (fun _ => (by first | omega | decide))) (fo_rdJ (fun v15 => (fo_if (hgo 8 _ _ _ _ _ _ _ _ _ _ _ _ _ _ _ z hz (fun _ => (by first | omega | decide))) (hgo 8 _ _ _ _ _ _ _ _ _ _ _ _ _ _ _ z hz (fun _ => (by first | omega | decide))))))))))
theorem fb_X13_makeJones_8 {K : Nat} {z0 z : ow_MS}  {go : Nat → Int32 → Int32 → Int32 → Int32 → Int32 → Int32 → Int32 → Int32 → Int64 → Int64 → Int64 → Nat → Int32 → Int64 → Int64 → ow_MS → Option ow_MS} {x2 : Int32} {x3 : Int32} {x4 : Int32} {x5 : Int32} {x10 : Int32} {x11 : Int32} {x12 : Int32} {x13 : Int32} {w6 : Int64} {w8 : Int64} {w14 : Int64} {r1 : Nat} {t2 : Int32} {y0 : Int64} {y1 : Int64}  (hgo : ∀ (L : Nat) (x2 : Int32) (x3 : Int32) (x4 : Int32) (x5 : Int32) (x10 : Int32) (x11 : Int32) (x12 : Int32) (x13 : Int32) (w6 : Int64) (w8 : Int64) (w14 : Int64) (r1 : Nat) (t2 : Int32) (y0 : Int64) (y1 : Int64) (z : ow_MS), fr (pf [47, 48, 51] []) z0 z → (L = 0 ∨ L = 1 ∨ L = 2 ∨ L = 3 ∨ L = 4 ∨ L = 5 ∨ L = 6 ∨ L = 7 ∨ L = 8 ∨ L = 9 → 1000 ≤ r1) → Fo id (pf [47, 48, 51] []) z0 (go L x2 x3 x4 x5 x10 x11 x12 x13 w6 w8 w14 r1 t2 y0 y1 z)) (hz : fr (pf [47, 48, 51] []) z0 z) (hr1 : 1000 ≤ r1) : Fo id (pf [47, 48, 51] []) z0 (qm_X13_makeJones_8 K go x2 x3 x4 x5 x10 x11 x12 x13 w6 w8 w14 r1 t2 y0 y1 z) := by
  unfold qm_X13_makeJones_8
  exact (fo_wrJ (Or.inl (by decide)) hz (fun z16 h_z16 => (hgo 9 _ _ _ _ _ _ _ _ _ _ _ _ _ _ _ z16 h_z16 (fun _ => (by first | omega | decide)))))
theorem fb_X13_makeJones_9 {K : Nat} {z0 z : ow_MS}  {go : Nat → Int32 → Int32 → Int32 → Int32 → Int32 → Int32 → Int32 → Int32 → Int64 → Int64 → Int64 → Nat → Int32 → Int64 → Int64 → ow_MS → Option ow_MS} {x2 : Int32} {x3 : Int32} {x4 : Int32} {x5 : Int32} {x10 : Int32} {x11 : Int32} {x12 : Int32} {x13 : Int32} {w6 : Int64} {w8 : Int64} {w14 : Int64} {r1 : Nat} {t2 : Int32} {y0 : Int64} {y1 : Int64}  (hgo : ∀ (L : Nat) (x2 : Int32) (x3 : Int32) (x4 : Int32) (x5 : Int32) (x10 : Int32) (x11 : Int32) (x12 : Int32) (x13 : Int32) (w6 : Int64) (w8 : Int64) (w14 : Int64) (r1 : Nat) (t2 : Int32) (y0 : Int64) (y1 : Int64) (z : ow_MS), fr (pf [47, 48, 51] []) z0 z → (L = 0 ∨ L = 1 ∨ L = 2 ∨ L = 3 ∨ L = 4 ∨ L = 5 ∨ L = 6 ∨ L = 7 ∨ L = 8 ∨ L = 9 → 1000 ≤ r1) → Fo id (pf [47, 48, 51] []) z0 (go L x2 x3 x4 x5 x10 x11 x12 x13 w6 w8 w14 r1 t2 y0 y1 z)) (hz : fr (pf [47, 48, 51] []) z0 z) (hr1 : 1000 ≤ r1) : Fo id (pf [47, 48, 51] []) z0 (qm_X13_makeJones_9 K go x2 x3 x4 x5 x10 x11 x12 x13 w6 w8 w14 r1 t2 y0 y1 z) := by
  unfold qm_X13_makeJones_9
  exact (hgo 7 _ _ _ _ _ _ _ _ _ _ _ _ _ _ _ z hz (fun _ => (by first | omega | decide)))
theorem fq_X13_makeJones {K : Nat} {z0 : ow_MS}   : ∀ (k L : Nat) (x2 : Int32) (x3 : Int32) (x4 : Int32) (x5 : Int32) (x10 : Int32) (x11 : Int32) (x12 : Int32) (x13 : Int32) (w6 : Int64) (w8 : Int64) (w14 : Int64) (r1 : Nat) (t2 : Int32) (y0 : Int64) (y1 : Int64) (z : ow_MS), fr (pf [47, 48, 51] []) z0 z → (L = 0 ∨ L = 1 ∨ L = 2 ∨ L = 3 ∨ L = 4 ∨ L = 5 ∨ L = 6 ∨ L = 7 ∨ L = 8 ∨ L = 9 → 1000 ≤ r1) → Fo id (pf [47, 48, 51] []) z0 (q_X13_makeJones K k L x2 x3 x4 x5 x10 x11 x12 x13 w6 w8 w14 r1 t2 y0 y1 z)
  | 0 => by
    intros
    exact fo_none
  | k + 1 => by
    intro L x2 x3 x4 x5 x10 x11 x12 x13 w6 w8 w14 r1 t2 y0 y1 z hz h9_r1
    show Fo id (pf [47, 48, 51] []) z0 (qb_X13_makeJones K (q_X13_makeJones K k) L x2 x3 x4 x5 x10 x11 x12 x13 w6 w8 w14 r1 t2 y0 y1 z)
    unfold qb_X13_makeJones
    split
    · exact fb_X13_makeJones_0 (fq_X13_makeJones k) hz (h9_r1 (by decide))
    · exact fb_X13_makeJones_1 (fq_X13_makeJones k) hz (h9_r1 (by decide))
    · exact fb_X13_makeJones_2 (fq_X13_makeJones k) hz (h9_r1 (by decide))
    · exact fb_X13_makeJones_3 (fq_X13_makeJones k) hz (h9_r1 (by decide))
    · exact fb_X13_makeJones_4 (fq_X13_makeJones k) hz (h9_r1 (by decide))
    · exact fb_X13_makeJones_5 (fq_X13_makeJones k) hz (h9_r1 (by decide))
    · exact fb_X13_makeJones_6 (fq_X13_makeJones k) hz (h9_r1 (by decide))
    · exact fb_X13_makeJones_7 (fq_X13_makeJones k) hz (h9_r1 (by decide))
    · exact fb_X13_makeJones_8 (fq_X13_makeJones k) hz (h9_r1 (by decide))
    · exact fb_X13_makeJones_9 (fq_X13_makeJones k) hz (h9_r1 (by decide))
    · exact fo_none
theorem ff_X13_makeJones {K : Nat} {r1 : Nat} {z : ow_MS} (hr1 : 1000 ≤ r1) : Fo id (pf [47, 48, 51] []) z (qe_X13_makeJones K r1 z) := fq_X13_makeJones K 0 _ _ _ _ _ _ _ _ _ _ _ _ _ _ _ z fr_rf (fun _ => (by first | omega | decide))
theorem fb_X13_jones_0 {K : Nat} {z0 z : ow_MS}  {go : Nat → Int32 → Int32 → Int32 → ow_MS → Option (Int32 × ow_MS)} {x1 : Int32} {x2 : Int32} {x3 : Int32}  (hgo : ∀ (L : Nat) (x1 : Int32) (x2 : Int32) (x3 : Int32) (z : ow_MS), fr (pf [1, 47, 48, 50, 51] []) z0 z → Fo Prod.snd (pf [1, 47, 48, 50, 51] []) z0 (go L x1 x2 x3 z)) (hz : fr (pf [1, 47, 48, 50, 51] []) z0 z)  : Fo Prod.snd (pf [1, 47, 48, 50, 51] []) z0 (qm_X13_jones_0 K go x1 x2 x3 z) := by
  unfold qm_X13_jones_0
  exact (fo_wrF (Or.inl (by decide)) hz (fun z1 h_z1 => (fo_cs1 (ff_X13_has) (pf_sub (by decide) pf_0) h_z1 (fun v3 z2 h_z2 => (fo_if (fo_cs1 (ff_X13_fails) (pf_sub (by decide) pf_0) h_z2 (fun v9 z8 h_z8 => (fo_some h_z8))) (fo_cs1 (ff_X13_isSame) (pf_sub (by decide) pf_0) h_z2 (fun v5 z4 h_z4 => (fo_if (fo_cs0 (ff_X13_open (by first | omega | decide)) (pf_sub (by decide) pf_0) h_z4 (fun z6 h_z6 => (fo_cs0 (ff_X13_makeJones (by first | omega | decide)) (pf_sub (by decide) pf_0) h_z6 (fun z7 h_z7 => (hgo 1 _ _ _ z7 h_z7))))) (hgo 2 _ _ _ z4 h_z4)))))))))
theorem fb_X13_jones_1 {K : Nat} {z0 z : ow_MS}  {go : Nat → Int32 → Int32 → Int32 → ow_MS → Option (Int32 × ow_MS)} {x1 : Int32} {x2 : Int32} {x3 : Int32}  (hgo : ∀ (L : Nat) (x1 : Int32) (x2 : Int32) (x3 : Int32) (z : ow_MS), fr (pf [1, 47, 48, 50, 51] []) z0 z → Fo Prod.snd (pf [1, 47, 48, 50, 51] []) z0 (go L x1 x2 x3 z)) (hz : fr (pf [1, 47, 48, 50, 51] []) z0 z)  : Fo Prod.snd (pf [1, 47, 48, 50, 51] []) z0 (qm_X13_jones_1 K go x1 x2 x3 z) := by
  unfold qm_X13_jones_1
  exact (fo_if (hgo 2 _ _ _ z hz) (fo_rdI (fun v10 => (fo_wrI (Or.inl (by decide)) hz (fun z11 h_z11 => (hgo 1 _ _ _ z11 h_z11))))))
theorem fb_X13_jones_2 {K : Nat} {z0 z : ow_MS}  {go : Nat → Int32 → Int32 → Int32 → ow_MS → Option (Int32 × ow_MS)} {x1 : Int32} {x2 : Int32} {x3 : Int32}  (hgo : ∀ (L : Nat) (x1 : Int32) (x2 : Int32) (x3 : Int32) (z : ow_MS), fr (pf [1, 47, 48, 50, 51] []) z0 z → Fo Prod.snd (pf [1, 47, 48, 50, 51] []) z0 (go L x1 x2 x3 z)) (hz : fr (pf [1, 47, 48, 50, 51] []) z0 z)  : Fo Prod.snd (pf [1, 47, 48, 50, 51] []) z0 (qm_X13_jones_2 K go x1 x2 x3 z) := by
  unfold qm_X13_jones_2
  exact (fo_if (hgo 3 _ _ _ z hz) (fo_if (fo_rdJ (fun v12 => (fo_some hz))) (hgo 3 _ _ _ z hz)))
theorem fb_X13_jones_3 {K : Nat} {z0 z : ow_MS}  {go : Nat → Int32 → Int32 → Int32 → ow_MS → Option (Int32 × ow_MS)} {x1 : Int32} {x2 : Int32} {x3 : Int32}  (hgo : ∀ (L : Nat) (x1 : Int32) (x2 : Int32) (x3 : Int32) (z : ow_MS), fr (pf [1, 47, 48, 50, 51] []) z0 z → Fo Prod.snd (pf [1, 47, 48, 50, 51] []) z0 (go L x1 x2 x3 z)) (hz : fr (pf [1, 47, 48, 50, 51] []) z0 z)  : Fo Prod.snd (pf [1, 47, 48, 50, 51] []) z0 (qm_X13_jones_3 K go x1 x2 x3 z) := by
  unfold qm_X13_jones_3
  exact (fo_some hz)
theorem fq_X13_jones {K : Nat} {z0 : ow_MS}   : ∀ (k L : Nat) (x1 : Int32) (x2 : Int32) (x3 : Int32) (z : ow_MS), fr (pf [1, 47, 48, 50, 51] []) z0 z → Fo Prod.snd (pf [1, 47, 48, 50, 51] []) z0 (q_X13_jones K k L x1 x2 x3 z)
  | 0 => by
    intros
    exact fo_none
  | k + 1 => by
    intro L x1 x2 x3 z hz 
    show Fo Prod.snd (pf [1, 47, 48, 50, 51] []) z0 (qb_X13_jones K (q_X13_jones K k) L x1 x2 x3 z)
    unfold qb_X13_jones
    split
    · exact fb_X13_jones_0 (fq_X13_jones k) hz 
    · exact fb_X13_jones_1 (fq_X13_jones k) hz 
    · exact fb_X13_jones_2 (fq_X13_jones k) hz 
    · exact fb_X13_jones_3 (fq_X13_jones k) hz 
    · exact fo_none
theorem ff_X13_jones {K : Nat} {x1 : Int32} {x2 : Int32} {z : ow_MS}  : Fo Prod.snd (pf [1, 47, 48, 50, 51] []) z (qe_X13_jones K x1 x2 z) := fq_X13_jones K 0 _ _ _ z fr_rf 
theorem fb_X13_colourFaces_0 {K : Nat} {z0 z : ow_MS}  {go : Nat → Int32 → Int32 → Int32 → Int32 → Int32 → Int32 → Nat → Int32 → Int32 → ow_MS → Option (Int32 × ow_MS)} {x2 : Int32} {x3 : Int32} {x4 : Int32} {x5 : Int32} {x6 : Int32} {x7 : Int32} {r1 : Nat} {t0 : Int32} {t1 : Int32}  (hgo : ∀ (L : Nat) (x2 : Int32) (x3 : Int32) (x4 : Int32) (x5 : Int32) (x6 : Int32) (x7 : Int32) (r1 : Nat) (t0 : Int32) (t1 : Int32) (z : ow_MS), fr (pf [52, 53] []) z0 z → (L = 0 ∨ L = 1 ∨ L = 2 ∨ L = 3 ∨ L = 4 ∨ L = 5 ∨ L = 6 ∨ L = 7 ∨ L = 8 ∨ L = 9 → 1000 ≤ r1) → Fo Prod.snd (pf [52, 53] []) z0 (go L x2 x3 x4 x5 x6 x7 r1 t0 t1 z)) (hz : fr (pf [52, 53] []) z0 z) (hr1 : 1000 ≤ r1) : Fo Prod.snd (pf [52, 53] []) z0 (qm_X13_colourFaces_0 K go x2 x3 x4 x5 x6 x7 r1 t0 t1 z) := by
  unfold qm_X13_colourFaces_0
  exact (fo_rdI (fun v1 => (fo_rdI (fun v2 => (hgo 1 _ _ _ _ _ _ _ _ _ z hz (fun _ => (by first | omega | decide)))))))
theorem fb_X13_colourFaces_1 {K : Nat} {z0 z : ow_MS}  {go : Nat → Int32 → Int32 → Int32 → Int32 → Int32 → Int32 → Nat → Int32 → Int32 → ow_MS → Option (Int32 × ow_MS)} {x2 : Int32} {x3 : Int32} {x4 : Int32} {x5 : Int32} {x6 : Int32} {x7 : Int32} {r1 : Nat} {t0 : Int32} {t1 : Int32}  (hgo : ∀ (L : Nat) (x2 : Int32) (x3 : Int32) (x4 : Int32) (x5 : Int32) (x6 : Int32) (x7 : Int32) (r1 : Nat) (t0 : Int32) (t1 : Int32) (z : ow_MS), fr (pf [52, 53] []) z0 z → (L = 0 ∨ L = 1 ∨ L = 2 ∨ L = 3 ∨ L = 4 ∨ L = 5 ∨ L = 6 ∨ L = 7 ∨ L = 8 ∨ L = 9 → 1000 ≤ r1) → Fo Prod.snd (pf [52, 53] []) z0 (go L x2 x3 x4 x5 x6 x7 r1 t0 t1 z)) (hz : fr (pf [52, 53] []) z0 z) (hr1 : 1000 ≤ r1) : Fo Prod.snd (pf [52, 53] []) z0 (qm_X13_colourFaces_1 K go x2 x3 x4 x5 x6 x7 r1 t0 t1 z) := by
  unfold qm_X13_colourFaces_1
  exact (fo_if (fo_rdI (fun v3 => (fo_wrI (Or.inl (by decide)) hz (fun z4 h_z4 => (hgo 2 _ _ _ _ _ _ _ _ _ z4 h_z4 (fun _ => (by first | omega | decide))))))) (fo_wrI (Or.inl (by decide)) hz (fun z5 h_z5 => (hgo 1 _ _ _ _ _ _ _ _ _ z5 h_z5 (fun _ => (by first | omega | decide))))))
theorem fb_X13_colourFaces_2 {K : Nat} {z0 z : ow_MS}  {go : Nat → Int32 → Int32 → Int32 → Int32 → Int32 → Int32 → Nat → Int32 → Int32 → ow_MS → Option (Int32 × ow_MS)} {x2 : Int32} {x3 : Int32} {x4 : Int32} {x5 : Int32} {x6 : Int32} {x7 : Int32} {r1 : Nat} {t0 : Int32} {t1 : Int32}  (hgo : ∀ (L : Nat) (x2 : Int32) (x3 : Int32) (x4 : Int32) (x5 : Int32) (x6 : Int32) (x7 : Int32) (r1 : Nat) (t0 : Int32) (t1 : Int32) (z : ow_MS), fr (pf [52, 53] []) z0 z → (L = 0 ∨ L = 1 ∨ L = 2 ∨ L = 3 ∨ L = 4 ∨ L = 5 ∨ L = 6 ∨ L = 7 ∨ L = 8 ∨ L = 9 → 1000 ≤ r1) → Fo Prod.snd (pf [52, 53] []) z0 (go L x2 x3 x4 x5 x6 x7 r1 t0 t1 z)) (hz : fr (pf [52, 53] []) z0 z) (hr1 : 1000 ≤ r1) : Fo Prod.snd (pf [52, 53] []) z0 (qm_X13_colourFaces_2 K go x2 x3 x4 x5 x6 x7 r1 t0 t1 z) := by
  unfold qm_X13_colourFaces_2
  exact (fo_if (hgo 8 _ _ _ _ _ _ _ _ _ z hz (fun _ => (by first | omega | decide))) (hgo 3 _ _ _ _ _ _ _ _ _ z hz (fun _ => (by first | omega | decide))))
theorem fb_X13_colourFaces_3 {K : Nat} {z0 z : ow_MS}  {go : Nat → Int32 → Int32 → Int32 → Int32 → Int32 → Int32 → Nat → Int32 → Int32 → ow_MS → Option (Int32 × ow_MS)} {x2 : Int32} {x3 : Int32} {x4 : Int32} {x5 : Int32} {x6 : Int32} {x7 : Int32} {r1 : Nat} {t0 : Int32} {t1 : Int32}  (hgo : ∀ (L : Nat) (x2 : Int32) (x3 : Int32) (x4 : Int32) (x5 : Int32) (x6 : Int32) (x7 : Int32) (r1 : Nat) (t0 : Int32) (t1 : Int32) (z : ow_MS), fr (pf [52, 53] []) z0 z → (L = 0 ∨ L = 1 ∨ L = 2 ∨ L = 3 ∨ L = 4 ∨ L = 5 ∨ L = 6 ∨ L = 7 ∨ L = 8 ∨ L = 9 → 1000 ≤ r1) → Fo Prod.snd (pf [52, 53] []) z0 (go L x2 x3 x4 x5 x6 x7 r1 t0 t1 z)) (hz : fr (pf [52, 53] []) z0 z) (hr1 : 1000 ≤ r1) : Fo Prod.snd (pf [52, 53] []) z0 (qm_X13_colourFaces_3 K go x2 x3 x4 x5 x6 x7 r1 t0 t1 z) := by
  unfold qm_X13_colourFaces_3
  exact (fo_rdF (fun v6 => (fo_if (hgo 2 _ _ _ _ _ _ _ _ _ z hz (fun _ => (by first | omega | decide))) (fo_rdI (fun v7 => (fo_rdI (fun v8 => (fo_rdI (fun v9 => (fo_rdI (fun v10 => (fo_if (fo_rdI (fun v11 => (fo_if (hgo 4 _ _ _ _ _ _ _ _ _ z hz (fun _ => (by first | omega | decide))) (hgo 4 _ _ _ _ _ _ _ _ _ z hz (fun _ => (by first | omega | decide)))))) (hgo 7 _ _ _ _ _ _ _ _ _ z hz (fun _ => (by first | omega | decide)))))))))))))))
theorem fb_X13_colourFaces_4 {K : Nat} {z0 z : ow_MS}  {go : Nat → Int32 → Int32 → Int32 → Int32 → Int32 → Int32 → Nat → Int32 → Int32 → ow_MS → Option (Int32 × ow_MS)} {x2 : Int32} {x3 : Int32} {x4 : Int32} {x5 : Int32} {x6 : Int32} {x7 : Int32} {r1 : Nat} {t0 : Int32} {t1 : Int32}  (hgo : ∀ (L : Nat) (x2 : Int32) (x3 : Int32) (x4 : Int32) (x5 : Int32) (x6 : Int32) (x7 : Int32) (r1 : Nat) (t0 : Int32) (t1 : Int32) (z : ow_MS), fr (pf [52, 53] []) z0 z → (L = 0 ∨ L = 1 ∨ L = 2 ∨ L = 3 ∨ L = 4 ∨ L = 5 ∨ L = 6 ∨ L = 7 ∨ L = 8 ∨ L = 9 → 1000 ≤ r1) → Fo Prod.snd (pf [52, 53] []) z0 (go L x2 x3 x4 x5 x6 x7 r1 t0 t1 z)) (hz : fr (pf [52, 53] []) z0 z) (hr1 : 1000 ≤ r1) : Fo Prod.snd (pf [52, 53] []) z0 (qm_X13_colourFaces_4 K go x2 x3 x4 x5 x6 x7 r1 t0 t1 z) := by
  unfold qm_X13_colourFaces_4
  exact (fo_rdI (fun v12 => (fo_if (hgo 5 _ _ _ _ _ _ _ _ _ z hz (fun _ => (by first | omega | decide))) (hgo 5 _ _ _ _ _ _ _ _ _ z hz (fun _ => (by first | omega | decide))))))
theorem fb_X13_colourFaces_5 {K : Nat} {z0 z : ow_MS}  {go : Nat → Int32 → Int32 → Int32 → Int32 → Int32 → Int32 → Nat → Int32 → Int32 → ow_MS → Option (Int32 × ow_MS)} {x2 : Int32} {x3 : Int32} {x4 : Int32} {x5 : Int32} {x6 : Int32} {x7 : Int32} {r1 : Nat} {t0 : Int32} {t1 : Int32}  (hgo : ∀ (L : Nat) (x2 : Int32) (x3 : Int32) (x4 : Int32) (x5 : Int32) (x6 : Int32) (x7 : Int32) (r1 : Nat) (t0 : Int32) (t1 : Int32) (z : ow_MS), fr (pf [52, 53] []) z0 z → (L = 0 ∨ L = 1 ∨ L = 2 ∨ L = 3 ∨ L = 4 ∨ L = 5 ∨ L = 6 ∨ L = 7 ∨ L = 8 ∨ L = 9 → 1000 ≤ r1) → Fo Prod.snd (pf [52, 53] []) z0 (go L x2 x3 x4 x5 x6 x7 r1 t0 t1 z)) (hz : fr (pf [52, 53] []) z0 z) (hr1 : 1000 ≤ r1) : Fo Prod.snd (pf [52, 53] []) z0 (qm_X13_colourFaces_5 K go x2 x3 x4 x5 x6 x7 r1 t0 t1 z) := by
  unfold qm_X13_colourFaces_5
  exact (fo_if (hgo 7 _ _ _ _ _ _ _ _ _ z hz (fun _ => (by first | omega | decide))) (fo_rdI (fun v13 => (fo_if (fo_rdI (fun v16 => (fo_wrI (Or.inl (by decide)) hz (fun z17 h_z17 => (hgo 6 _ _ _ _ _ _ _ _ _ z17 h_z17 (fun _ => (by first | omega | decide))))))) (fo_rdI (fun v14 => (fo_wrI (Or.inl (by decide)) hz (fun z15 h_z15 => (hgo 6 _ _ _ _ _ _ _ _ _ z15 h_z15 (fun _ => (by first | omega | decide)))))))))))
theorem fb_X13_colourFaces_6 {K : Nat} {z0 z : ow_MS}  {go : Nat → Int32 → Int32 → Int32 → Int32 → Int32 → Int32 → Nat → Int32 → Int32 → ow_MS → Option (Int32 × ow_MS)} {x2 : Int32} {x3 : Int32} {x4 : Int32} {x5 : Int32} {x6 : Int32} {x7 : Int32} {r1 : Nat} {t0 : Int32} {t1 : Int32}  (hgo : ∀ (L : Nat) (x2 : Int32) (x3 : Int32) (x4 : Int32) (x5 : Int32) (x6 : Int32) (x7 : Int32) (r1 : Nat) (t0 : Int32) (t1 : Int32) (z : ow_MS), fr (pf [52, 53] []) z0 z → (L = 0 ∨ L = 1 ∨ L = 2 ∨ L = 3 ∨ L = 4 ∨ L = 5 ∨ L = 6 ∨ L = 7 ∨ L = 8 ∨ L = 9 → 1000 ≤ r1) → Fo Prod.snd (pf [52, 53] []) z0 (go L x2 x3 x4 x5 x6 x7 r1 t0 t1 z)) (hz : fr (pf [52, 53] []) z0 z) (hr1 : 1000 ≤ r1) : Fo Prod.snd (pf [52, 53] []) z0 (qm_X13_colourFaces_6 K go x2 x3 x4 x5 x6 x7 r1 t0 t1 z) := by
  unfold qm_X13_colourFaces_6
  exact (hgo 7 _ _ _ _ _ _ _ _ _ z hz (fun _ => (by first | omega | decide)))
theorem fb_X13_colourFaces_7 {K : Nat} {z0 z : ow_MS}  {go : Nat → Int32 → Int32 → Int32 → Int32 → Int32 → Int32 → Nat → Int32 → Int32 → ow_MS → Option (Int32 × ow_MS)} {x2 : Int32} {x3 : Int32} {x4 : Int32} {x5 : Int32} {x6 : Int32} {x7 : Int32} {r1 : Nat} {t0 : Int32} {t1 : Int32}  (hgo : ∀ (L : Nat) (x2 : Int32) (x3 : Int32) (x4 : Int32) (x5 : Int32) (x6 : Int32) (x7 : Int32) (r1 : Nat) (t0 : Int32) (t1 : Int32) (z : ow_MS), fr (pf [52, 53] []) z0 z → (L = 0 ∨ L = 1 ∨ L = 2 ∨ L = 3 ∨ L = 4 ∨ L = 5 ∨ L = 6 ∨ L = 7 ∨ L = 8 ∨ L = 9 → 1000 ≤ r1) → Fo Prod.snd (pf [52, 53] []) z0 (go L x2 x3 x4 x5 x6 x7 r1 t0 t1 z)) (hz : fr (pf [52, 53] []) z0 z) (hr1 : 1000 ≤ r1) : Fo Prod.snd (pf [52, 53] []) z0 (qm_X13_colourFaces_7 K go x2 x3 x4 x5 x6 x7 r1 t0 t1 z) := by
  unfold qm_X13_colourFaces_7
  exact (hgo 3 _ _ _ _ _ _ _ _ _ z hz (fun _ => (by first | omega | decide)))
theorem fb_X13_colourFaces_8 {K : Nat} {z0 z : ow_MS}  {go : Nat → Int32 → Int32 → Int32 → Int32 → Int32 → Int32 → Nat → Int32 → Int32 → ow_MS → Option (Int32 × ow_MS)} {x2 : Int32} {x3 : Int32} {x4 : Int32} {x5 : Int32} {x6 : Int32} {x7 : Int32} {r1 : Nat} {t0 : Int32} {t1 : Int32}  (hgo : ∀ (L : Nat) (x2 : Int32) (x3 : Int32) (x4 : Int32) (x5 : Int32) (x6 : Int32) (x7 : Int32) (r1 : Nat) (t0 : Int32) (t1 : Int32) (z : ow_MS), fr (pf [52, 53] []) z0 z → (L = 0 ∨ L = 1 ∨ L = 2 ∨ L = 3 ∨ L = 4 ∨ L = 5 ∨ L = 6 ∨ L = 7 ∨ L = 8 ∨ L = 9 → 1000 ≤ r1) → Fo Prod.snd (pf [52, 53] []) z0 (go L x2 x3 x4 x5 x6 x7 r1 t0 t1 z)) (hz : fr (pf [52, 53] []) z0 z) (hr1 : 1000 ≤ r1) : Fo Prod.snd (pf [52, 53] []) z0 (qm_X13_colourFaces_8 K go x2 x3 x4 x5 x6 x7 r1 t0 t1 z) := by
  unfold qm_X13_colourFaces_8
  exact (fo_rdF (fun v18 => (fo_if (fo_some hz) (fo_rdI (fun v19 => (fo_if (fo_wrI (Or.inl (by decide)) hz (fun z20 h_z20 => (hgo 9 _ _ _ _ _ _ _ _ _ z20 h_z20 (fun _ => (by first | omega | decide))))) (hgo 9 _ _ _ _ _ _ _ _ _ z hz (fun _ => (by first | omega | decide)))))))))
theorem fb_X13_colourFaces_9 {K : Nat} {z0 z : ow_MS}  {go : Nat → Int32 → Int32 → Int32 → Int32 → Int32 → Int32 → Nat → Int32 → Int32 → ow_MS → Option (Int32 × ow_MS)} {x2 : Int32} {x3 : Int32} {x4 : Int32} {x5 : Int32} {x6 : Int32} {x7 : Int32} {r1 : Nat} {t0 : Int32} {t1 : Int32}  (hgo : ∀ (L : Nat) (x2 : Int32) (x3 : Int32) (x4 : Int32) (x5 : Int32) (x6 : Int32) (x7 : Int32) (r1 : Nat) (t0 : Int32) (t1 : Int32) (z : ow_MS), fr (pf [52, 53] []) z0 z → (L = 0 ∨ L = 1 ∨ L = 2 ∨ L = 3 ∨ L = 4 ∨ L = 5 ∨ L = 6 ∨ L = 7 ∨ L = 8 ∨ L = 9 → 1000 ≤ r1) → Fo Prod.snd (pf [52, 53] []) z0 (go L x2 x3 x4 x5 x6 x7 r1 t0 t1 z)) (hz : fr (pf [52, 53] []) z0 z) (hr1 : 1000 ≤ r1) : Fo Prod.snd (pf [52, 53] []) z0 (qm_X13_colourFaces_9 K go x2 x3 x4 x5 x6 x7 r1 t0 t1 z) := by
  unfold qm_X13_colourFaces_9
  exact (hgo 8 _ _ _ _ _ _ _ _ _ z hz (fun _ => (by first | omega | decide)))
theorem fq_X13_colourFaces {K : Nat} {z0 : ow_MS}   : ∀ (k L : Nat) (x2 : Int32) (x3 : Int32) (x4 : Int32) (x5 : Int32) (x6 : Int32) (x7 : Int32) (r1 : Nat) (t0 : Int32) (t1 : Int32) (z : ow_MS), fr (pf [52, 53] []) z0 z → (L = 0 ∨ L = 1 ∨ L = 2 ∨ L = 3 ∨ L = 4 ∨ L = 5 ∨ L = 6 ∨ L = 7 ∨ L = 8 ∨ L = 9 → 1000 ≤ r1) → Fo Prod.snd (pf [52, 53] []) z0 (q_X13_colourFaces K k L x2 x3 x4 x5 x6 x7 r1 t0 t1 z)
  | 0 => by
    intros
    exact fo_none
  | k + 1 => by
    intro L x2 x3 x4 x5 x6 x7 r1 t0 t1 z hz h9_r1
    show Fo Prod.snd (pf [52, 53] []) z0 (qb_X13_colourFaces K (q_X13_colourFaces K k) L x2 x3 x4 x5 x6 x7 r1 t0 t1 z)
    unfold qb_X13_colourFaces
    split
    · exact fb_X13_colourFaces_0 (fq_X13_colourFaces k) hz (h9_r1 (by decide))
    · exact fb_X13_colourFaces_1 (fq_X13_colourFaces k) hz (h9_r1 (by decide))
    · exact fb_X13_colourFaces_2 (fq_X13_colourFaces k) hz (h9_r1 (by decide))
    · exact fb_X13_colourFaces_3 (fq_X13_colourFaces k) hz (h9_r1 (by decide))
    · exact fb_X13_colourFaces_4 (fq_X13_colourFaces k) hz (h9_r1 (by decide))
    · exact fb_X13_colourFaces_5 (fq_X13_colourFaces k) hz (h9_r1 (by decide))
    · exact fb_X13_colourFaces_6 (fq_X13_colourFaces k) hz (h9_r1 (by decide))
    · exact fb_X13_colourFaces_7 (fq_X13_colourFaces k) hz (h9_r1 (by decide))
    · exact fb_X13_colourFaces_8 (fq_X13_colourFaces k) hz (h9_r1 (by decide))
    · exact fb_X13_colourFaces_9 (fq_X13_colourFaces k) hz (h9_r1 (by decide))
    · exact fo_none
theorem ff_X13_colourFaces {K : Nat} {r1 : Nat} {x2 : Int32} {z : ow_MS} (hr1 : 1000 ≤ r1) : Fo Prod.snd (pf [52, 53] []) z (qe_X13_colourFaces K r1 x2 z) := fq_X13_colourFaces K 0 _ _ _ _ _ _ _ _ _ z fr_rf (fun _ => (by first | omega | decide))
theorem fb_X13_changes_0 {K : Nat} {z0 z : ow_MS}  {go : Nat → Int32 → Int32 → Int32 → Int32 → Int32 → Int32 → Int32 → Int32 → ow_MS → Option (Int32 × ow_MS)} {x1 : Int32} {x2 : Int32} {x3 : Int32} {x4 : Int32} {x5 : Int32} {x6 : Int32} {t0 : Int32} {t1 : Int32}  (hgo : ∀ (L : Nat) (x1 : Int32) (x2 : Int32) (x3 : Int32) (x4 : Int32) (x5 : Int32) (x6 : Int32) (t0 : Int32) (t1 : Int32) (z : ow_MS), fr (pf [] []) z0 z → Fo Prod.snd (pf [] []) z0 (go L x1 x2 x3 x4 x5 x6 t0 t1 z)) (hz : fr (pf [] []) z0 z)  : Fo Prod.snd (pf [] []) z0 (qm_X13_changes_0 K go x1 x2 x3 x4 x5 x6 t0 t1 z) := by
  unfold qm_X13_changes_0
  exact (hgo 1 _ _ _ _ _ _ _ _ z hz)
theorem fb_X13_changes_1 {K : Nat} {z0 z : ow_MS}  {go : Nat → Int32 → Int32 → Int32 → Int32 → Int32 → Int32 → Int32 → Int32 → ow_MS → Option (Int32 × ow_MS)} {x1 : Int32} {x2 : Int32} {x3 : Int32} {x4 : Int32} {x5 : Int32} {x6 : Int32} {t0 : Int32} {t1 : Int32}  (hgo : ∀ (L : Nat) (x1 : Int32) (x2 : Int32) (x3 : Int32) (x4 : Int32) (x5 : Int32) (x6 : Int32) (t0 : Int32) (t1 : Int32) (z : ow_MS), fr (pf [] []) z0 z → Fo Prod.snd (pf [] []) z0 (go L x1 x2 x3 x4 x5 x6 t0 t1 z)) (hz : fr (pf [] []) z0 z)  : Fo Prod.snd (pf [] []) z0 (qm_X13_changes_1 K go x1 x2 x3 x4 x5 x6 t0 t1 z) := by
  unfold qm_X13_changes_1
  exact (fo_if (fo_some hz) (fo_rdJ (fun v1 => (fo_if (hgo 2 _ _ _ _ _ _ _ _ z hz) (fo_if (hgo 2 _ _ _ _ _ _ _ _ z hz) (hgo 2 _ _ _ _ _ _ _ _ z hz))))))
theorem fb_X13_changes_2 {K : Nat} {z0 z : ow_MS}  {go : Nat → Int32 → Int32 → Int32 → Int32 → Int32 → Int32 → Int32 → Int32 → ow_MS → Option (Int32 × ow_MS)} {x1 : Int32} {x2 : Int32} {x3 : Int32} {x4 : Int32} {x5 : Int32} {x6 : Int32} {t0 : Int32} {t1 : Int32}  (hgo : ∀ (L : Nat) (x1 : Int32) (x2 : Int32) (x3 : Int32) (x4 : Int32) (x5 : Int32) (x6 : Int32) (t0 : Int32) (t1 : Int32) (z : ow_MS), fr (pf [] []) z0 z → Fo Prod.snd (pf [] []) z0 (go L x1 x2 x3 x4 x5 x6 t0 t1 z)) (hz : fr (pf [] []) z0 z)  : Fo Prod.snd (pf [] []) z0 (qm_X13_changes_2 K go x1 x2 x3 x4 x5 x6 t0 t1 z) := by
  unfold qm_X13_changes_2
  exact (fo_if (hgo 5 _ _ _ _ _ _ _ _ z hz) (fo_if (hgo 3 _ _ _ _ _ _ _ _ z hz) (fo_if (hgo 3 _ _ _ _ _ _ _ _ z hz) (hgo 4 _ _ _ _ _ _ _ _ z hz))))
theorem fb_X13_changes_3 {K : Nat} {z0 z : ow_MS}  {go : Nat → Int32 → Int32 → Int32 → Int32 → Int32 → Int32 → Int32 → Int32 → ow_MS → Option (Int32 × ow_MS)} {x1 : Int32} {x2 : Int32} {x3 : Int32} {x4 : Int32} {x5 : Int32} {x6 : Int32} {t0 : Int32} {t1 : Int32}  (hgo : ∀ (L : Nat) (x1 : Int32) (x2 : Int32) (x3 : Int32) (x4 : Int32) (x5 : Int32) (x6 : Int32) (t0 : Int32) (t1 : Int32) (z : ow_MS), fr (pf [] []) z0 z → Fo Prod.snd (pf [] []) z0 (go L x1 x2 x3 x4 x5 x6 t0 t1 z)) (hz : fr (pf [] []) z0 z)  : Fo Prod.snd (pf [] []) z0 (qm_X13_changes_3 K go x1 x2 x3 x4 x5 x6 t0 t1 z) := by
  unfold qm_X13_changes_3
  exact (hgo 4 _ _ _ _ _ _ _ _ z hz)
theorem fb_X13_changes_4 {K : Nat} {z0 z : ow_MS}  {go : Nat → Int32 → Int32 → Int32 → Int32 → Int32 → Int32 → Int32 → Int32 → ow_MS → Option (Int32 × ow_MS)} {x1 : Int32} {x2 : Int32} {x3 : Int32} {x4 : Int32} {x5 : Int32} {x6 : Int32} {t0 : Int32} {t1 : Int32}  (hgo : ∀ (L : Nat) (x1 : Int32) (x2 : Int32) (x3 : Int32) (x4 : Int32) (x5 : Int32) (x6 : Int32) (t0 : Int32) (t1 : Int32) (z : ow_MS), fr (pf [] []) z0 z → Fo Prod.snd (pf [] []) z0 (go L x1 x2 x3 x4 x5 x6 t0 t1 z)) (hz : fr (pf [] []) z0 z)  : Fo Prod.snd (pf [] []) z0 (qm_X13_changes_4 K go x1 x2 x3 x4 x5 x6 t0 t1 z) := by
  unfold qm_X13_changes_4
  exact (hgo 5 _ _ _ _ _ _ _ _ z hz)
theorem fb_X13_changes_5 {K : Nat} {z0 z : ow_MS}  {go : Nat → Int32 → Int32 → Int32 → Int32 → Int32 → Int32 → Int32 → Int32 → ow_MS → Option (Int32 × ow_MS)} {x1 : Int32} {x2 : Int32} {x3 : Int32} {x4 : Int32} {x5 : Int32} {x6 : Int32} {t0 : Int32} {t1 : Int32}  (hgo : ∀ (L : Nat) (x1 : Int32) (x2 : Int32) (x3 : Int32) (x4 : Int32) (x5 : Int32) (x6 : Int32) (t0 : Int32) (t1 : Int32) (z : ow_MS), fr (pf [] []) z0 z → Fo Prod.snd (pf [] []) z0 (go L x1 x2 x3 x4 x5 x6 t0 t1 z)) (hz : fr (pf [] []) z0 z)  : Fo Prod.snd (pf [] []) z0 (qm_X13_changes_5 K go x1 x2 x3 x4 x5 x6 t0 t1 z) := by
  unfold qm_X13_changes_5
  exact (hgo 1 _ _ _ _ _ _ _ _ z hz)
theorem fq_X13_changes {K : Nat} {z0 : ow_MS}   : ∀ (k L : Nat) (x1 : Int32) (x2 : Int32) (x3 : Int32) (x4 : Int32) (x5 : Int32) (x6 : Int32) (t0 : Int32) (t1 : Int32) (z : ow_MS), fr (pf [] []) z0 z → Fo Prod.snd (pf [] []) z0 (q_X13_changes K k L x1 x2 x3 x4 x5 x6 t0 t1 z)
  | 0 => by
    intros
    exact fo_none
  | k + 1 => by
    intro L x1 x2 x3 x4 x5 x6 t0 t1 z hz 
    show Fo Prod.snd (pf [] []) z0 (qb_X13_changes K (q_X13_changes K k) L x1 x2 x3 x4 x5 x6 t0 t1 z)
    unfold qb_X13_changes
    split
    · exact fb_X13_changes_0 (fq_X13_changes k) hz 
    · exact fb_X13_changes_1 (fq_X13_changes k) hz 
    · exact fb_X13_changes_2 (fq_X13_changes k) hz 
    · exact fb_X13_changes_3 (fq_X13_changes k) hz 
    · exact fb_X13_changes_4 (fq_X13_changes k) hz 
    · exact fb_X13_changes_5 (fq_X13_changes k) hz 
    · exact fo_none
theorem ff_X13_changes {K : Nat} {x1 : Int32} {x2 : Int32} {z : ow_MS}  : Fo Prod.snd (pf [] []) z (qe_X13_changes K x1 x2 z) := fq_X13_changes K 0 _ _ _ _ _ _ _ _ z fr_rf 
theorem fb_X13_times_0 {K : Nat} {z0 z : ow_MS}  {go : Nat → Int32 → Int32 → Int32 → Int32 → Int64 → ow_MS → Option ow_MS} {x1 : Int32} {x2 : Int32} {x3 : Int32} {x6 : Int32} {w4 : Int64}  (hgo : ∀ (L : Nat) (x1 : Int32) (x2 : Int32) (x3 : Int32) (x6 : Int32) (w4 : Int64) (z : ow_MS), fr (pf [55] []) z0 z → Fo id (pf [55] []) z0 (go L x1 x2 x3 x6 w4 z)) (hz : fr (pf [55] []) z0 z)  : Fo id (pf [55] []) z0 (qm_X13_times_0 K go x1 x2 x3 x6 w4 z) := by
  unfold qm_X13_times_0
  exact (hgo 1 _ _ _ _ _ z hz)
theorem fb_X13_times_1 {K : Nat} {z0 z : ow_MS}  {go : Nat → Int32 → Int32 → Int32 → Int32 → Int64 → ow_MS → Option ow_MS} {x1 : Int32} {x2 : Int32} {x3 : Int32} {x6 : Int32} {w4 : Int64}  (hgo : ∀ (L : Nat) (x1 : Int32) (x2 : Int32) (x3 : Int32) (x6 : Int32) (w4 : Int64) (z : ow_MS), fr (pf [55] []) z0 z → Fo id (pf [55] []) z0 (go L x1 x2 x3 x6 w4 z)) (hz : fr (pf [55] []) z0 z)  : Fo id (pf [55] []) z0 (qm_X13_times_1 K go x1 x2 x3 x6 w4 z) := by
  unfold qm_X13_times_1
  exact (fo_if (fo_some hz) (hgo 2 _ _ _ _ _ z hz))
theorem fb_X13_times_2 {K : Nat} {z0 z : ow_MS}  {go : Nat → Int32 → Int32 → Int32 → Int32 → Int64 → ow_MS → Option ow_MS} {x1 : Int32} {x2 : Int32} {x3 : Int32} {x6 : Int32} {w4 : Int64}  (hgo : ∀ (L : Nat) (x1 : Int32) (x2 : Int32) (x3 : Int32) (x6 : Int32) (w4 : Int64) (z : ow_MS), fr (pf [55] []) z0 z → Fo id (pf [55] []) z0 (go L x1 x2 x3 x6 w4 z)) (hz : fr (pf [55] []) z0 z)  : Fo id (pf [55] []) z0 (qm_X13_times_2 K go x1 x2 x3 x6 w4 z) := by
  unfold qm_X13_times_2
  exact (fo_if (hgo 1 _ _ _ _ _ z hz) (hgo 3 _ _ _ _ _ z hz))
theorem fb_X13_times_3 {K : Nat} {z0 z : ow_MS}  {go : Nat → Int32 → Int32 → Int32 → Int32 → Int64 → ow_MS → Option ow_MS} {x1 : Int32} {x2 : Int32} {x3 : Int32} {x6 : Int32} {w4 : Int64}  (hgo : ∀ (L : Nat) (x1 : Int32) (x2 : Int32) (x3 : Int32) (x6 : Int32) (w4 : Int64) (z : ow_MS), fr (pf [55] []) z0 z → Fo id (pf [55] []) z0 (go L x1 x2 x3 x6 w4 z)) (hz : fr (pf [55] []) z0 z)  : Fo id (pf [55] []) z0 (qm_X13_times_3 K go x1 x2 x3 x6 w4 z) := by
  unfold qm_X13_times_3
  exact (fo_if (fo_wrJ (Or.inl (by decide)) hz (fun z1 h_z1 => (hgo 2 _ _ _ _ _ z1 h_z1))) (fo_rdJ (fun v2 => (fo_rdJ (fun v3 => (hgo 3 _ _ _ _ _ z hz))))))
theorem fq_X13_times {K : Nat} {z0 : ow_MS}   : ∀ (k L : Nat) (x1 : Int32) (x2 : Int32) (x3 : Int32) (x6 : Int32) (w4 : Int64) (z : ow_MS), fr (pf [55] []) z0 z → Fo id (pf [55] []) z0 (q_X13_times K k L x1 x2 x3 x6 w4 z)
  | 0 => by
    intros
    exact fo_none
  | k + 1 => by
    intro L x1 x2 x3 x6 w4 z hz 
    show Fo id (pf [55] []) z0 (qb_X13_times K (q_X13_times K k) L x1 x2 x3 x6 w4 z)
    unfold qb_X13_times
    split
    · exact fb_X13_times_0 (fq_X13_times k) hz 
    · exact fb_X13_times_1 (fq_X13_times k) hz 
    · exact fb_X13_times_2 (fq_X13_times k) hz 
    · exact fb_X13_times_3 (fq_X13_times k) hz 
    · exact fo_none
theorem ff_X13_times {K : Nat} {x1 : Int32} {z : ow_MS}  : Fo id (pf [55] []) z (qe_X13_times K x1 z) := fq_X13_times K 0 _ _ _ _ _ z fr_rf 
theorem fb_X13_rootsOf_0 {K : Nat} {z0 z : ow_MS}  {go : Nat → Int32 → Int32 → Int32 → Int32 → Int32 → Int64 → Int32 → Int64 → Int64 → ow_MS → Option (Int32 × ow_MS)} {x1 : Int32} {x2 : Int32} {x3 : Int32} {x4 : Int32} {x5 : Int32} {w3 : Int64} {t2 : Int32} {y0 : Int64} {y1 : Int64}  (hgo : ∀ (L : Nat) (x1 : Int32) (x2 : Int32) (x3 : Int32) (x4 : Int32) (x5 : Int32) (w3 : Int64) (t2 : Int32) (y0 : Int64) (y1 : Int64) (z : ow_MS), fr (pf [55, 56, 57] []) z0 z → Fo Prod.snd (pf [55, 56, 57] []) z0 (go L x1 x2 x3 x4 x5 w3 t2 y0 y1 z)) (hz : fr (pf [55, 56, 57] []) z0 z)  : Fo Prod.snd (pf [55, 56, 57] []) z0 (qm_X13_rootsOf_0 K go x1 x2 x3 x4 x5 w3 t2 y0 y1 z) := by
  unfold qm_X13_rootsOf_0
  exact (hgo 1 _ _ _ _ _ _ _ _ _ z hz)
theorem fb_X13_rootsOf_1 {K : Nat} {z0 z : ow_MS}  {go : Nat → Int32 → Int32 → Int32 → Int32 → Int32 → Int64 → Int32 → Int64 → Int64 → ow_MS → Option (Int32 × ow_MS)} {x1 : Int32} {x2 : Int32} {x3 : Int32} {x4 : Int32} {x5 : Int32} {w3 : Int64} {t2 : Int32} {y0 : Int64} {y1 : Int64}  (hgo : ∀ (L : Nat) (x1 : Int32) (x2 : Int32) (x3 : Int32) (x4 : Int32) (x5 : Int32) (w3 : Int64) (t2 : Int32) (y0 : Int64) (y1 : Int64) (z : ow_MS), fr (pf [55, 56, 57] []) z0 z → Fo Prod.snd (pf [55, 56, 57] []) z0 (go L x1 x2 x3 x4 x5 w3 t2 y0 y1 z)) (hz : fr (pf [55, 56, 57] []) z0 z)  : Fo Prod.snd (pf [55, 56, 57] []) z0 (qm_X13_rootsOf_1 K go x1 x2 x3 x4 x5 w3 t2 y0 y1 z) := by
  unfold qm_X13_rootsOf_1
  exact (fo_if (fo_wrJ (Or.inl (by decide)) hz (fun z1 h_z1 => (hgo 2 _ _ _ _ _ _ _ _ _ z1 h_z1))) (fo_wrJ (Or.inl (by decide)) hz (fun z2 h_z2 => (hgo 1 _ _ _ _ _ _ _ _ _ z2 h_z2))))
theorem fb_X13_rootsOf_2 {K : Nat} {z0 z : ow_MS}  {go : Nat → Int32 → Int32 → Int32 → Int32 → Int32 → Int64 → Int32 → Int64 → Int64 → ow_MS → Option (Int32 × ow_MS)} {x1 : Int32} {x2 : Int32} {x3 : Int32} {x4 : Int32} {x5 : Int32} {w3 : Int64} {t2 : Int32} {y0 : Int64} {y1 : Int64}  (hgo : ∀ (L : Nat) (x1 : Int32) (x2 : Int32) (x3 : Int32) (x4 : Int32) (x5 : Int32) (w3 : Int64) (t2 : Int32) (y0 : Int64) (y1 : Int64) (z : ow_MS), fr (pf [55, 56, 57] []) z0 z → Fo Prod.snd (pf [55, 56, 57] []) z0 (go L x1 x2 x3 x4 x5 w3 t2 y0 y1 z)) (hz : fr (pf [55, 56, 57] []) z0 z)  : Fo Prod.snd (pf [55, 56, 57] []) z0 (qm_X13_rootsOf_2 K go x1 x2 x3 x4 x5 w3 t2 y0 y1 z) := by
  unfold qm_X13_rootsOf_2
  exact (fo_if (fo_cs1 (ff_X13_changes) (pf_sub (by decide) pf_0) hz (fun v4 z3 h_z3 => (fo_cs1 (ff_X13_changes) (pf_sub (by decide) pf_0) h_z3 (fun v6 z5 h_z5 => (fo_some h_z5))))) (fo_cs0 (ff_X13_times) (pf_sub (by decide) pf_0) hz (fun z7 h_z7 => (hgo 3 _ _ _ _ _ _ _ _ _ z7 h_z7))))
theorem fb_X13_rootsOf_3 {K : Nat} {z0 z : ow_MS}  {go : Nat → Int32 → Int32 → Int32 → Int32 → Int32 → Int64 → Int32 → Int64 → Int64 → ow_MS → Option (Int32 × ow_MS)} {x1 : Int32} {x2 : Int32} {x3 : Int32} {x4 : Int32} {x5 : Int32} {w3 : Int64} {t2 : Int32} {y0 : Int64} {y1 : Int64}  (hgo : ∀ (L : Nat) (x1 : Int32) (x2 : Int32) (x3 : Int32) (x4 : Int32) (x5 : Int32) (w3 : Int64) (t2 : Int32) (y0 : Int64) (y1 : Int64) (z : ow_MS), fr (pf [55, 56, 57] []) z0 z → Fo Prod.snd (pf [55, 56, 57] []) z0 (go L x1 x2 x3 x4 x5 w3 t2 y0 y1 z)) (hz : fr (pf [55, 56, 57] []) z0 z)  : Fo Prod.snd (pf [55, 56, 57] []) z0 (qm_X13_rootsOf_3 K go x1 x2 x3 x4 x5 w3 t2 y0 y1 z) := by
  unfold qm_X13_rootsOf_3
  exact (fo_if (fo_cs0 (ff_X13_times) (pf_sub (by decide) pf_0) hz (fun z8 h_z8 => (hgo 6 _ _ _ _ _ _ _ _ _ z8 h_z8))) (hgo 4 _ _ _ _ _ _ _ _ _ z hz))
theorem fb_X13_rootsOf_4 {K : Nat} {z0 z : ow_MS}  {go : Nat → Int32 → Int32 → Int32 → Int32 → Int32 → Int64 → Int32 → Int64 → Int64 → ow_MS → Option (Int32 × ow_MS)} {x1 : Int32} {x2 : Int32} {x3 : Int32} {x4 : Int32} {x5 : Int32} {w3 : Int64} {t2 : Int32} {y0 : Int64} {y1 : Int64}  (hgo : ∀ (L : Nat) (x1 : Int32) (x2 : Int32) (x3 : Int32) (x4 : Int32) (x5 : Int32) (w3 : Int64) (t2 : Int32) (y0 : Int64) (y1 : Int64) (z : ow_MS), fr (pf [55, 56, 57] []) z0 z → Fo Prod.snd (pf [55, 56, 57] []) z0 (go L x1 x2 x3 x4 x5 w3 t2 y0 y1 z)) (hz : fr (pf [55, 56, 57] []) z0 z)  : Fo Prod.snd (pf [55, 56, 57] []) z0 (qm_X13_rootsOf_4 K go x1 x2 x3 x4 x5 w3 t2 y0 y1 z) := by
  unfold qm_X13_rootsOf_4
  exact (fo_if (hgo 3 _ _ _ _ _ _ _ _ _ z hz) (fo_rdJ (fun v9 => (fo_if (fo_rdJ (fun v10 => (hgo 5 _ _ _ _ _ _ _ _ _ z hz))) (hgo 5 _ _ _ _ _ _ _ _ _ z hz)))))
theorem fb_X13_rootsOf_5 {K : Nat} {z0 z : ow_MS}  {go : Nat → Int32 → Int32 → Int32 → Int32 → Int32 → Int64 → Int32 → Int64 → Int64 → ow_MS → Option (Int32 × ow_MS)} {x1 : Int32} {x2 : Int32} {x3 : Int32} {x4 : Int32} {x5 : Int32} {w3 : Int64} {t2 : Int32} {y0 : Int64} {y1 : Int64}  (hgo : ∀ (L : Nat) (x1 : Int32) (x2 : Int32) (x3 : Int32) (x4 : Int32) (x5 : Int32) (w3 : Int64) (t2 : Int32) (y0 : Int64) (y1 : Int64) (z : ow_MS), fr (pf [55, 56, 57] []) z0 z → Fo Prod.snd (pf [55, 56, 57] []) z0 (go L x1 x2 x3 x4 x5 w3 t2 y0 y1 z)) (hz : fr (pf [55, 56, 57] []) z0 z)  : Fo Prod.snd (pf [55, 56, 57] []) z0 (qm_X13_rootsOf_5 K go x1 x2 x3 x4 x5 w3 t2 y0 y1 z) := by
  unfold qm_X13_rootsOf_5
  exact (fo_wrJ (Or.inl (by decide)) hz (fun z11 h_z11 => (hgo 4 _ _ _ _ _ _ _ _ _ z11 h_z11)))
theorem fb_X13_rootsOf_6 {K : Nat} {z0 z : ow_MS}  {go : Nat → Int32 → Int32 → Int32 → Int32 → Int32 → Int64 → Int32 → Int64 → Int64 → ow_MS → Option (Int32 × ow_MS)} {x1 : Int32} {x2 : Int32} {x3 : Int32} {x4 : Int32} {x5 : Int32} {w3 : Int64} {t2 : Int32} {y0 : Int64} {y1 : Int64}  (hgo : ∀ (L : Nat) (x1 : Int32) (x2 : Int32) (x3 : Int32) (x4 : Int32) (x5 : Int32) (w3 : Int64) (t2 : Int32) (y0 : Int64) (y1 : Int64) (z : ow_MS), fr (pf [55, 56, 57] []) z0 z → Fo Prod.snd (pf [55, 56, 57] []) z0 (go L x1 x2 x3 x4 x5 w3 t2 y0 y1 z)) (hz : fr (pf [55, 56, 57] []) z0 z)  : Fo Prod.snd (pf [55, 56, 57] []) z0 (qm_X13_rootsOf_6 K go x1 x2 x3 x4 x5 w3 t2 y0 y1 z) := by
  unfold qm_X13_rootsOf_6
  exact (fo_if (fo_nzJ (fo_wrJ (Or.inl (by decide)) hz (fun z12 h_z12 => (hgo 2 _ _ _ _ _ _ _ _ _ z12 h_z12)))) (fo_rdJ (fun v13 => (hgo 6 _ _ _ _ _ _ _ _ _ z hz))))
theorem fq_X13_rootsOf {K : Nat} {z0 : ow_MS}   : ∀ (k L : Nat) (x1 : Int32) (x2 : Int32) (x3 : Int32) (x4 : Int32) (x5 : Int32) (w3 : Int64) (t2 : Int32) (y0 : Int64) (y1 : Int64) (z : ow_MS), fr (pf [55, 56, 57] []) z0 z → Fo Prod.snd (pf [55, 56, 57] []) z0 (q_X13_rootsOf K k L x1 x2 x3 x4 x5 w3 t2 y0 y1 z)
  | 0 => by
    intros
    exact fo_none
  | k + 1 => by
    intro L x1 x2 x3 x4 x5 w3 t2 y0 y1 z hz 
    show Fo Prod.snd (pf [55, 56, 57] []) z0 (qb_X13_rootsOf K (q_X13_rootsOf K k) L x1 x2 x3 x4 x5 w3 t2 y0 y1 z)
    unfold qb_X13_rootsOf
    split
    · exact fb_X13_rootsOf_0 (fq_X13_rootsOf k) hz 
    · exact fb_X13_rootsOf_1 (fq_X13_rootsOf k) hz 
    · exact fb_X13_rootsOf_2 (fq_X13_rootsOf k) hz 
    · exact fb_X13_rootsOf_3 (fq_X13_rootsOf k) hz 
    · exact fb_X13_rootsOf_4 (fq_X13_rootsOf k) hz 
    · exact fb_X13_rootsOf_5 (fq_X13_rootsOf k) hz 
    · exact fb_X13_rootsOf_6 (fq_X13_rootsOf k) hz 
    · exact fo_none
theorem ff_X13_rootsOf {K : Nat} {x1 : Int32} {z : ow_MS}  : Fo Prod.snd (pf [55, 56, 57] []) z (qe_X13_rootsOf K x1 z) := fq_X13_rootsOf K 0 _ _ _ _ _ _ _ _ _ z fr_rf 
theorem fb_X13_signatureOf_0 {K : Nat} {z0 z : ow_MS}  {go : Nat → Int32 → Int32 → Int32 → Int32 → Int32 → Int32 → Int32 → Int32 → Int32 → Int32 → Int32 → Int32 → Int32 → Int32 → Int32 → Int32 → Nat → Int32 → Int32 → ow_MS → Option (Int32 × ow_MS)} {x2 : Int32} {x3 : Int32} {x4 : Int32} {x5 : Int32} {x6 : Int32} {x7 : Int32} {x8 : Int32} {x9 : Int32} {x10 : Int32} {x11 : Int32} {x12 : Int32} {x13 : Int32} {x14 : Int32} {x15 : Int32} {x16 : Int32} {x17 : Int32} {r1 : Nat} {t0 : Int32} {t1 : Int32}  (hgo : ∀ (L : Nat) (x2 : Int32) (x3 : Int32) (x4 : Int32) (x5 : Int32) (x6 : Int32) (x7 : Int32) (x8 : Int32) (x9 : Int32) (x10 : Int32) (x11 : Int32) (x12 : Int32) (x13 : Int32) (x14 : Int32) (x15 : Int32) (x16 : Int32) (x17 : Int32) (r1 : Nat) (t0 : Int32) (t1 : Int32) (z : ow_MS), fr (pf [52, 53, 54, 55, 56, 57] []) z0 z → (L = 0 ∨ L = 1 ∨ L = 2 ∨ L = 3 ∨ L = 4 ∨ L = 5 ∨ L = 6 ∨ L = 7 ∨ L = 8 ∨ L = 9 ∨ L = 10 → 1000 ≤ r1) → Fo Prod.snd (pf [52, 53, 54, 55, 56, 57] []) z0 (go L x2 x3 x4 x5 x6 x7 x8 x9 x10 x11 x12 x13 x14 x15 x16 x17 r1 t0 t1 z)) (hz : fr (pf [52, 53, 54, 55, 56, 57] []) z0 z) (hr1 : 1000 ≤ r1) : Fo Prod.snd (pf [52, 53, 54, 55, 56, 57] []) z0 (qm_X13_signatureOf_0 K go x2 x3 x4 x5 x6 x7 x8 x9 x10 x11 x12 x13 x14 x15 x16 x17 r1 t0 t1 z) := by
  unfold qm_X13_signatureOf_0
  exact (fo_rdI (fun v1 => (fo_rdI (fun v2 => (fo_cs1 (ff_X13_colourFaces (by first | omega | decide)) (pf_sub (by decide) pf_0) hz (fun v4 z3 h_z3 => (hgo 1 _ _ _ _ _ _ _ _ _ _ _ _ _ _ _ _ _ _ _ z3 h_z3 (fun _ => (by first | omega | decide)))))))))
theorem fb_X13_signatureOf_1 {K : Nat} {z0 z : ow_MS}  {go : Nat → Int32 → Int32 → Int32 → Int32 → Int32 → Int32 → Int32 → Int32 → Int32 → Int32 → Int32 → Int32 → Int32 → Int32 → Int32 → Int32 → Nat → Int32 → Int32 → ow_MS → Option (Int32 × ow_MS)} {x2 : Int32} {x3 : Int32} {x4 : Int32} {x5 : Int32} {x6 : Int32} {x7 : Int32} {x8 : Int32} {x9 : Int32} {x10 : Int32} {x11 : Int32} {x12 : Int32} {x13 : Int32} {x14 : Int32} {x15 : Int32} {x16 : Int32} {x17 : Int32} {r1 : Nat} {t0 : Int32} {t1 : Int32}  (hgo : ∀ (L : Nat) (x2 : Int32) (x3 : Int32) (x4 : Int32) (x5 : Int32) (x6 : Int32) (x7 : Int32) (x8 : Int32) (x9 : Int32) (x10 : Int32) (x11 : Int32) (x12 : Int32) (x13 : Int32) (x14 : Int32) (x15 : Int32) (x16 : Int32) (x17 : Int32) (r1 : Nat) (t0 : Int32) (t1 : Int32) (z : ow_MS), fr (pf [52, 53, 54, 55, 56, 57] []) z0 z → (L = 0 ∨ L = 1 ∨ L = 2 ∨ L = 3 ∨ L = 4 ∨ L = 5 ∨ L = 6 ∨ L = 7 ∨ L = 8 ∨ L = 9 ∨ L = 10 → 1000 ≤ r1) → Fo Prod.snd (pf [52, 53, 54, 55, 56, 57] []) z0 (go L x2 x3 x4 x5 x6 x7 x8 x9 x10 x11 x12 x13 x14 x15 x16 x17 r1 t0 t1 z)) (hz : fr (pf [52, 53, 54, 55, 56, 57] []) z0 z) (hr1 : 1000 ≤ r1) : Fo Prod.snd (pf [52, 53, 54, 55, 56, 57] []) z0 (qm_X13_signatureOf_1 K go x2 x3 x4 x5 x6 x7 x8 x9 x10 x11 x12 x13 x14 x15 x16 x17 r1 t0 t1 z) := by
  unfold qm_X13_signatureOf_1
  exact (fo_if (hgo 2 _ _ _ _ _ _ _ _ _ _ _ _ _ _ _ _ _ _ _ z hz (fun _ => (by first | omega | decide))) (fo_wrJ (Or.inl (by decide)) hz (fun z5 h_z5 => (hgo 1 _ _ _ _ _ _ _ _ _ _ _ _ _ _ _ _ _ _ _ z5 h_z5 (fun _ => (by first | omega | decide))))))
theorem fb_X13_signatureOf_2 {K : Nat} {z0 z : ow_MS}  {go : Nat → Int32 → Int32 → Int32 → Int32 → Int32 → Int32 → Int32 → Int32 → Int32 → Int32 → Int32 → Int32 → Int32 → Int32 → Int32 → Int32 → Nat → Int32 → Int32 → ow_MS → Option (Int32 × ow_MS)} {x2 : Int32} {x3 : Int32} {x4 : Int32} {x5 : Int32} {x6 : Int32} {x7 : Int32} {x8 : Int32} {x9 : Int32} {x10 : Int32} {x11 : Int32} {x12 : Int32} {x13 : Int32} {x14 : Int32} {x15 : Int32} {x16 : Int32} {x17 : Int32} {r1 : Nat} {t0 : Int32} {t1 : Int32}  (hgo : ∀ (L : Nat) (x2 : Int32) (x3 : Int32) (x4 : Int32) (x5 : Int32) (x6 : Int32) (x7 : Int32) (x8 : Int32) (x9 : Int32) (x10 : Int32) (x11 : Int32) (x12 : Int32) (x13 : Int32) (x14 : Int32) (x15 : Int32) (x16 : Int32) (x17 : Int32) (r1 : Nat) (t0 : Int32) (t1 : Int32) (z : ow_MS), fr (pf [52, 53, 54, 55, 56, 57] []) z0 z → (L = 0 ∨ L = 1 ∨ L = 2 ∨ L = 3 ∨ L = 4 ∨ L = 5 ∨ L = 6 ∨ L = 7 ∨ L = 8 ∨ L = 9 ∨ L = 10 → 1000 ≤ r1) → Fo Prod.snd (pf [52, 53, 54, 55, 56, 57] []) z0 (go L x2 x3 x4 x5 x6 x7 x8 x9 x10 x11 x12 x13 x14 x15 x16 x17 r1 t0 t1 z)) (hz : fr (pf [52, 53, 54, 55, 56, 57] []) z0 z) (hr1 : 1000 ≤ r1) : Fo Prod.snd (pf [52, 53, 54, 55, 56, 57] []) z0 (qm_X13_signatureOf_2 K go x2 x3 x4 x5 x6 x7 x8 x9 x10 x11 x12 x13 x14 x15 x16 x17 r1 t0 t1 z) := by
  unfold qm_X13_signatureOf_2
  exact (fo_rdF (fun v6 => (fo_if (fo_cs1 (ff_X13_rootsOf) (pf_sub (by decide) pf_0) hz (fun v8 z7 h_z7 => (fo_some h_z7))) (fo_rdI (fun v9 => (fo_if (fo_rdI (fun v10 => (fo_rdI (fun v11 => (fo_if (fo_rdI (fun v12 => (fo_rdI (fun v13 => (fo_if (hgo 3 _ _ _ _ _ _ _ _ _ _ _ _ _ _ _ _ _ _ _ z hz (fun _ => (by first | omega | decide))) (hgo 3 _ _ _ _ _ _ _ _ _ _ _ _ _ _ _ _ _ _ _ z hz (fun _ => (by first | omega | decide)))))))) (hgo 10 _ _ _ _ _ _ _ _ _ _ _ _ _ _ _ _ _ _ _ z hz (fun _ => (by first | omega | decide)))))))) (hgo 10 _ _ _ _ _ _ _ _ _ _ _ _ _ _ _ _ _ _ _ z hz (fun _ => (by first | omega | decide)))))))))
theorem fb_X13_signatureOf_3 {K : Nat} {z0 z : ow_MS}  {go : Nat → Int32 → Int32 → Int32 → Int32 → Int32 → Int32 → Int32 → Int32 → Int32 → Int32 → Int32 → Int32 → Int32 → Int32 → Int32 → Int32 → Nat → Int32 → Int32 → ow_MS → Option (Int32 × ow_MS)} {x2 : Int32} {x3 : Int32} {x4 : Int32} {x5 : Int32} {x6 : Int32} {x7 : Int32} {x8 : Int32} {x9 : Int32} {x10 : Int32} {x11 : Int32} {x12 : Int32} {x13 : Int32} {x14 : Int32} {x15 : Int32} {x16 : Int32} {x17 : Int32} {r1 : Nat} {t0 : Int32} {t1 : Int32}  (hgo : ∀ (L : Nat) (x2 : Int32) (x3 : Int32) (x4 : Int32) (x5 : Int32) (x6 : Int32) (x7 : Int32) (x8 : Int32) (x9 : Int32) (x10 : Int32) (x11 : Int32) (x12 : Int32) (x13 : Int32) (x14 : Int32) (x15 : Int32) (x16 : Int32) (x17 : Int32) (r1 : Nat) (t0 : Int32) (t1 : Int32) (z : ow_MS), fr (pf [52, 53, 54, 55, 56, 57] []) z0 z → (L = 0 ∨ L = 1 ∨ L = 2 ∨ L = 3 ∨ L = 4 ∨ L = 5 ∨ L = 6 ∨ L = 7 ∨ L = 8 ∨ L = 9 ∨ L = 10 → 1000 ≤ r1) → Fo Prod.snd (pf [52, 53, 54, 55, 56, 57] []) z0 (go L x2 x3 x4 x5 x6 x7 x8 x9 x10 x11 x12 x13 x14 x15 x16 x17 r1 t0 t1 z)) (hz : fr (pf [52, 53, 54, 55, 56, 57] []) z0 z) (hr1 : 1000 ≤ r1) : Fo Prod.snd (pf [52, 53, 54, 55, 56, 57] []) z0 (qm_X13_signatureOf_3 K go x2 x3 x4 x5 x6 x7 x8 x9 x10 x11 x12 x13 x14 x15 x16 x17 r1 t0 t1 z) := by
  unfold qm_X13_signatureOf_3
  exact (fo_if (fo_rdI (fun v14 => (hgo 4 _ _ _ _ _ _ _ _ _ _ _ _ _ _ _ _ _ _ _ z hz (fun _ => (by first | omega | decide))))) (hgo 4 _ _ _ _ _ _ _ _ _ _ _ _ _ _ _ _ _ _ _ z hz (fun _ => (by first | omega | decide))))
theorem fb_X13_signatureOf_4 {K : Nat} {z0 z : ow_MS}  {go : Nat → Int32 → Int32 → Int32 → Int32 → Int32 → Int32 → Int32 → Int32 → Int32 → Int32 → Int32 → Int32 → Int32 → Int32 → Int32 → Int32 → Nat → Int32 → Int32 → ow_MS → Option (Int32 × ow_MS)} {x2 : Int32} {x3 : Int32} {x4 : Int32} {x5 : Int32} {x6 : Int32} {x7 : Int32} {x8 : Int32} {x9 : Int32} {x10 : Int32} {x11 : Int32} {x12 : Int32} {x13 : Int32} {x14 : Int32} {x15 : Int32} {x16 : Int32} {x17 : Int32} {r1 : Nat} {t0 : Int32} {t1 : Int32}  (hgo : ∀ (L : Nat) (x2 : Int32) (x3 : Int32) (x4 : Int32) (x5 : Int32) (x6 : Int32) (x7 : Int32) (x8 : Int32) (x9 : Int32) (x10 : Int32) (x11 : Int32) (x12 : Int32) (x13 : Int32) (x14 : Int32) (x15 : Int32) (x16 : Int32) (x17 : Int32) (r1 : Nat) (t0 : Int32) (t1 : Int32) (z : ow_MS), fr (pf [52, 53, 54, 55, 56, 57] []) z0 z → (L = 0 ∨ L = 1 ∨ L = 2 ∨ L = 3 ∨ L = 4 ∨ L = 5 ∨ L = 6 ∨ L = 7 ∨ L = 8 ∨ L = 9 ∨ L = 10 → 1000 ≤ r1) → Fo Prod.snd (pf [52, 53, 54, 55, 56, 57] []) z0 (go L x2 x3 x4 x5 x6 x7 x8 x9 x10 x11 x12 x13 x14 x15 x16 x17 r1 t0 t1 z)) (hz : fr (pf [52, 53, 54, 55, 56, 57] []) z0 z) (hr1 : 1000 ≤ r1) : Fo Prod.snd (pf [52, 53, 54, 55, 56, 57] []) z0 (qm_X13_signatureOf_4 K go x2 x3 x4 x5 x6 x7 x8 x9 x10 x11 x12 x13 x14 x15 x16 x17 r1 t0 t1 z) := by
  unfold qm_X13_signatureOf_4
  exact (fo_rdI (fun v15 => (fo_rdI (fun v16 => (fo_rdI (fun v17 => (fo_rdI (fun v18 => (fo_rdI (fun v19 => (fo_rdI (fun v20 => (fo_rdI (fun v21 => (fo_rdI (fun v22 => (fo_if (hgo 5 _ _ _ _ _ _ _ _ _ _ _ _ _ _ _ _ _ _ _ z hz (fun _ => (by first | omega | decide))) (hgo 5 _ _ _ _ _ _ _ _ _ _ _ _ _ _ _ _ _ _ _ z hz (fun _ => (by first | omega | decide))))))))))))))))))))
theorem fb_X13_signatureOf_5 {K : Nat} {z0 z : ow_MS}  {go : Nat → Int32 → Int32 → Int32 → Int32 → Int32 → Int32 → Int32 → Int32 → Int32 → Int32 → Int32 → Int32 → Int32 → Int32 → Int32 → Int32 → Nat → Int32 → Int32 → ow_MS → Option (Int32 × ow_MS)} {x2 : Int32} {x3 : Int32} {x4 : Int32} {x5 : Int32} {x6 : Int32} {x7 : Int32} {x8 : Int32} {x9 : Int32} {x10 : Int32} {x11 : Int32} {x12 : Int32} {x13 : Int32} {x14 : Int32} {x15 : Int32} {x16 : Int32} {x17 : Int32} {r1 : Nat} {t0 : Int32} {t1 : Int32}  (hgo : ∀ (L : Nat) (x2 : Int32) (x3 : Int32) (x4 : Int32) (x5 : Int32) (x6 : Int32) (x7 : Int32) (x8 : Int32) (x9 : Int32) (x10 : Int32) (x11 : Int32) (x12 : Int32) (x13 : Int32) (x14 : Int32) (x15 : Int32) (x16 : Int32) (x17 : Int32) (r1 : Nat) (t0 : Int32) (t1 : Int32) (z : ow_MS), fr (pf [52, 53, 54, 55, 56, 57] []) z0 z → (L = 0 ∨ L = 1 ∨ L = 2 ∨ L = 3 ∨ L = 4 ∨ L = 5 ∨ L = 6 ∨ L = 7 ∨ L = 8 ∨ L = 9 ∨ L = 10 → 1000 ≤ r1) → Fo Prod.snd (pf [52, 53, 54, 55, 56, 57] []) z0 (go L x2 x3 x4 x5 x6 x7 x8 x9 x10 x11 x12 x13 x14 x15 x16 x17 r1 t0 t1 z)) (hz : fr (pf [52, 53, 54, 55, 56, 57] []) z0 z) (hr1 : 1000 ≤ r1) : Fo Prod.snd (pf [52, 53, 54, 55, 56, 57] []) z0 (qm_X13_signatureOf_5 K go x2 x3 x4 x5 x6 x7 x8 x9 x10 x11 x12 x13 x14 x15 x16 x17 r1 t0 t1 z) := by
  unfold qm_X13_signatureOf_5
  exact (fo_if (hgo 6 _ _ _ _ _ _ _ _ _ _ _ _ _ _ _ _ _ _ _ z hz (fun _ => (by first | omega | decide))) (hgo 6 _ _ _ _ _ _ _ _ _ _ _ _ _ _ _ _ _ _ _ z hz (fun _ => (by first | omega | decide))))
theorem fb_X13_signatureOf_6 {K : Nat} {z0 z : ow_MS}  {go : Nat → Int32 → Int32 → Int32 → Int32 → Int32 → Int32 → Int32 → Int32 → Int32 → Int32 → Int32 → Int32 → Int32 → Int32 → Int32 → Int32 → Nat → Int32 → Int32 → ow_MS → Option (Int32 × ow_MS)} {x2 : Int32} {x3 : Int32} {x4 : Int32} {x5 : Int32} {x6 : Int32} {x7 : Int32} {x8 : Int32} {x9 : Int32} {x10 : Int32} {x11 : Int32} {x12 : Int32} {x13 : Int32} {x14 : Int32} {x15 : Int32} {x16 : Int32} {x17 : Int32} {r1 : Nat} {t0 : Int32} {t1 : Int32}  (hgo : ∀ (L : Nat) (x2 : Int32) (x3 : Int32) (x4 : Int32) (x5 : Int32) (x6 : Int32) (x7 : Int32) (x8 : Int32) (x9 : Int32) (x10 : Int32) (x11 : Int32) (x12 : Int32) (x13 : Int32) (x14 : Int32) (x15 : Int32) (x16 : Int32) (x17 : Int32) (r1 : Nat) (t0 : Int32) (t1 : Int32) (z : ow_MS), fr (pf [52, 53, 54, 55, 56, 57] []) z0 z → (L = 0 ∨ L = 1 ∨ L = 2 ∨ L = 3 ∨ L = 4 ∨ L = 5 ∨ L = 6 ∨ L = 7 ∨ L = 8 ∨ L = 9 ∨ L = 10 → 1000 ≤ r1) → Fo Prod.snd (pf [52, 53, 54, 55, 56, 57] []) z0 (go L x2 x3 x4 x5 x6 x7 x8 x9 x10 x11 x12 x13 x14 x15 x16 x17 r1 t0 t1 z)) (hz : fr (pf [52, 53, 54, 55, 56, 57] []) z0 z) (hr1 : 1000 ≤ r1) : Fo Prod.snd (pf [52, 53, 54, 55, 56, 57] []) z0 (qm_X13_signatureOf_6 K go x2 x3 x4 x5 x6 x7 x8 x9 x10 x11 x12 x13 x14 x15 x16 x17 r1 t0 t1 z) := by
  unfold qm_X13_signatureOf_6
  exact (fo_if (hgo 7 _ _ _ _ _ _ _ _ _ _ _ _ _ _ _ _ _ _ _ z hz (fun _ => (by first | omega | decide))) (hgo 7 _ _ _ _ _ _ _ _ _ _ _ _ _ _ _ _ _ _ _ z hz (fun _ => (by first | omega | decide))))
theorem fb_X13_signatureOf_7 {K : Nat} {z0 z : ow_MS}  {go : Nat → Int32 → Int32 → Int32 → Int32 → Int32 → Int32 → Int32 → Int32 → Int32 → Int32 → Int32 → Int32 → Int32 → Int32 → Int32 → Int32 → Nat → Int32 → Int32 → ow_MS → Option (Int32 × ow_MS)} {x2 : Int32} {x3 : Int32} {x4 : Int32} {x5 : Int32} {x6 : Int32} {x7 : Int32} {x8 : Int32} {x9 : Int32} {x10 : Int32} {x11 : Int32} {x12 : Int32} {x13 : Int32} {x14 : Int32} {x15 : Int32} {x16 : Int32} {x17 : Int32} {r1 : Nat} {t0 : Int32} {t1 : Int32}  (hgo : ∀ (L : Nat) (x2 : Int32) (x3 : Int32) (x4 : Int32) (x5 : Int32) (x6 : Int32) (x7 : Int32) (x8 : Int32) (x9 : Int32) (x10 : Int32) (x11 : Int32) (x12 : Int32) (x13 : Int32) (x14 : Int32) (x15 : Int32) (x16 : Int32) (x17 : Int32) (r1 : Nat) (t0 : Int32) (t1 : Int32) (z : ow_MS), fr (pf [52, 53, 54, 55, 56, 57] []) z0 z → (L = 0 ∨ L = 1 ∨ L = 2 ∨ L = 3 ∨ L = 4 ∨ L = 5 ∨ L = 6 ∨ L = 7 ∨ L = 8 ∨ L = 9 ∨ L = 10 → 1000 ≤ r1) → Fo Prod.snd (pf [52, 53, 54, 55, 56, 57] []) z0 (go L x2 x3 x4 x5 x6 x7 x8 x9 x10 x11 x12 x13 x14 x15 x16 x17 r1 t0 t1 z)) (hz : fr (pf [52, 53, 54, 55, 56, 57] []) z0 z) (hr1 : 1000 ≤ r1) : Fo Prod.snd (pf [52, 53, 54, 55, 56, 57] []) z0 (qm_X13_signatureOf_7 K go x2 x3 x4 x5 x6 x7 x8 x9 x10 x11 x12 x13 x14 x15 x16 x17 r1 t0 t1 z) := by
  unfold qm_X13_signatureOf_7
  exact (fo_rdI (fun v23 => (fo_if (hgo 8 _ _ _ _ _ _ _ _ _ _ _ _ _ _ _ _ _ _ _ z hz (fun _ => (by first | omega | decide))) (hgo 8 _ _ _ _ _ _ _ _ _ _ _ _ _ _ _ _ _ _ _ z hz (fun _ => (by first | omega | decide))))))
theorem fb_X13_signatureOf_8 {K : Nat} {z0 z : ow_MS}  {go : Nat → Int32 → Int32 → Int32 → Int32 → Int32 → Int32 → Int32 → Int32 → Int32 → Int32 → Int32 → Int32 → Int32 → Int32 → Int32 → Int32 → Nat → Int32 → Int32 → ow_MS → Option (Int32 × ow_MS)} {x2 : Int32} {x3 : Int32} {x4 : Int32} {x5 : Int32} {x6 : Int32} {x7 : Int32} {x8 : Int32} {x9 : Int32} {x10 : Int32} {x11 : Int32} {x12 : Int32} {x13 : Int32} {x14 : Int32} {x15 : Int32} {x16 : Int32} {x17 : Int32} {r1 : Nat} {t0 : Int32} {t1 : Int32}  (hgo : ∀ (L : Nat) (x2 : Int32) (x3 : Int32) (x4 : Int32) (x5 : Int32) (x6 : Int32) (x7 : Int32) (x8 : Int32) (x9 : Int32) (x10 : Int32) (x11 : Int32) (x12 : Int32) (x13 : Int32) (x14 : Int32) (x15 : Int32) (x16 : Int32) (x17 : Int32) (r1 : Nat) (t0 : Int32) (t1 : Int32) (z : ow_MS), fr (pf [52, 53, 54, 55, 56, 57] []) z0 z → (L = 0 ∨ L = 1 ∨ L = 2 ∨ L = 3 ∨ L = 4 ∨ L = 5 ∨ L = 6 ∨ L = 7 ∨ L = 8 ∨ L = 9 ∨ L = 10 → 1000 ≤ r1) → Fo Prod.snd (pf [52, 53, 54, 55, 56, 57] []) z0 (go L x2 x3 x4 x5 x6 x7 x8 x9 x10 x11 x12 x13 x14 x15 x16 x17 r1 t0 t1 z)) (hz : fr (pf [52, 53, 54, 55, 56, 57] []) z0 z) (hr1 : 1000 ≤ r1) : Fo Prod.snd (pf [52, 53, 54, 55, 56, 57] []) z0 (qm_X13_signatureOf_8 K go x2 x3 x4 x5 x6 x7 x8 x9 x10 x11 x12 x13 x14 x15 x16 x17 r1 t0 t1 z) := by
  unfold qm_X13_signatureOf_8
  exact (fo_rdI (fun v24 => (fo_rdJ (fun v25 => (fo_wrJ (Or.inl (by decide)) hz (fun z26 h_z26 => (fo_rdJ (fun v27 => (fo_wrJ (Or.inl (by decide)) h_z26 (fun z28 h_z28 => (fo_rdJ (fun v29 => (fo_wrJ (Or.inl (by decide)) h_z28 (fun z30 h_z30 => (fo_rdJ (fun v31 => (fo_wrJ (Or.inl (by decide)) h_z30 (fun z32 h_z32 => (fo_if (fo_if (hgo 9 _ _ _ _ _ _ _ _ _ _ _ _ _ _ _ _ _ _ _ z32 h_z32 (fun _ => (by first | omega | decide))) (hgo 9 _ _ _ _ _ _ _ _ _ _ _ _ _ _ _ _ _ _ _ z32 h_z32 (fun _ => (by first | omega | decide)))) (hgo 9 _ _ _ _ _ _ _ _ _ _ _ _ _ _ _ _ _ _ _ z32 h_z32 (fun _ => (by first | omega | decide))))))))))))))))))))))
theorem fb_X13_signatureOf_9 {K : Nat} {z0 z : ow_MS}  {go : Nat → Int32 → Int32 → Int32 → Int32 → Int32 → Int32 → Int32 → Int32 → Int32 → Int32 → Int32 → Int32 → Int32 → Int32 → Int32 → Int32 → Nat → Int32 → Int32 → ow_MS → Option (Int32 × ow_MS)} {x2 : Int32} {x3 : Int32} {x4 : Int32} {x5 : Int32} {x6 : Int32} {x7 : Int32} {x8 : Int32} {x9 : Int32} {x10 : Int32} {x11 : Int32} {x12 : Int32} {x13 : Int32} {x14 : Int32} {x15 : Int32} {x16 : Int32} {x17 : Int32} {r1 : Nat} {t0 : Int32} {t1 : Int32}  (hgo : ∀ (L : Nat) (x2 : Int32) (x3 : Int32) (x4 : Int32) (x5 : Int32) (x6 : Int32) (x7 : Int32) (x8 : Int32) (x9 : Int32) (x10 : Int32) (x11 : Int32) (x12 : Int32) (x13 : Int32) (x14 : Int32) (x15 : Int32) (x16 : Int32) (x17 : Int32) (r1 : Nat) (t0 : Int32) (t1 : Int32) (z : ow_MS), fr (pf [52, 53, 54, 55, 56, 57] []) z0 z → (L = 0 ∨ L = 1 ∨ L = 2 ∨ L = 3 ∨ L = 4 ∨ L = 5 ∨ L = 6 ∨ L = 7 ∨ L = 8 ∨ L = 9 ∨ L = 10 → 1000 ≤ r1) → Fo Prod.snd (pf [52, 53, 54, 55, 56, 57] []) z0 (go L x2 x3 x4 x5 x6 x7 x8 x9 x10 x11 x12 x13 x14 x15 x16 x17 r1 t0 t1 z)) (hz : fr (pf [52, 53, 54, 55, 56, 57] []) z0 z) (hr1 : 1000 ≤ r1) : Fo Prod.snd (pf [52, 53, 54, 55, 56, 57] []) z0 (qm_X13_signatureOf_9 K go x2 x3 x4 x5 x6 x7 x8 x9 x10 x11 x12 x13 x14 x15 x16 x17 r1 t0 t1 z) := by
  unfold qm_X13_signatureOf_9
  exact (hgo 10 _ _ _ _ _ _ _ _ _ _ _ _ _ _ _ _ _ _ _ z hz (fun _ => (by first | omega | decide)))
theorem fb_X13_signatureOf_10 {K : Nat} {z0 z : ow_MS}  {go : Nat → Int32 → Int32 → Int32 → Int32 → Int32 → Int32 → Int32 → Int32 → Int32 → Int32 → Int32 → Int32 → Int32 → Int32 → Int32 → Int32 → Nat → Int32 → Int32 → ow_MS → Option (Int32 × ow_MS)} {x2 : Int32} {x3 : Int32} {x4 : Int32} {x5 : Int32} {x6 : Int32} {x7 : Int32} {x8 : Int32} {x9 : Int32} {x10 : Int32} {x11 : Int32} {x12 : Int32} {x13 : Int32} {x14 : Int32} {x15 : Int32} {x16 : Int32} {x17 : Int32} {r1 : Nat} {t0 : Int32} {t1 : Int32}  (hgo : ∀ (L : Nat) (x2 : Int32) (x3 : Int32) (x4 : Int32) (x5 : Int32) (x6 : Int32) (x7 : Int32) (x8 : Int32) (x9 : Int32) (x10 : Int32) (x11 : Int32) (x12 : Int32) (x13 : Int32) (x14 : Int32) (x15 : Int32) (x16 : Int32) (x17 : Int32) (r1 : Nat) (t0 : Int32) (t1 : Int32) (z : ow_MS), fr (pf [52, 53, 54, 55, 56, 57] []) z0 z → (L = 0 ∨ L = 1 ∨ L = 2 ∨ L = 3 ∨ L = 4 ∨ L = 5 ∨ L = 6 ∨ L = 7 ∨ L = 8 ∨ L = 9 ∨ L = 10 → 1000 ≤ r1) → Fo Prod.snd (pf [52, 53, 54, 55, 56, 57] []) z0 (go L x2 x3 x4 x5 x6 x7 x8 x9 x10 x11 x12 x13 x14 x15 x16 x17 r1 t0 t1 z)) (hz : fr (pf [52, 53, 54, 55, 56, 57] []) z0 z) (hr1 : 1000 ≤ r1) : Fo Prod.snd (pf [52, 53, 54, 55, 56, 57] []) z0 (qm_X13_signatureOf_10 K go x2 x3 x4 x5 x6 x7 x8 x9 x10 x11 x12 x13 x14 x15 x16 x17 r1 t0 t1 z) := by
  unfold qm_X13_signatureOf_10
  exact (hgo 2 _ _ _ _ _ _ _ _ _ _ _ _ _ _ _ _ _ _ _ z hz (fun _ => (by first | omega | decide)))
theorem fq_X13_signatureOf {K : Nat} {z0 : ow_MS}   : ∀ (k L : Nat) (x2 : Int32) (x3 : Int32) (x4 : Int32) (x5 : Int32) (x6 : Int32) (x7 : Int32) (x8 : Int32) (x9 : Int32) (x10 : Int32) (x11 : Int32) (x12 : Int32) (x13 : Int32) (x14 : Int32) (x15 : Int32) (x16 : Int32) (x17 : Int32) (r1 : Nat) (t0 : Int32) (t1 : Int32) (z : ow_MS), fr (pf [52, 53, 54, 55, 56, 57] []) z0 z → (L = 0 ∨ L = 1 ∨ L = 2 ∨ L = 3 ∨ L = 4 ∨ L = 5 ∨ L = 6 ∨ L = 7 ∨ L = 8 ∨ L = 9 ∨ L = 10 → 1000 ≤ r1) → Fo Prod.snd (pf [52, 53, 54, 55, 56, 57] []) z0 (q_X13_signatureOf K k L x2 x3 x4 x5 x6 x7 x8 x9 x10 x11 x12 x13 x14 x15 x16 x17 r1 t0 t1 z)
  | 0 => by
    intros
    exact fo_none
  | k + 1 => by
    intro L x2 x3 x4 x5 x6 x7 x8 x9 x10 x11 x12 x13 x14 x15 x16 x17 r1 t0 t1 z hz h9_r1
    show Fo Prod.snd (pf [52, 53, 54, 55, 56, 57] []) z0 (qb_X13_signatureOf K (q_X13_signatureOf K k) L x2 x3 x4 x5 x6 x7 x8 x9 x10 x11 x12 x13 x14 x15 x16 x17 r1 t0 t1 z)
    unfold qb_X13_signatureOf
    split
    · exact fb_X13_signatureOf_0 (fq_X13_signatureOf k) hz (h9_r1 (by decide))
    · exact fb_X13_signatureOf_1 (fq_X13_signatureOf k) hz (h9_r1 (by decide))
    · exact fb_X13_signatureOf_2 (fq_X13_signatureOf k) hz (h9_r1 (by decide))
    · exact fb_X13_signatureOf_3 (fq_X13_signatureOf k) hz (h9_r1 (by decide))
    · exact fb_X13_signatureOf_4 (fq_X13_signatureOf k) hz (h9_r1 (by decide))
    · exact fb_X13_signatureOf_5 (fq_X13_signatureOf k) hz (h9_r1 (by decide))
    · exact fb_X13_signatureOf_6 (fq_X13_signatureOf k) hz (h9_r1 (by decide))
    · exact fb_X13_signatureOf_7 (fq_X13_signatureOf k) hz (h9_r1 (by decide))
    · exact fb_X13_signatureOf_8 (fq_X13_signatureOf k) hz (h9_r1 (by decide))
    · exact fb_X13_signatureOf_9 (fq_X13_signatureOf k) hz (h9_r1 (by decide))
    · exact fb_X13_signatureOf_10 (fq_X13_signatureOf k) hz (h9_r1 (by decide))
    · exact fo_none
theorem ff_X13_signatureOf {K : Nat} {r1 : Nat} {x2 : Int32} {z : ow_MS} (hr1 : 1000 ≤ r1) : Fo Prod.snd (pf [52, 53, 54, 55, 56, 57] []) z (qe_X13_signatureOf K r1 x2 z) := fq_X13_signatureOf K 0 _ _ _ _ _ _ _ _ _ _ _ _ _ _ _ _ _ _ _ z fr_rf (fun _ => (by first | omega | decide))
theorem fb_X13_signature_0 {K : Nat} {z0 z : ow_MS}  {go : Nat → Int32 → Int32 → Int32 → Int32 → Int32 → Int32 → Int32 → ow_MS → Option (Int32 × ow_MS)} {x1 : Int32} {x2 : Int32} {x3 : Int32} {x4 : Int32} {x5 : Int32} {t0 : Int32} {t1 : Int32}  (hgo : ∀ (L : Nat) (x1 : Int32) (x2 : Int32) (x3 : Int32) (x4 : Int32) (x5 : Int32) (t0 : Int32) (t1 : Int32) (z : ow_MS), fr (pf [1, 52, 53, 54, 55, 56, 57] []) z0 z → Fo Prod.snd (pf [1, 52, 53, 54, 55, 56, 57] []) z0 (go L x1 x2 x3 x4 x5 t0 t1 z)) (hz : fr (pf [1, 52, 53, 54, 55, 56, 57] []) z0 z)  : Fo Prod.snd (pf [1, 52, 53, 54, 55, 56, 57] []) z0 (qm_X13_signature_0 K go x1 x2 x3 x4 x5 t0 t1 z) := by
  unfold qm_X13_signature_0
  exact (fo_wrF (Or.inl (by decide)) hz (fun z1 h_z1 => (fo_cs1 (ff_X13_has) (pf_sub (by decide) pf_0) h_z1 (fun v3 z2 h_z2 => (fo_if (fo_cs1 (ff_X13_fails) (pf_sub (by decide) pf_0) h_z2 (fun v8 z7 h_z7 => (fo_some h_z7))) (fo_cs0 (ff_X13_open (by first | omega | decide)) (pf_sub (by decide) pf_0) h_z2 (fun z4 h_z4 => (fo_cs0 (ff_X12_split (by first | omega | decide)) (pf_sub (by decide) pf_0) h_z4 (fun z5 h_z5 => (fo_cs0 (ff_X12_walk (by first | omega | decide)) (pf_sub (by decide) pf_0) h_z5 (fun z6 h_z6 => (hgo 1 _ _ _ _ _ _ _ z6 h_z6))))))))))))
theorem fb_X13_signature_1 {K : Nat} {z0 z : ow_MS}  {go : Nat → Int32 → Int32 → Int32 → Int32 → Int32 → Int32 → Int32 → ow_MS → Option (Int32 × ow_MS)} {x1 : Int32} {x2 : Int32} {x3 : Int32} {x4 : Int32} {x5 : Int32} {t0 : Int32} {t1 : Int32}  (hgo : ∀ (L : Nat) (x1 : Int32) (x2 : Int32) (x3 : Int32) (x4 : Int32) (x5 : Int32) (t0 : Int32) (t1 : Int32) (z : ow_MS), fr (pf [1, 52, 53, 54, 55, 56, 57] []) z0 z → Fo Prod.snd (pf [1, 52, 53, 54, 55, 56, 57] []) z0 (go L x1 x2 x3 x4 x5 t0 t1 z)) (hz : fr (pf [1, 52, 53, 54, 55, 56, 57] []) z0 z)  : Fo Prod.snd (pf [1, 52, 53, 54, 55, 56, 57] []) z0 (qm_X13_signature_1 K go x1 x2 x3 x4 x5 t0 t1 z) := by
  unfold qm_X13_signature_1
  exact (fo_rdF (fun v9 => (fo_if (fo_some hz) (fo_rdF (fun v10 => (hgo 2 _ _ _ _ _ _ _ z hz))))))
theorem fb_X13_signature_2 {K : Nat} {z0 z : ow_MS}  {go : Nat → Int32 → Int32 → Int32 → Int32 → Int32 → Int32 → Int32 → ow_MS → Option (Int32 × ow_MS)} {x1 : Int32} {x2 : Int32} {x3 : Int32} {x4 : Int32} {x5 : Int32} {t0 : Int32} {t1 : Int32}  (hgo : ∀ (L : Nat) (x1 : Int32) (x2 : Int32) (x3 : Int32) (x4 : Int32) (x5 : Int32) (t0 : Int32) (t1 : Int32) (z : ow_MS), fr (pf [1, 52, 53, 54, 55, 56, 57] []) z0 z → Fo Prod.snd (pf [1, 52, 53, 54, 55, 56, 57] []) z0 (go L x1 x2 x3 x4 x5 t0 t1 z)) (hz : fr (pf [1, 52, 53, 54, 55, 56, 57] []) z0 z)  : Fo Prod.snd (pf [1, 52, 53, 54, 55, 56, 57] []) z0 (qm_X13_signature_2 K go x1 x2 x3 x4 x5 t0 t1 z) := by
  unfold qm_X13_signature_2
  exact (fo_if (fo_if (hgo 4 _ _ _ _ _ _ _ z hz) (fo_cs1 (ff_X13_signatureOf (by first | omega | decide)) (pf_sub (by decide) pf_0) hz (fun v12 z11 h_z11 => (hgo 4 _ _ _ _ _ _ _ z11 h_z11)))) (fo_rdI (fun v13 => (fo_rdI (fun v14 => (fo_if (hgo 3 _ _ _ _ _ _ _ z hz) (hgo 3 _ _ _ _ _ _ _ z hz)))))))
theorem fb_X13_signature_3 {K : Nat} {z0 z : ow_MS}  {go : Nat → Int32 → Int32 → Int32 → Int32 → Int32 → Int32 → Int32 → ow_MS → Option (Int32 × ow_MS)} {x1 : Int32} {x2 : Int32} {x3 : Int32} {x4 : Int32} {x5 : Int32} {t0 : Int32} {t1 : Int32}  (hgo : ∀ (L : Nat) (x1 : Int32) (x2 : Int32) (x3 : Int32) (x4 : Int32) (x5 : Int32) (t0 : Int32) (t1 : Int32) (z : ow_MS), fr (pf [1, 52, 53, 54, 55, 56, 57] []) z0 z → Fo Prod.snd (pf [1, 52, 53, 54, 55, 56, 57] []) z0 (go L x1 x2 x3 x4 x5 t0 t1 z)) (hz : fr (pf [1, 52, 53, 54, 55, 56, 57] []) z0 z)  : Fo Prod.snd (pf [1, 52, 53, 54, 55, 56, 57] []) z0 (qm_X13_signature_3 K go x1 x2 x3 x4 x5 t0 t1 z) := by
  unfold qm_X13_signature_3
  exact (hgo 2 _ _ _ _ _ _ _ z hz)
theorem fb_X13_signature_4 {K : Nat} {z0 z : ow_MS}  {go : Nat → Int32 → Int32 → Int32 → Int32 → Int32 → Int32 → Int32 → ow_MS → Option (Int32 × ow_MS)} {x1 : Int32} {x2 : Int32} {x3 : Int32} {x4 : Int32} {x5 : Int32} {t0 : Int32} {t1 : Int32}  (hgo : ∀ (L : Nat) (x1 : Int32) (x2 : Int32) (x3 : Int32) (x4 : Int32) (x5 : Int32) (t0 : Int32) (t1 : Int32) (z : ow_MS), fr (pf [1, 52, 53, 54, 55, 56, 57] []) z0 z → Fo Prod.snd (pf [1, 52, 53, 54, 55, 56, 57] []) z0 (go L x1 x2 x3 x4 x5 t0 t1 z)) (hz : fr (pf [1, 52, 53, 54, 55, 56, 57] []) z0 z)  : Fo Prod.snd (pf [1, 52, 53, 54, 55, 56, 57] []) z0 (qm_X13_signature_4 K go x1 x2 x3 x4 x5 t0 t1 z) := by
  unfold qm_X13_signature_4
  exact (hgo 1 _ _ _ _ _ _ _ z hz)
theorem fq_X13_signature {K : Nat} {z0 : ow_MS}   : ∀ (k L : Nat) (x1 : Int32) (x2 : Int32) (x3 : Int32) (x4 : Int32) (x5 : Int32) (t0 : Int32) (t1 : Int32) (z : ow_MS), fr (pf [1, 52, 53, 54, 55, 56, 57] []) z0 z → Fo Prod.snd (pf [1, 52, 53, 54, 55, 56, 57] []) z0 (q_X13_signature K k L x1 x2 x3 x4 x5 t0 t1 z)
  | 0 => by
    intros
    exact fo_none
  | k + 1 => by
    intro L x1 x2 x3 x4 x5 t0 t1 z hz 
    show Fo Prod.snd (pf [1, 52, 53, 54, 55, 56, 57] []) z0 (qb_X13_signature K (q_X13_signature K k) L x1 x2 x3 x4 x5 t0 t1 z)
    unfold qb_X13_signature
    split
    · exact fb_X13_signature_0 (fq_X13_signature k) hz 
    · exact fb_X13_signature_1 (fq_X13_signature k) hz 
    · exact fb_X13_signature_2 (fq_X13_signature k) hz 
    · exact fb_X13_signature_3 (fq_X13_signature k) hz 
    · exact fb_X13_signature_4 (fq_X13_signature k) hz 
    · exact fo_none
theorem ff_X13_signature {K : Nat} {x1 : Int32} {z : ow_MS}  : Fo Prod.snd (pf [1, 52, 53, 54, 55, 56, 57] []) z (qe_X13_signature K x1 z) := fq_X13_signature K 0 _ _ _ _ _ _ _ z fr_rf 
theorem fb_X13_makeArcs_0 {K : Nat} {z0 z : ow_MS}  {go : Nat → Int32 → Int32 → Int32 → Nat → Int32 → ow_MS → Option ow_MS} {x2 : Int32} {x3 : Int32} {x4 : Int32} {r1 : Nat} {t0 : Int32}  (hgo : ∀ (L : Nat) (x2 : Int32) (x3 : Int32) (x4 : Int32) (r1 : Nat) (t0 : Int32) (z : ow_MS), fr (pf [58, 59, 60, 61, 62, 63] []) z0 z → (L = 0 ∨ L = 1 ∨ L = 2 ∨ L = 3 ∨ L = 4 ∨ L = 5 ∨ L = 6 ∨ L = 7 ∨ L = 8 ∨ L = 9 → 1000 ≤ r1) → Fo id (pf [58, 59, 60, 61, 62, 63] []) z0 (go L x2 x3 x4 r1 t0 z)) (hz : fr (pf [58, 59, 60, 61, 62, 63] []) z0 z) (hr1 : 1000 ≤ r1) : Fo id (pf [58, 59, 60, 61, 62, 63] []) z0 (qm_X13_makeArcs_0 K go x2 x3 x4 r1 t0 z) := by
  unfold qm_X13_makeArcs_0
  exact (fo_wrF (Or.inl (by decide)) hz (fun z1 h_z1 => (hgo 1 _ _ _ _ _ z1 h_z1 (fun _ => (by first | omega | decide)))))
theorem fb_X13_makeArcs_1 {K : Nat} {z0 z : ow_MS}  {go : Nat → Int32 → Int32 → Int32 → Nat → Int32 → ow_MS → Option ow_MS} {x2 : Int32} {x3 : Int32} {x4 : Int32} {r1 : Nat} {t0 : Int32}  (hgo : ∀ (L : Nat) (x2 : Int32) (x3 : Int32) (x4 : Int32) (r1 : Nat) (t0 : Int32) (z : ow_MS), fr (pf [58, 59, 60, 61, 62, 63] []) z0 z → (L = 0 ∨ L = 1 ∨ L = 2 ∨ L = 3 ∨ L = 4 ∨ L = 5 ∨ L = 6 ∨ L = 7 ∨ L = 8 ∨ L = 9 → 1000 ≤ r1) → Fo id (pf [58, 59, 60, 61, 62, 63] []) z0 (go L x2 x3 x4 r1 t0 z)) (hz : fr (pf [58, 59, 60, 61, 62, 63] []) z0 z) (hr1 : 1000 ≤ r1) : Fo id (pf [58, 59, 60, 61, 62, 63] []) z0 (qm_X13_makeArcs_1 K go x2 x3 x4 r1 t0 z) := by
  unfold qm_X13_makeArcs_1
  exact (fo_rdF (fun v2 => (fo_if (hgo 8 _ _ _ _ _ z hz (fun _ => (by first | omega | decide))) (fo_rdI (fun v3 => (hgo 2 _ _ _ _ _ z hz (fun _ => (by first | omega | decide))))))))
theorem fb_X13_makeArcs_2 {K : Nat} {z0 z : ow_MS}  {go : Nat → Int32 → Int32 → Int32 → Nat → Int32 → ow_MS → Option ow_MS} {x2 : Int32} {x3 : Int32} {x4 : Int32} {r1 : Nat} {t0 : Int32}  (hgo : ∀ (L : Nat) (x2 : Int32) (x3 : Int32) (x4 : Int32) (r1 : Nat) (t0 : Int32) (z : ow_MS), fr (pf [58, 59, 60, 61, 62, 63] []) z0 z → (L = 0 ∨ L = 1 ∨ L = 2 ∨ L = 3 ∨ L = 4 ∨ L = 5 ∨ L = 6 ∨ L = 7 ∨ L = 8 ∨ L = 9 → 1000 ≤ r1) → Fo id (pf [58, 59, 60, 61, 62, 63] []) z0 (go L x2 x3 x4 r1 t0 z)) (hz : fr (pf [58, 59, 60, 61, 62, 63] []) z0 z) (hr1 : 1000 ≤ r1) : Fo id (pf [58, 59, 60, 61, 62, 63] []) z0 (qm_X13_makeArcs_2 K go x2 x3 x4 r1 t0 z) := by
  unfold qm_X13_makeArcs_2
  exact (fo_rdI (fun v4 => (fo_if (fo_if (fo_rdI (fun v5 => (hgo 4 _ _ _ _ _ z hz (fun _ => (by first | omega | decide))))) (hgo 5 _ _ _ _ _ z hz (fun _ => (by first | omega | decide)))) (fo_rdI (fun v6 => (fo_if (hgo 3 _ _ _ _ _ z hz (fun _ => (by first | omega | decide))) (hgo 3 _ _ _ _ _ z hz (fun _ => (by first | omega | decide)))))))))
theorem fb_X13_makeArcs_3 {K : Nat} {z0 z : ow_MS}  {go : Nat → Int32 → Int32 → Int32 → Nat → Int32 → ow_MS → Option ow_MS} {x2 : Int32} {x3 : Int32} {x4 : Int32} {r1 : Nat} {t0 : Int32}  (hgo : ∀ (L : Nat) (x2 : Int32) (x3 : Int32) (x4 : Int32) (r1 : Nat) (t0 : Int32) (z : ow_MS), fr (pf [58, 59, 60, 61, 62, 63] []) z0 z → (L = 0 ∨ L = 1 ∨ L = 2 ∨ L = 3 ∨ L = 4 ∨ L = 5 ∨ L = 6 ∨ L = 7 ∨ L = 8 ∨ L = 9 → 1000 ≤ r1) → Fo id (pf [58, 59, 60, 61, 62, 63] []) z0 (go L x2 x3 x4 r1 t0 z)) (hz : fr (pf [58, 59, 60, 61, 62, 63] []) z0 z) (hr1 : 1000 ≤ r1) : Fo id (pf [58, 59, 60, 61, 62, 63] []) z0 (qm_X13_makeArcs_3 K go x2 x3 x4 r1 t0 z) := by
  unfold qm_X13_makeArcs_3
  exact (hgo 2 _ _ _ _ _ z hz (fun _ => (by first | omega | decide)))
theorem fb_X13_makeArcs_4 {K : Nat} {z0 z : ow_MS}  {go : Nat → Int32 → Int32 → Int32 → Nat → Int32 → ow_MS → Option ow_MS} {x2 : Int32} {x3 : Int32} {x4 : Int32} {r1 : Nat} {t0 : Int32}  (hgo : ∀ (L : Nat) (x2 : Int32) (x3 : Int32) (x4 : Int32) (r1 : Nat) (t0 : Int32) (z : ow_MS), fr (pf [58, 59, 60, 61, 62, 63] []) z0 z → (L = 0 ∨ L = 1 ∨ L = 2 ∨ L = 3 ∨ L = 4 ∨ L = 5 ∨ L = 6 ∨ L = 7 ∨ L = 8 ∨ L = 9 → 1000 ≤ r1) → Fo id (pf [58, 59, 60, 61, 62, 63] []) z0 (go L x2 x3 x4 r1 t0 z)) (hz : fr (pf [58, 59, 60, 61, 62, 63] []) z0 z) (hr1 : 1000 ≤ r1) : Fo id (pf [58, 59, 60, 61, 62, 63] []) z0 (qm_X13_makeArcs_4 K go x2 x3 x4 r1 t0 z) := by
  unfold qm_X13_makeArcs_4
  exact (fo_rdI (fun v7 => (fo_if (fo_rdF (fun v8 => (fo_wrF (Or.inl (by decide)) hz (fun z9 h_z9 => (hgo 7 _ _ _ _ _ z9 h_z9 (fun _ => (by first | omega | decide))))))) (fo_rdF (fun v10 => (fo_wrI (Or.inl (by decide)) hz (fun z11 h_z11 => (hgo 4 _ _ _ _ _ z11 h_z11 (fun _ => (by first | omega | decide))))))))))
theorem fb_X13_makeArcs_5 {K : Nat} {z0 z : ow_MS}  {go : Nat → Int32 → Int32 → Int32 → Nat → Int32 → ow_MS → Option ow_MS} {x2 : Int32} {x3 : Int32} {x4 : Int32} {r1 : Nat} {t0 : Int32}  (hgo : ∀ (L : Nat) (x2 : Int32) (x3 : Int32) (x4 : Int32) (r1 : Nat) (t0 : Int32) (z : ow_MS), fr (pf [58, 59, 60, 61, 62, 63] []) z0 z → (L = 0 ∨ L = 1 ∨ L = 2 ∨ L = 3 ∨ L = 4 ∨ L = 5 ∨ L = 6 ∨ L = 7 ∨ L = 8 ∨ L = 9 → 1000 ≤ r1) → Fo id (pf [58, 59, 60, 61, 62, 63] []) z0 (go L x2 x3 x4 r1 t0 z)) (hz : fr (pf [58, 59, 60, 61, 62, 63] []) z0 z) (hr1 : 1000 ≤ r1) : Fo id (pf [58, 59, 60, 61, 62, 63] []) z0 (qm_X13_makeArcs_5 K go x2 x3 x4 r1 t0 z) := by
  unfold qm_X13_makeArcs_5
  exact (fo_rdF (fun v12 => (fo_wrI (Or.inl (by decide)) hz (fun z13 h_z13 => (fo_rdI (fun v14 => (hgo 6 _ _ _ _ _ z13 h_z13 (fun _ => (by first | omega | decide)))))))))
theorem fb_X13_makeArcs_6 {K : Nat} {z0 z : ow_MS}  {go : Nat → Int32 → Int32 → Int32 → Nat → Int32 → ow_MS → Option ow_MS} {x2 : Int32} {x3 : Int32} {x4 : Int32} {r1 : Nat} {t0 : Int32}  (hgo : ∀ (L : Nat) (x2 : Int32) (x3 : Int32) (x4 : Int32) (r1 : Nat) (t0 : Int32) (z : ow_MS), fr (pf [58, 59, 60, 61, 62, 63] []) z0 z → (L = 0 ∨ L = 1 ∨ L = 2 ∨ L = 3 ∨ L = 4 ∨ L = 5 ∨ L = 6 ∨ L = 7 ∨ L = 8 ∨ L = 9 → 1000 ≤ r1) → Fo id (pf [58, 59, 60, 61, 62, 63] []) z0 (go L x2 x3 x4 r1 t0 z)) (hz : fr (pf [58, 59, 60, 61, 62, 63] []) z0 z) (hr1 : 1000 ≤ r1) : Fo id (pf [58, 59, 60, 61, 62, 63] []) z0 (qm_X13_makeArcs_6 K go x2 x3 x4 r1 t0 z) := by
  unfold qm_X13_makeArcs_6
  exact (fo_rdI (fun v15 => (fo_if (fo_rdF (fun v20 => (fo_wrI (Or.inl (by decide)) hz (fun z21 h_z21 => (fo_rdI (fun v22 => (hgo 6 _ _ _ _ _ z21 h_z21 (fun _ => (by first | omega | decide))))))))) (fo_rdF (fun v16 => (fo_wrI (Or.inl (by decide)) hz (fun z17 h_z17 => (fo_rdF (fun v18 => (fo_wrF (Or.inl (by decide)) h_z17 (fun z19 h_z19 => (fo_if (hgo 7 _ _ _ _ _ z19 h_z19 (fun _ => (by first | omega | decide))) (hgo 5 _ _ _ _ _ z19 h_z19 (fun _ => (by first | omega | decide)))))))))))))))
theorem fb_X13_makeArcs_7 {K : Nat} {z0 z : ow_MS}  {go : Nat → Int32 → Int32 → Int32 → Nat → Int32 → ow_MS → Option ow_MS} {x2 : Int32} {x3 : Int32} {x4 : Int32} {r1 : Nat} {t0 : Int32}  (hgo : ∀ (L : Nat) (x2 : Int32) (x3 : Int32) (x4 : Int32) (r1 : Nat) (t0 : Int32) (z : ow_MS), fr (pf [58, 59, 60, 61, 62, 63] []) z0 z → (L = 0 ∨ L = 1 ∨ L = 2 ∨ L = 3 ∨ L = 4 ∨ L = 5 ∨ L = 6 ∨ L = 7 ∨ L = 8 ∨ L = 9 → 1000 ≤ r1) → Fo id (pf [58, 59, 60, 61, 62, 63] []) z0 (go L x2 x3 x4 r1 t0 z)) (hz : fr (pf [58, 59, 60, 61, 62, 63] []) z0 z) (hr1 : 1000 ≤ r1) : Fo id (pf [58, 59, 60, 61, 62, 63] []) z0 (qm_X13_makeArcs_7 K go x2 x3 x4 r1 t0 z) := by
  unfold qm_X13_makeArcs_7
  exact (hgo 1 _ _ _ _ _ z hz (fun _ => (by first | omega | decide)))
theorem fb_X13_makeArcs_8 {K : Nat} {z0 z : ow_MS}  {go : Nat → Int32 → Int32 → Int32 → Nat → Int32 → ow_MS → Option ow_MS} {x2 : Int32} {x3 : Int32} {x4 : Int32} {r1 : Nat} {t0 : Int32}  (hgo : ∀ (L : Nat) (x2 : Int32) (x3 : Int32) (x4 : Int32) (r1 : Nat) (t0 : Int32) (z : ow_MS), fr (pf [58, 59, 60, 61, 62, 63] []) z0 z → (L = 0 ∨ L = 1 ∨ L = 2 ∨ L = 3 ∨ L = 4 ∨ L = 5 ∨ L = 6 ∨ L = 7 ∨ L = 8 ∨ L = 9 → 1000 ≤ r1) → Fo id (pf [58, 59, 60, 61, 62, 63] []) z0 (go L x2 x3 x4 r1 t0 z)) (hz : fr (pf [58, 59, 60, 61, 62, 63] []) z0 z) (hr1 : 1000 ≤ r1) : Fo id (pf [58, 59, 60, 61, 62, 63] []) z0 (qm_X13_makeArcs_8 K go x2 x3 x4 r1 t0 z) := by
  unfold qm_X13_makeArcs_8
  exact (fo_rdF (fun v23 => (fo_if (fo_some hz) (fo_rdI (fun v24 => (fo_rdI (fun v25 => (fo_if (fo_rdI (fun v30 => (fo_wrI (Or.inl (by decide)) hz (fun z31 h_z31 => (hgo 9 _ _ _ _ _ z31 h_z31 (fun _ => (by first | omega | decide))))))) (fo_rdI (fun v26 => (fo_wrI (Or.inl (by decide)) hz (fun z27 h_z27 => (fo_rdI (fun v28 => (fo_wrI (Or.inl (by decide)) h_z27 (fun z29 h_z29 => (hgo 9 _ _ _ _ _ z29 h_z29 (fun _ => (by first | omega | decide)))))))))))))))))))
theorem fb_X13_makeArcs_9 {K : Nat} {z0 z : ow_MS}  {go : Nat → Int32 → Int32 → Int32 → Nat → Int32 → ow_MS → Option ow_MS} {x2 : Int32} {x3 : Int32} {x4 : Int32} {r1 : Nat} {t0 : Int32}  (hgo : ∀ (L : Nat) (x2 : Int32) (x3 : Int32) (x4 : Int32) (r1 : Nat) (t0 : Int32) (z : ow_MS), fr (pf [58, 59, 60, 61, 62, 63] []) z0 z → (L = 0 ∨ L = 1 ∨ L = 2 ∨ L = 3 ∨ L = 4 ∨ L = 5 ∨ L = 6 ∨ L = 7 ∨ L = 8 ∨ L = 9 → 1000 ≤ r1) → Fo id (pf [58, 59, 60, 61, 62, 63] []) z0 (go L x2 x3 x4 r1 t0 z)) (hz : fr (pf [58, 59, 60, 61, 62, 63] []) z0 z) (hr1 : 1000 ≤ r1) : Fo id (pf [58, 59, 60, 61, 62, 63] []) z0 (qm_X13_makeArcs_9 K go x2 x3 x4 r1 t0 z) := by
  unfold qm_X13_makeArcs_9
  exact (hgo 8 _ _ _ _ _ z hz (fun _ => (by first | omega | decide)))
theorem fq_X13_makeArcs {K : Nat} {z0 : ow_MS}   : ∀ (k L : Nat) (x2 : Int32) (x3 : Int32) (x4 : Int32) (r1 : Nat) (t0 : Int32) (z : ow_MS), fr (pf [58, 59, 60, 61, 62, 63] []) z0 z → (L = 0 ∨ L = 1 ∨ L = 2 ∨ L = 3 ∨ L = 4 ∨ L = 5 ∨ L = 6 ∨ L = 7 ∨ L = 8 ∨ L = 9 → 1000 ≤ r1) → Fo id (pf [58, 59, 60, 61, 62, 63] []) z0 (q_X13_makeArcs K k L x2 x3 x4 r1 t0 z)
  | 0 => by
    intros
    exact fo_none
  | k + 1 => by
    intro L x2 x3 x4 r1 t0 z hz h9_r1
    show Fo id (pf [58, 59, 60, 61, 62, 63] []) z0 (qb_X13_makeArcs K (q_X13_makeArcs K k) L x2 x3 x4 r1 t0 z)
    unfold qb_X13_makeArcs
    split
    · exact fb_X13_makeArcs_0 (fq_X13_makeArcs k) hz (h9_r1 (by decide))
    · exact fb_X13_makeArcs_1 (fq_X13_makeArcs k) hz (h9_r1 (by decide))
    · exact fb_X13_makeArcs_2 (fq_X13_makeArcs k) hz (h9_r1 (by decide))
    · exact fb_X13_makeArcs_3 (fq_X13_makeArcs k) hz (h9_r1 (by decide))
    · exact fb_X13_makeArcs_4 (fq_X13_makeArcs k) hz (h9_r1 (by decide))
    · exact fb_X13_makeArcs_5 (fq_X13_makeArcs k) hz (h9_r1 (by decide))
    · exact fb_X13_makeArcs_6 (fq_X13_makeArcs k) hz (h9_r1 (by decide))
    · exact fb_X13_makeArcs_7 (fq_X13_makeArcs k) hz (h9_r1 (by decide))
    · exact fb_X13_makeArcs_8 (fq_X13_makeArcs k) hz (h9_r1 (by decide))
    · exact fb_X13_makeArcs_9 (fq_X13_makeArcs k) hz (h9_r1 (by decide))
    · exact fo_none
theorem ff_X13_makeArcs {K : Nat} {r1 : Nat} {z : ow_MS} (hr1 : 1000 ≤ r1) : Fo id (pf [58, 59, 60, 61, 62, 63] []) z (qe_X13_makeArcs K r1 z) := fq_X13_makeArcs K 0 _ _ _ _ _ z fr_rf (fun _ => (by first | omega | decide))
theorem fb_X13_unit_0 {K : Nat} {z0 z : ow_MS}  {go : Nat → Int32 → Int32 → Int32 → Int32 → Int32 → Int32 → ow_MS → Option (Int32 × ow_MS)} {x1 : Int32} {x2 : Int32} {x3 : Int32} {x4 : Int32} {x5 : Int32} {x6 : Int32}  (hgo : ∀ (L : Nat) (x1 : Int32) (x2 : Int32) (x3 : Int32) (x4 : Int32) (x5 : Int32) (x6 : Int32) (z : ow_MS), fr (pf [64] []) z0 z → Fo Prod.snd (pf [64] []) z0 (go L x1 x2 x3 x4 x5 x6 z)) (hz : fr (pf [64] []) z0 z)  : Fo Prod.snd (pf [64] []) z0 (qm_X13_unit_0 K go x1 x2 x3 x4 x5 x6 z) := by
  unfold qm_X13_unit_0
  exact (hgo 1 _ _ _ _ _ _ z hz)
theorem fb_X13_unit_1 {K : Nat} {z0 z : ow_MS}  {go : Nat → Int32 → Int32 → Int32 → Int32 → Int32 → Int32 → ow_MS → Option (Int32 × ow_MS)} {x1 : Int32} {x2 : Int32} {x3 : Int32} {x4 : Int32} {x5 : Int32} {x6 : Int32}  (hgo : ∀ (L : Nat) (x1 : Int32) (x2 : Int32) (x3 : Int32) (x4 : Int32) (x5 : Int32) (x6 : Int32) (z : ow_MS), fr (pf [64] []) z0 z → Fo Prod.snd (pf [64] []) z0 (go L x1 x2 x3 x4 x5 x6 z)) (hz : fr (pf [64] []) z0 z)  : Fo Prod.snd (pf [64] []) z0 (qm_X13_unit_1 K go x1 x2 x3 x4 x5 x6 z) := by
  unfold qm_X13_unit_1
  exact (fo_if (hgo 5 _ _ _ _ _ _ z hz) (fo_if (hgo 2 _ _ _ _ _ _ z hz) (hgo 5 _ _ _ _ _ _ z hz)))
theorem fb_X13_unit_2 {K : Nat} {z0 z : ow_MS}  {go : Nat → Int32 → Int32 → Int32 → Int32 → Int32 → Int32 → ow_MS → Option (Int32 × ow_MS)} {x1 : Int32} {x2 : Int32} {x3 : Int32} {x4 : Int32} {x5 : Int32} {x6 : Int32}  (hgo : ∀ (L : Nat) (x1 : Int32) (x2 : Int32) (x3 : Int32) (x4 : Int32) (x5 : Int32) (x6 : Int32) (z : ow_MS), fr (pf [64] []) z0 z → Fo Prod.snd (pf [64] []) z0 (go L x1 x2 x3 x4 x5 x6 z)) (hz : fr (pf [64] []) z0 z)  : Fo Prod.snd (pf [64] []) z0 (qm_X13_unit_2 K go x1 x2 x3 x4 x5 x6 z) := by
  unfold qm_X13_unit_2
  exact (fo_rdF (fun v1 => (fo_if (hgo 4 _ _ _ _ _ _ z hz) (fo_if (fo_rdJ (fun v2 => (fo_if (hgo 3 _ _ _ _ _ _ z hz) (hgo 3 _ _ _ _ _ _ z hz)))) (hgo 4 _ _ _ _ _ _ z hz)))))
theorem fb_X13_unit_3 {K : Nat} {z0 z : ow_MS}  {go : Nat → Int32 → Int32 → Int32 → Int32 → Int32 → Int32 → ow_MS → Option (Int32 × ow_MS)} {x1 : Int32} {x2 : Int32} {x3 : Int32} {x4 : Int32} {x5 : Int32} {x6 : Int32}  (hgo : ∀ (L : Nat) (x1 : Int32) (x2 : Int32) (x3 : Int32) (x4 : Int32) (x5 : Int32) (x6 : Int32) (z : ow_MS), fr (pf [64] []) z0 z → Fo Prod.snd (pf [64] []) z0 (go L x1 x2 x3 x4 x5 x6 z)) (hz : fr (pf [64] []) z0 z)  : Fo Prod.snd (pf [64] []) z0 (qm_X13_unit_3 K go x1 x2 x3 x4 x5 x6 z) := by
  unfold qm_X13_unit_3
  exact (hgo 2 _ _ _ _ _ _ z hz)
theorem fb_X13_unit_4 {K : Nat} {z0 z : ow_MS}  {go : Nat → Int32 → Int32 → Int32 → Int32 → Int32 → Int32 → ow_MS → Option (Int32 × ow_MS)} {x1 : Int32} {x2 : Int32} {x3 : Int32} {x4 : Int32} {x5 : Int32} {x6 : Int32}  (hgo : ∀ (L : Nat) (x1 : Int32) (x2 : Int32) (x3 : Int32) (x4 : Int32) (x5 : Int32) (x6 : Int32) (z : ow_MS), fr (pf [64] []) z0 z → Fo Prod.snd (pf [64] []) z0 (go L x1 x2 x3 x4 x5 x6 z)) (hz : fr (pf [64] []) z0 z)  : Fo Prod.snd (pf [64] []) z0 (qm_X13_unit_4 K go x1 x2 x3 x4 x5 x6 z) := by
  unfold qm_X13_unit_4
  exact (hgo 1 _ _ _ _ _ _ z hz)
theorem fb_X13_unit_5 {K : Nat} {z0 z : ow_MS}  {go : Nat → Int32 → Int32 → Int32 → Int32 → Int32 → Int32 → ow_MS → Option (Int32 × ow_MS)} {x1 : Int32} {x2 : Int32} {x3 : Int32} {x4 : Int32} {x5 : Int32} {x6 : Int32}  (hgo : ∀ (L : Nat) (x1 : Int32) (x2 : Int32) (x3 : Int32) (x4 : Int32) (x5 : Int32) (x6 : Int32) (z : ow_MS), fr (pf [64] []) z0 z → Fo Prod.snd (pf [64] []) z0 (go L x1 x2 x3 x4 x5 x6 z)) (hz : fr (pf [64] []) z0 z)  : Fo Prod.snd (pf [64] []) z0 (qm_X13_unit_5 K go x1 x2 x3 x4 x5 x6 z) := by
  unfold qm_X13_unit_5
  exact (fo_if (fo_okZ (fo_some hz)) (hgo 6 _ _ _ _ _ _ z hz))
theorem fb_X13_unit_6 {K : Nat} {z0 z : ow_MS}  {go : Nat → Int32 → Int32 → Int32 → Int32 → Int32 → Int32 → ow_MS → Option (Int32 × ow_MS)} {x1 : Int32} {x2 : Int32} {x3 : Int32} {x4 : Int32} {x5 : Int32} {x6 : Int32}  (hgo : ∀ (L : Nat) (x1 : Int32) (x2 : Int32) (x3 : Int32) (x4 : Int32) (x5 : Int32) (x6 : Int32) (z : ow_MS), fr (pf [64] []) z0 z → Fo Prod.snd (pf [64] []) z0 (go L x1 x2 x3 x4 x5 x6 z)) (hz : fr (pf [64] []) z0 z)  : Fo Prod.snd (pf [64] []) z0 (qm_X13_unit_6 K go x1 x2 x3 x4 x5 x6 z) := by
  unfold qm_X13_unit_6
  exact (fo_rdF (fun v3 => (fo_if (hgo 7 _ _ _ _ _ _ z hz) (fo_rdJ (fun v4 => (fo_rdJ (fun v5 => (fo_wrJ (Or.inl (by decide)) hz (fun z6 h_z6 => (fo_wrJ (Or.inl (by decide)) h_z6 (fun z7 h_z7 => (hgo 6 _ _ _ _ _ _ z7 h_z7))))))))))))
theorem fb_X13_unit_7 {K : Nat} {z0 z : ow_MS}  {go : Nat → Int32 → Int32 → Int32 → Int32 → Int32 → Int32 → ow_MS → Option (Int32 × ow_MS)} {x1 : Int32} {x2 : Int32} {x3 : Int32} {x4 : Int32} {x5 : Int32} {x6 : Int32}  (hgo : ∀ (L : Nat) (x1 : Int32) (x2 : Int32) (x3 : Int32) (x4 : Int32) (x5 : Int32) (x6 : Int32) (z : ow_MS), fr (pf [64] []) z0 z → Fo Prod.snd (pf [64] []) z0 (go L x1 x2 x3 x4 x5 x6 z)) (hz : fr (pf [64] []) z0 z)  : Fo Prod.snd (pf [64] []) z0 (qm_X13_unit_7 K go x1 x2 x3 x4 x5 x6 z) := by
  unfold qm_X13_unit_7
  exact (fo_if (fo_okZ (fo_some hz)) (fo_rdJ (fun v8 => (fo_rdJ (fun v9 => (fo_wrJ (Or.inl (by decide)) hz (fun z10 h_z10 => (fo_wrJ (Or.inl (by decide)) h_z10 (fun z11 h_z11 => (hgo 7 _ _ _ _ _ _ z11 h_z11))))))))))
theorem fq_X13_unit {K : Nat} {z0 : ow_MS}   : ∀ (k L : Nat) (x1 : Int32) (x2 : Int32) (x3 : Int32) (x4 : Int32) (x5 : Int32) (x6 : Int32) (z : ow_MS), fr (pf [64] []) z0 z → Fo Prod.snd (pf [64] []) z0 (q_X13_unit K k L x1 x2 x3 x4 x5 x6 z)
  | 0 => by
    intros
    exact fo_none
  | k + 1 => by
    intro L x1 x2 x3 x4 x5 x6 z hz 
    show Fo Prod.snd (pf [64] []) z0 (qb_X13_unit K (q_X13_unit K k) L x1 x2 x3 x4 x5 x6 z)
    unfold qb_X13_unit
    split
    · exact fb_X13_unit_0 (fq_X13_unit k) hz 
    · exact fb_X13_unit_1 (fq_X13_unit k) hz 
    · exact fb_X13_unit_2 (fq_X13_unit k) hz 
    · exact fb_X13_unit_3 (fq_X13_unit k) hz 
    · exact fb_X13_unit_4 (fq_X13_unit k) hz 
    · exact fb_X13_unit_5 (fq_X13_unit k) hz 
    · exact fb_X13_unit_6 (fq_X13_unit k) hz 
    · exact fb_X13_unit_7 (fq_X13_unit k) hz 
    · exact fo_none
theorem ff_X13_unit {K : Nat} {x1 : Int32} {x2 : Int32} {z : ow_MS}  : Fo Prod.snd (pf [64] []) z (qe_X13_unit K x1 x2 z) := fq_X13_unit K 0 _ _ _ _ _ _ z fr_rf 
theorem fb_X13_leave_0 {K : Nat} {z0 z : ow_MS}  {go : Nat → Int32 → Int32 → Int32 → Int32 → Int32 → Int32 → Int32 → ow_MS → Option ow_MS} {x1 : Int32} {x2 : Int32} {x3 : Int32} {x4 : Int32} {x5 : Int32} {t0 : Int32} {t1 : Int32}  (hgo : ∀ (L : Nat) (x1 : Int32) (x2 : Int32) (x3 : Int32) (x4 : Int32) (x5 : Int32) (t0 : Int32) (t1 : Int32) (z : ow_MS), fr (pf [68, 69, 70, 71] []) z0 z → Fo id (pf [68, 69, 70, 71] []) z0 (go L x1 x2 x3 x4 x5 t0 t1 z)) (hz : fr (pf [68, 69, 70, 71] []) z0 z)  : Fo id (pf [68, 69, 70, 71] []) z0 (qm_X13_leave_0 K go x1 x2 x3 x4 x5 t0 t1 z) := by
  unfold qm_X13_leave_0
  exact (fo_wrF (Or.inl (by decide)) hz (fun z1 h_z1 => (hgo 1 _ _ _ _ _ _ _ z1 h_z1)))
theorem fb_X13_leave_1 {K : Nat} {z0 z : ow_MS}  {go : Nat → Int32 → Int32 → Int32 → Int32 → Int32 → Int32 → Int32 → ow_MS → Option ow_MS} {x1 : Int32} {x2 : Int32} {x3 : Int32} {x4 : Int32} {x5 : Int32} {t0 : Int32} {t1 : Int32}  (hgo : ∀ (L : Nat) (x1 : Int32) (x2 : Int32) (x3 : Int32) (x4 : Int32) (x5 : Int32) (t0 : Int32) (t1 : Int32) (z : ow_MS), fr (pf [68, 69, 70, 71] []) z0 z → Fo id (pf [68, 69, 70, 71] []) z0 (go L x1 x2 x3 x4 x5 t0 t1 z)) (hz : fr (pf [68, 69, 70, 71] []) z0 z)  : Fo id (pf [68, 69, 70, 71] []) z0 (qm_X13_leave_1 K go x1 x2 x3 x4 x5 t0 t1 z) := by
  unfold qm_X13_leave_1
  exact (fo_if (fo_wrF (Or.inl (by decide)) hz (fun z2 h_z2 => (hgo 5 _ _ _ _ _ _ _ z2 h_z2))) (hgo 2 _ _ _ _ _ _ _ z hz))
theorem fb_X13_leave_2 {K : Nat} {z0 z : ow_MS}  {go : Nat → Int32 → Int32 → Int32 → Int32 → Int32 → Int32 → Int32 → ow_MS → Option ow_MS} {x1 : Int32} {x2 : Int32} {x3 : Int32} {x4 : Int32} {x5 : Int32} {t0 : Int32} {t1 : Int32}  (hgo : ∀ (L : Nat) (x1 : Int32) (x2 : Int32) (x3 : Int32) (x4 : Int32) (x5 : Int32) (t0 : Int32) (t1 : Int32) (z : ow_MS), fr (pf [68, 69, 70, 71] []) z0 z → Fo id (pf [68, 69, 70, 71] []) z0 (go L x1 x2 x3 x4 x5 t0 t1 z)) (hz : fr (pf [68, 69, 70, 71] []) z0 z)  : Fo id (pf [68, 69, 70, 71] []) z0 (qm_X13_leave_2 K go x1 x2 x3 x4 x5 t0 t1 z) := by
  unfold qm_X13_leave_2
  exact (fo_rdF (fun v3 => (fo_if (fo_if (hgo 4 _ _ _ _ _ _ _ z hz) (fo_rdF (fun v4 => (fo_wrI (Or.inl (by decide)) hz (fun z5 h_z5 => (fo_rdF (fun v6 => (fo_wrF (Or.inl (by decide)) h_z5 (fun z7 h_z7 => (hgo 4 _ _ _ _ _ _ _ z7 h_z7)))))))))) (fo_rdJ (fun v8 => (fo_if (hgo 3 _ _ _ _ _ _ _ z hz) (hgo 3 _ _ _ _ _ _ _ z hz)))))))
theorem fb_X13_leave_3 {K : Nat} {z0 z : ow_MS}  {go : Nat → Int32 → Int32 → Int32 → Int32 → Int32 → Int32 → Int32 → ow_MS → Option ow_MS} {x1 : Int32} {x2 : Int32} {x3 : Int32} {x4 : Int32} {x5 : Int32} {t0 : Int32} {t1 : Int32}  (hgo : ∀ (L : Nat) (x1 : Int32) (x2 : Int32) (x3 : Int32) (x4 : Int32) (x5 : Int32) (t0 : Int32) (t1 : Int32) (z : ow_MS), fr (pf [68, 69, 70, 71] []) z0 z → Fo id (pf [68, 69, 70, 71] []) z0 (go L x1 x2 x3 x4 x5 t0 t1 z)) (hz : fr (pf [68, 69, 70, 71] []) z0 z)  : Fo id (pf [68, 69, 70, 71] []) z0 (qm_X13_leave_3 K go x1 x2 x3 x4 x5 t0 t1 z) := by
  unfold qm_X13_leave_3
  exact (hgo 2 _ _ _ _ _ _ _ z hz)
theorem fb_X13_leave_4 {K : Nat} {z0 z : ow_MS}  {go : Nat → Int32 → Int32 → Int32 → Int32 → Int32 → Int32 → Int32 → ow_MS → Option ow_MS} {x1 : Int32} {x2 : Int32} {x3 : Int32} {x4 : Int32} {x5 : Int32} {t0 : Int32} {t1 : Int32}  (hgo : ∀ (L : Nat) (x1 : Int32) (x2 : Int32) (x3 : Int32) (x4 : Int32) (x5 : Int32) (t0 : Int32) (t1 : Int32) (z : ow_MS), fr (pf [68, 69, 70, 71] []) z0 z → Fo id (pf [68, 69, 70, 71] []) z0 (go L x1 x2 x3 x4 x5 t0 t1 z)) (hz : fr (pf [68, 69, 70, 71] []) z0 z)  : Fo id (pf [68, 69, 70, 71] []) z0 (qm_X13_leave_4 K go x1 x2 x3 x4 x5 t0 t1 z) := by
  unfold qm_X13_leave_4
  exact (hgo 1 _ _ _ _ _ _ _ z hz)
theorem fb_X13_leave_5 {K : Nat} {z0 z : ow_MS}  {go : Nat → Int32 → Int32 → Int32 → Int32 → Int32 → Int32 → Int32 → ow_MS → Option ow_MS} {x1 : Int32} {x2 : Int32} {x3 : Int32} {x4 : Int32} {x5 : Int32} {t0 : Int32} {t1 : Int32}  (hgo : ∀ (L : Nat) (x1 : Int32) (x2 : Int32) (x3 : Int32) (x4 : Int32) (x5 : Int32) (t0 : Int32) (t1 : Int32) (z : ow_MS), fr (pf [68, 69, 70, 71] []) z0 z → Fo id (pf [68, 69, 70, 71] []) z0 (go L x1 x2 x3 x4 x5 t0 t1 z)) (hz : fr (pf [68, 69, 70, 71] []) z0 z)  : Fo id (pf [68, 69, 70, 71] []) z0 (qm_X13_leave_5 K go x1 x2 x3 x4 x5 t0 t1 z) := by
  unfold qm_X13_leave_5
  exact (fo_rdF (fun v9 => (fo_if (fo_some hz) (hgo 6 _ _ _ _ _ _ _ z hz))))
theorem fb_X13_leave_6 {K : Nat} {z0 z : ow_MS}  {go : Nat → Int32 → Int32 → Int32 → Int32 → Int32 → Int32 → Int32 → ow_MS → Option ow_MS} {x1 : Int32} {x2 : Int32} {x3 : Int32} {x4 : Int32} {x5 : Int32} {t0 : Int32} {t1 : Int32}  (hgo : ∀ (L : Nat) (x1 : Int32) (x2 : Int32) (x3 : Int32) (x4 : Int32) (x5 : Int32) (t0 : Int32) (t1 : Int32) (z : ow_MS), fr (pf [68, 69, 70, 71] []) z0 z → Fo id (pf [68, 69, 70, 71] []) z0 (go L x1 x2 x3 x4 x5 t0 t1 z)) (hz : fr (pf [68, 69, 70, 71] []) z0 z)  : Fo id (pf [68, 69, 70, 71] []) z0 (qm_X13_leave_6 K go x1 x2 x3 x4 x5 t0 t1 z) := by
  unfold qm_X13_leave_6
  exact (fo_if (fo_if (hgo 8 _ _ _ _ _ _ _ z hz) (fo_rdF (fun v10 => (fo_wrI (Or.inl (by decide)) hz (fun z11 h_z11 => (fo_rdF (fun v12 => (fo_wrF (Or.inl (by decide)) h_z11 (fun z13 h_z13 => (hgo 8 _ _ _ _ _ _ _ z13 h_z13)))))))))) (fo_rdJ (fun v14 => (fo_if (hgo 7 _ _ _ _ _ _ _ z hz) (hgo 7 _ _ _ _ _ _ _ z hz)))))
theorem fb_X13_leave_7 {K : Nat} {z0 z : ow_MS}  {go : Nat → Int32 → Int32 → Int32 → Int32 → Int32 → Int32 → Int32 → ow_MS → Option ow_MS} {x1 : Int32} {x2 : Int32} {x3 : Int32} {x4 : Int32} {x5 : Int32} {t0 : Int32} {t1 : Int32}  (hgo : ∀ (L : Nat) (x1 : Int32) (x2 : Int32) (x3 : Int32) (x4 : Int32) (x5 : Int32) (t0 : Int32) (t1 : Int32) (z : ow_MS), fr (pf [68, 69, 70, 71] []) z0 z → Fo id (pf [68, 69, 70, 71] []) z0 (go L x1 x2 x3 x4 x5 t0 t1 z)) (hz : fr (pf [68, 69, 70, 71] []) z0 z)  : Fo id (pf [68, 69, 70, 71] []) z0 (qm_X13_leave_7 K go x1 x2 x3 x4 x5 t0 t1 z) := by
  unfold qm_X13_leave_7
  exact (hgo 6 _ _ _ _ _ _ _ z hz)
theorem fb_X13_leave_8 {K : Nat} {z0 z : ow_MS}  {go : Nat → Int32 → Int32 → Int32 → Int32 → Int32 → Int32 → Int32 → ow_MS → Option ow_MS} {x1 : Int32} {x2 : Int32} {x3 : Int32} {x4 : Int32} {x5 : Int32} {t0 : Int32} {t1 : Int32}  (hgo : ∀ (L : Nat) (x1 : Int32) (x2 : Int32) (x3 : Int32) (x4 : Int32) (x5 : Int32) (t0 : Int32) (t1 : Int32) (z : ow_MS), fr (pf [68, 69, 70, 71] []) z0 z → Fo id (pf [68, 69, 70, 71] []) z0 (go L x1 x2 x3 x4 x5 t0 t1 z)) (hz : fr (pf [68, 69, 70, 71] []) z0 z)  : Fo id (pf [68, 69, 70, 71] []) z0 (qm_X13_leave_8 K go x1 x2 x3 x4 x5 t0 t1 z) := by
  unfold qm_X13_leave_8
  exact (hgo 5 _ _ _ _ _ _ _ z hz)
theorem fq_X13_leave {K : Nat} {z0 : ow_MS}   : ∀ (k L : Nat) (x1 : Int32) (x2 : Int32) (x3 : Int32) (x4 : Int32) (x5 : Int32) (t0 : Int32) (t1 : Int32) (z : ow_MS), fr (pf [68, 69, 70, 71] []) z0 z → Fo id (pf [68, 69, 70, 71] []) z0 (q_X13_leave K k L x1 x2 x3 x4 x5 t0 t1 z)
  | 0 => by
    intros
    exact fo_none
  | k + 1 => by
    intro L x1 x2 x3 x4 x5 t0 t1 z hz 
    show Fo id (pf [68, 69, 70, 71] []) z0 (qb_X13_leave K (q_X13_leave K k) L x1 x2 x3 x4 x5 t0 t1 z)
    unfold qb_X13_leave
    split
    · exact fb_X13_leave_0 (fq_X13_leave k) hz 
    · exact fb_X13_leave_1 (fq_X13_leave k) hz 
    · exact fb_X13_leave_2 (fq_X13_leave k) hz 
    · exact fb_X13_leave_3 (fq_X13_leave k) hz 
    · exact fb_X13_leave_4 (fq_X13_leave k) hz 
    · exact fb_X13_leave_5 (fq_X13_leave k) hz 
    · exact fb_X13_leave_6 (fq_X13_leave k) hz 
    · exact fb_X13_leave_7 (fq_X13_leave k) hz 
    · exact fb_X13_leave_8 (fq_X13_leave k) hz 
    · exact fo_none
theorem ff_X13_leave {K : Nat} {x1 : Int32} {x2 : Int32} {z : ow_MS}  : Fo id (pf [68, 69, 70, 71] []) z (qe_X13_leave K x1 x2 z) := fq_X13_leave K 0 _ _ _ _ _ _ _ z fr_rf 
theorem fb_X13_minor_0 {K : Nat} {z0 z : ow_MS}  {go : Nat → Int32 → Int32 → Int32 → Int32 → Int32 → Int32 → Int32 → Int32 → Int32 → Int32 → Int64 → ow_MS → Option (Int64 × ow_MS)} {x1 : Int32} {x2 : Int32} {x3 : Int32} {x4 : Int32} {x5 : Int32} {x6 : Int32} {x7 : Int32} {x8 : Int32} {x9 : Int32} {x10 : Int32} {w5 : Int64}  (hgo : ∀ (L : Nat) (x1 : Int32) (x2 : Int32) (x3 : Int32) (x4 : Int32) (x5 : Int32) (x6 : Int32) (x7 : Int32) (x8 : Int32) (x9 : Int32) (x10 : Int32) (w5 : Int64) (z : ow_MS), fr (pf [72] []) z0 z → Fo Prod.snd (pf [72] []) z0 (go L x1 x2 x3 x4 x5 x6 x7 x8 x9 x10 w5 z)) (hz : fr (pf [72] []) z0 z)  : Fo Prod.snd (pf [72] []) z0 (qm_X13_minor_0 K go x1 x2 x3 x4 x5 x6 x7 x8 x9 x10 w5 z) := by
  unfold qm_X13_minor_0
  exact (hgo 1 _ _ _ _ _ _ _ _ _ _ _ z hz)
theorem fb_X13_minor_1 {K : Nat} {z0 z : ow_MS}  {go : Nat → Int32 → Int32 → Int32 → Int32 → Int32 → Int32 → Int32 → Int32 → Int32 → Int32 → Int64 → ow_MS → Option (Int64 × ow_MS)} {x1 : Int32} {x2 : Int32} {x3 : Int32} {x4 : Int32} {x5 : Int32} {x6 : Int32} {x7 : Int32} {x8 : Int32} {x9 : Int32} {x10 : Int32} {w5 : Int64}  (hgo : ∀ (L : Nat) (x1 : Int32) (x2 : Int32) (x3 : Int32) (x4 : Int32) (x5 : Int32) (x6 : Int32) (x7 : Int32) (x8 : Int32) (x9 : Int32) (x10 : Int32) (w5 : Int64) (z : ow_MS), fr (pf [72] []) z0 z → Fo Prod.snd (pf [72] []) z0 (go L x1 x2 x3 x4 x5 x6 x7 x8 x9 x10 w5 z)) (hz : fr (pf [72] []) z0 z)  : Fo Prod.snd (pf [72] []) z0 (qm_X13_minor_1 K go x1 x2 x3 x4 x5 x6 x7 x8 x9 x10 w5 z) := by
  unfold qm_X13_minor_1
  exact (fo_rdF (fun v1 => (fo_if (hgo 5 _ _ _ _ _ _ _ _ _ _ _ z hz) (fo_if (hgo 2 _ _ _ _ _ _ _ _ _ _ _ z hz) (hgo 4 _ _ _ _ _ _ _ _ _ _ _ z hz)))))
theorem fb_X13_minor_2 {K : Nat} {z0 z : ow_MS}  {go : Nat → Int32 → Int32 → Int32 → Int32 → Int32 → Int32 → Int32 → Int32 → Int32 → Int32 → Int64 → ow_MS → Option (Int64 × ow_MS)} {x1 : Int32} {x2 : Int32} {x3 : Int32} {x4 : Int32} {x5 : Int32} {x6 : Int32} {x7 : Int32} {x8 : Int32} {x9 : Int32} {x10 : Int32} {w5 : Int64}  (hgo : ∀ (L : Nat) (x1 : Int32) (x2 : Int32) (x3 : Int32) (x4 : Int32) (x5 : Int32) (x6 : Int32) (x7 : Int32) (x8 : Int32) (x9 : Int32) (x10 : Int32) (w5 : Int64) (z : ow_MS), fr (pf [72] []) z0 z → Fo Prod.snd (pf [72] []) z0 (go L x1 x2 x3 x4 x5 x6 x7 x8 x9 x10 w5 z)) (hz : fr (pf [72] []) z0 z)  : Fo Prod.snd (pf [72] []) z0 (qm_X13_minor_2 K go x1 x2 x3 x4 x5 x6 x7 x8 x9 x10 w5 z) := by
  unfold qm_X13_minor_2
  exact (fo_rdF (fun v2 => (fo_if (hgo 4 _ _ _ _ _ _ _ _ _ _ _ z hz) (fo_if (fo_rdI (fun v3 => (fo_rdI (fun v4 => (fo_rdJ (fun v5 => (fo_wrJ (Or.inl (by decide)) hz (fun z6 h_z6 => (hgo 3 _ _ _ _ _ _ _ _ _ _ _ z6 h_z6))))))))) (hgo 3 _ _ _ _ _ _ _ _ _ _ _ z hz)))))
theorem fb_X13_minor_3 {K : Nat} {z0 z : ow_MS}  {go : Nat → Int32 → Int32 → Int32 → Int32 → Int32 → Int32 → Int32 → Int32 → Int32 → Int32 → Int64 → ow_MS → Option (Int64 × ow_MS)} {x1 : Int32} {x2 : Int32} {x3 : Int32} {x4 : Int32} {x5 : Int32} {x6 : Int32} {x7 : Int32} {x8 : Int32} {x9 : Int32} {x10 : Int32} {w5 : Int64}  (hgo : ∀ (L : Nat) (x1 : Int32) (x2 : Int32) (x3 : Int32) (x4 : Int32) (x5 : Int32) (x6 : Int32) (x7 : Int32) (x8 : Int32) (x9 : Int32) (x10 : Int32) (w5 : Int64) (z : ow_MS), fr (pf [72] []) z0 z → Fo Prod.snd (pf [72] []) z0 (go L x1 x2 x3 x4 x5 x6 x7 x8 x9 x10 w5 z)) (hz : fr (pf [72] []) z0 z)  : Fo Prod.snd (pf [72] []) z0 (qm_X13_minor_3 K go x1 x2 x3 x4 x5 x6 x7 x8 x9 x10 w5 z) := by
  unfold qm_X13_minor_3
  exact (hgo 2 _ _ _ _ _ _ _ _ _ _ _ z hz)
theorem fb_X13_minor_4 {K : Nat} {z0 z : ow_MS}  {go : Nat → Int32 → Int32 → Int32 → Int32 → Int32 → Int32 → Int32 → Int32 → Int32 → Int32 → Int64 → ow_MS → Option (Int64 × ow_MS)} {x1 : Int32} {x2 : Int32} {x3 : Int32} {x4 : Int32} {x5 : Int32} {x6 : Int32} {x7 : Int32} {x8 : Int32} {x9 : Int32} {x10 : Int32} {w5 : Int64}  (hgo : ∀ (L : Nat) (x1 : Int32) (x2 : Int32) (x3 : Int32) (x4 : Int32) (x5 : Int32) (x6 : Int32) (x7 : Int32) (x8 : Int32) (x9 : Int32) (x10 : Int32) (w5 : Int64) (z : ow_MS), fr (pf [72] []) z0 z → Fo Prod.snd (pf [72] []) z0 (go L x1 x2 x3 x4 x5 x6 x7 x8 x9 x10 w5 z)) (hz : fr (pf [72] []) z0 z)  : Fo Prod.snd (pf [72] []) z0 (qm_X13_minor_4 K go x1 x2 x3 x4 x5 x6 x7 x8 x9 x10 w5 z) := by
  unfold qm_X13_minor_4
  exact (hgo 1 _ _ _ _ _ _ _ _ _ _ _ z hz)
theorem fb_X13_minor_5 {K : Nat} {z0 z : ow_MS}  {go : Nat → Int32 → Int32 → Int32 → Int32 → Int32 → Int32 → Int32 → Int32 → Int32 → Int32 → Int64 → ow_MS → Option (Int64 × ow_MS)} {x1 : Int32} {x2 : Int32} {x3 : Int32} {x4 : Int32} {x5 : Int32} {x6 : Int32} {x7 : Int32} {x8 : Int32} {x9 : Int32} {x10 : Int32} {w5 : Int64}  (hgo : ∀ (L : Nat) (x1 : Int32) (x2 : Int32) (x3 : Int32) (x4 : Int32) (x5 : Int32) (x6 : Int32) (x7 : Int32) (x8 : Int32) (x9 : Int32) (x10 : Int32) (w5 : Int64) (z : ow_MS), fr (pf [72] []) z0 z → Fo Prod.snd (pf [72] []) z0 (go L x1 x2 x3 x4 x5 x6 x7 x8 x9 x10 w5 z)) (hz : fr (pf [72] []) z0 z)  : Fo Prod.snd (pf [72] []) z0 (qm_X13_minor_5 K go x1 x2 x3 x4 x5 x6 x7 x8 x9 x10 w5 z) := by
  unfold qm_X13_minor_5
  exact (fo_if (fo_rdJ (fun v7 => (fo_some hz))) (hgo 6 _ _ _ _ _ _ _ _ _ _ _ z hz))
theorem fb_X13_minor_6 {K : Nat} {z0 z : ow_MS}  {go : Nat → Int32 → Int32 → Int32 → Int32 → Int32 → Int32 → Int32 → Int32 → Int32 → Int32 → Int64 → ow_MS → Option (Int64 × ow_MS)} {x1 : Int32} {x2 : Int32} {x3 : Int32} {x4 : Int32} {x5 : Int32} {x6 : Int32} {x7 : Int32} {x8 : Int32} {x9 : Int32} {x10 : Int32} {w5 : Int64}  (hgo : ∀ (L : Nat) (x1 : Int32) (x2 : Int32) (x3 : Int32) (x4 : Int32) (x5 : Int32) (x6 : Int32) (x7 : Int32) (x8 : Int32) (x9 : Int32) (x10 : Int32) (w5 : Int64) (z : ow_MS), fr (pf [72] []) z0 z → Fo Prod.snd (pf [72] []) z0 (go L x1 x2 x3 x4 x5 x6 x7 x8 x9 x10 w5 z)) (hz : fr (pf [72] []) z0 z)  : Fo Prod.snd (pf [72] []) z0 (qm_X13_minor_6 K go x1 x2 x3 x4 x5 x6 x7 x8 x9 x10 w5 z) := by
  unfold qm_X13_minor_6
  exact (fo_if (hgo 7 _ _ _ _ _ _ _ _ _ _ _ z hz) (fo_rdJ (fun v8 => (fo_if (hgo 6 _ _ _ _ _ _ _ _ _ _ _ z hz) (hgo 7 _ _ _ _ _ _ _ _ _ _ _ z hz)))))
theorem fb_X13_minor_7 {K : Nat} {z0 z : ow_MS}  {go : Nat → Int32 → Int32 → Int32 → Int32 → Int32 → Int32 → Int32 → Int32 → Int32 → Int32 → Int64 → ow_MS → Option (Int64 × ow_MS)} {x1 : Int32} {x2 : Int32} {x3 : Int32} {x4 : Int32} {x5 : Int32} {x6 : Int32} {x7 : Int32} {x8 : Int32} {x9 : Int32} {x10 : Int32} {w5 : Int64}  (hgo : ∀ (L : Nat) (x1 : Int32) (x2 : Int32) (x3 : Int32) (x4 : Int32) (x5 : Int32) (x6 : Int32) (x7 : Int32) (x8 : Int32) (x9 : Int32) (x10 : Int32) (w5 : Int64) (z : ow_MS), fr (pf [72] []) z0 z → Fo Prod.snd (pf [72] []) z0 (go L x1 x2 x3 x4 x5 x6 x7 x8 x9 x10 w5 z)) (hz : fr (pf [72] []) z0 z)  : Fo Prod.snd (pf [72] []) z0 (qm_X13_minor_7 K go x1 x2 x3 x4 x5 x6 x7 x8 x9 x10 w5 z) := by
  unfold qm_X13_minor_7
  exact (fo_if (fo_some hz) (hgo 8 _ _ _ _ _ _ _ _ _ _ _ z hz))
theorem fb_X13_minor_8 {K : Nat} {z0 z : ow_MS}  {go : Nat → Int32 → Int32 → Int32 → Int32 → Int32 → Int32 → Int32 → Int32 → Int32 → Int32 → Int64 → ow_MS → Option (Int64 × ow_MS)} {x1 : Int32} {x2 : Int32} {x3 : Int32} {x4 : Int32} {x5 : Int32} {x6 : Int32} {x7 : Int32} {x8 : Int32} {x9 : Int32} {x10 : Int32} {w5 : Int64}  (hgo : ∀ (L : Nat) (x1 : Int32) (x2 : Int32) (x3 : Int32) (x4 : Int32) (x5 : Int32) (x6 : Int32) (x7 : Int32) (x8 : Int32) (x9 : Int32) (x10 : Int32) (w5 : Int64) (z : ow_MS), fr (pf [72] []) z0 z → Fo Prod.snd (pf [72] []) z0 (go L x1 x2 x3 x4 x5 x6 x7 x8 x9 x10 w5 z)) (hz : fr (pf [72] []) z0 z)  : Fo Prod.snd (pf [72] []) z0 (qm_X13_minor_8 K go x1 x2 x3 x4 x5 x6 x7 x8 x9 x10 w5 z) := by
  unfold qm_X13_minor_8
  exact (fo_if (hgo 9 _ _ _ _ _ _ _ _ _ _ _ z hz) (fo_rdJ (fun v9 => (fo_rdJ (fun v10 => (fo_wrJ (Or.inl (by decide)) hz (fun z11 h_z11 => (fo_wrJ (Or.inl (by decide)) h_z11 (fun z12 h_z12 => (hgo 8 _ _ _ _ _ _ _ _ _ _ _ z12 h_z12))))))))))
theorem fb_X13_minor_9 {K : Nat} {z0 z : ow_MS}  {go : Nat → Int32 → Int32 → Int32 → Int32 → Int32 → Int32 → Int32 → Int32 → Int32 → Int32 → Int64 → ow_MS → Option (Int64 × ow_MS)} {x1 : Int32} {x2 : Int32} {x3 : Int32} {x4 : Int32} {x5 : Int32} {x6 : Int32} {x7 : Int32} {x8 : Int32} {x9 : Int32} {x10 : Int32} {w5 : Int64}  (hgo : ∀ (L : Nat) (x1 : Int32) (x2 : Int32) (x3 : Int32) (x4 : Int32) (x5 : Int32) (x6 : Int32) (x7 : Int32) (x8 : Int32) (x9 : Int32) (x10 : Int32) (w5 : Int64) (z : ow_MS), fr (pf [72] []) z0 z → Fo Prod.snd (pf [72] []) z0 (go L x1 x2 x3 x4 x5 x6 x7 x8 x9 x10 w5 z)) (hz : fr (pf [72] []) z0 z)  : Fo Prod.snd (pf [72] []) z0 (qm_X13_minor_9 K go x1 x2 x3 x4 x5 x6 x7 x8 x9 x10 w5 z) := by
  unfold qm_X13_minor_9
  exact (fo_if (fo_rdJ (fun v13 => (hgo 5 _ _ _ _ _ _ _ _ _ _ _ z hz))) (hgo 10 _ _ _ _ _ _ _ _ _ _ _ z hz))
theorem fb_X13_minor_10 {K : Nat} {z0 z : ow_MS}  {go : Nat → Int32 → Int32 → Int32 → Int32 → Int32 → Int32 → Int32 → Int32 → Int32 → Int32 → Int64 → ow_MS → Option (Int64 × ow_MS)} {x1 : Int32} {x2 : Int32} {x3 : Int32} {x4 : Int32} {x5 : Int32} {x6 : Int32} {x7 : Int32} {x8 : Int32} {x9 : Int32} {x10 : Int32} {w5 : Int64}  (hgo : ∀ (L : Nat) (x1 : Int32) (x2 : Int32) (x3 : Int32) (x4 : Int32) (x5 : Int32) (x6 : Int32) (x7 : Int32) (x8 : Int32) (x9 : Int32) (x10 : Int32) (w5 : Int64) (z : ow_MS), fr (pf [72] []) z0 z → Fo Prod.snd (pf [72] []) z0 (go L x1 x2 x3 x4 x5 x6 x7 x8 x9 x10 w5 z)) (hz : fr (pf [72] []) z0 z)  : Fo Prod.snd (pf [72] []) z0 (qm_X13_minor_10 K go x1 x2 x3 x4 x5 x6 x7 x8 x9 x10 w5 z) := by
  unfold qm_X13_minor_10
  exact (fo_if (hgo 9 _ _ _ _ _ _ _ _ _ _ _ z hz) (fo_rdJ (fun v14 => (fo_rdJ (fun v15 => (fo_rdJ (fun v16 => (fo_rdJ (fun v17 => (fo_nzJ (fo_wrJ (Or.inl (by decide)) hz (fun z18 h_z18 => (hgo 10 _ _ _ _ _ _ _ _ _ _ _ z18 h_z18)))))))))))))
theorem fq_X13_minor {K : Nat} {z0 : ow_MS}   : ∀ (k L : Nat) (x1 : Int32) (x2 : Int32) (x3 : Int32) (x4 : Int32) (x5 : Int32) (x6 : Int32) (x7 : Int32) (x8 : Int32) (x9 : Int32) (x10 : Int32) (w5 : Int64) (z : ow_MS), fr (pf [72] []) z0 z → Fo Prod.snd (pf [72] []) z0 (q_X13_minor K k L x1 x2 x3 x4 x5 x6 x7 x8 x9 x10 w5 z)
  | 0 => by
    intros
    exact fo_none
  | k + 1 => by
    intro L x1 x2 x3 x4 x5 x6 x7 x8 x9 x10 w5 z hz 
    show Fo Prod.snd (pf [72] []) z0 (qb_X13_minor K (q_X13_minor K k) L x1 x2 x3 x4 x5 x6 x7 x8 x9 x10 w5 z)
    unfold qb_X13_minor
    split
    · exact fb_X13_minor_0 (fq_X13_minor k) hz 
    · exact fb_X13_minor_1 (fq_X13_minor k) hz 
    · exact fb_X13_minor_2 (fq_X13_minor k) hz 
    · exact fb_X13_minor_3 (fq_X13_minor k) hz 
    · exact fb_X13_minor_4 (fq_X13_minor k) hz 
    · exact fb_X13_minor_5 (fq_X13_minor k) hz 
    · exact fb_X13_minor_6 (fq_X13_minor k) hz 
    · exact fb_X13_minor_7 (fq_X13_minor k) hz 
    · exact fb_X13_minor_8 (fq_X13_minor k) hz 
    · exact fb_X13_minor_9 (fq_X13_minor k) hz 
    · exact fb_X13_minor_10 (fq_X13_minor k) hz 
    · exact fo_none
theorem ff_X13_minor {K : Nat} {x1 : Int32} {x2 : Int32} {x3 : Int32} {z : ow_MS}  : Fo Prod.snd (pf [72] []) z (qe_X13_minor K x1 x2 x3 z) := fq_X13_minor K 0 _ _ _ _ _ _ _ _ _ _ _ z fr_rf 
theorem fb_X13_gcd_0 {K : Nat} {z0 z : ow_MS}  {go : Nat → Int64 → Int64 → Int64 → Int64 → ow_MS → Option (Int64 × ow_MS)} {w0 : Int64} {w2 : Int64} {w4 : Int64} {w6 : Int64}  (hgo : ∀ (L : Nat) (w0 : Int64) (w2 : Int64) (w4 : Int64) (w6 : Int64) (z : ow_MS), fr (pf [] []) z0 z → Fo Prod.snd (pf [] []) z0 (go L w0 w2 w4 w6 z)) (hz : fr (pf [] []) z0 z)  : Fo Prod.snd (pf [] []) z0 (qm_X13_gcd_0 K go w0 w2 w4 w6 z) := by
  unfold qm_X13_gcd_0
  exact (hgo 1 _ _ _ _ z hz)
theorem fb_X13_gcd_1 {K : Nat} {z0 z : ow_MS}  {go : Nat → Int64 → Int64 → Int64 → Int64 → ow_MS → Option (Int64 × ow_MS)} {w0 : Int64} {w2 : Int64} {w4 : Int64} {w6 : Int64}  (hgo : ∀ (L : Nat) (w0 : Int64) (w2 : Int64) (w4 : Int64) (w6 : Int64) (z : ow_MS), fr (pf [] []) z0 z → Fo Prod.snd (pf [] []) z0 (go L w0 w2 w4 w6 z)) (hz : fr (pf [] []) z0 z)  : Fo Prod.snd (pf [] []) z0 (qm_X13_gcd_1 K go w0 w2 w4 w6 z) := by
  unfold qm_X13_gcd_1
  exact (fo_if (fo_some hz) (fo_nzJ (hgo 1 _ _ _ _ z hz)))
theorem fq_X13_gcd {K : Nat} {z0 : ow_MS}   : ∀ (k L : Nat) (w0 : Int64) (w2 : Int64) (w4 : Int64) (w6 : Int64) (z : ow_MS), fr (pf [] []) z0 z → Fo Prod.snd (pf [] []) z0 (q_X13_gcd K k L w0 w2 w4 w6 z)
  | 0 => by
    intros
    exact fo_none
  | k + 1 => by
    intro L w0 w2 w4 w6 z hz 
    show Fo Prod.snd (pf [] []) z0 (qb_X13_gcd K (q_X13_gcd K k) L w0 w2 w4 w6 z)
    unfold qb_X13_gcd
    split
    · exact fb_X13_gcd_0 (fq_X13_gcd k) hz 
    · exact fb_X13_gcd_1 (fq_X13_gcd k) hz 
    · exact fo_none
theorem ff_X13_gcd {K : Nat} {w0 : Int64} {w2 : Int64} {z : ow_MS}  : Fo Prod.snd (pf [] []) z (qe_X13_gcd K w0 w2 z) := fq_X13_gcd K 0 _ _ _ _ z fr_rf 
theorem fb_X13_divisor_0 {K : Nat} {z0 z : ow_MS}  {go : Nat → Int32 → Int32 → Int32 → Int64 → Int64 → ow_MS → Option (Int64 × ow_MS)} {x1 : Int32} {x6 : Int32} {x7 : Int32} {w2 : Int64} {w4 : Int64}  (hgo : ∀ (L : Nat) (x1 : Int32) (x6 : Int32) (x7 : Int32) (w2 : Int64) (w4 : Int64) (z : ow_MS), fr (pf [72] []) z0 z → Fo Prod.snd (pf [72] []) z0 (go L x1 x6 x7 w2 w4 z)) (hz : fr (pf [72] []) z0 z)  : Fo Prod.snd (pf [72] []) z0 (qm_X13_divisor_0 K go x1 x6 x7 w2 w4 z) := by
  unfold qm_X13_divisor_0
  exact (hgo 1 _ _ _ _ _ z hz)
theorem fb_X13_divisor_1 {K : Nat} {z0 z : ow_MS}  {go : Nat → Int32 → Int32 → Int32 → Int64 → Int64 → ow_MS → Option (Int64 × ow_MS)} {x1 : Int32} {x6 : Int32} {x7 : Int32} {w2 : Int64} {w4 : Int64}  (hgo : ∀ (L : Nat) (x1 : Int32) (x6 : Int32) (x7 : Int32) (w2 : Int64) (w4 : Int64) (z : ow_MS), fr (pf [72] []) z0 z → Fo Prod.snd (pf [72] []) z0 (go L x1 x6 x7 w2 w4 z)) (hz : fr (pf [72] []) z0 z)  : Fo Prod.snd (pf [72] []) z0 (qm_X13_divisor_1 K go x1 x6 x7 w2 w4 z) := by
  unfold qm_X13_divisor_1
  exact (fo_rdF (fun v1 => (fo_if (fo_some hz) (fo_if (fo_some hz) (hgo 2 _ _ _ _ _ z hz)))))
theorem fb_X13_divisor_2 {K : Nat} {z0 z : ow_MS}  {go : Nat → Int32 → Int32 → Int32 → Int64 → Int64 → ow_MS → Option (Int64 × ow_MS)} {x1 : Int32} {x6 : Int32} {x7 : Int32} {w2 : Int64} {w4 : Int64}  (hgo : ∀ (L : Nat) (x1 : Int32) (x6 : Int32) (x7 : Int32) (w2 : Int64) (w4 : Int64) (z : ow_MS), fr (pf [72] []) z0 z → Fo Prod.snd (pf [72] []) z0 (go L x1 x6 x7 w2 w4 z)) (hz : fr (pf [72] []) z0 z)  : Fo Prod.snd (pf [72] []) z0 (qm_X13_divisor_2 K go x1 x6 x7 w2 w4 z) := by
  unfold qm_X13_divisor_2
  exact (fo_rdF (fun v2 => (fo_if (hgo 4 _ _ _ _ _ z hz) (fo_if (hgo 4 _ _ _ _ _ z hz) (fo_if (fo_if (fo_cs1 (ff_X13_minor) (pf_sub (by decide) pf_0) hz (fun v6 z5 h_z5 => (fo_cs1 (ff_X13_gcd) (pf_sub (by decide) pf_0) h_z5 (fun v8 z7 h_z7 => (hgo 3 _ _ _ _ _ z7 h_z7))))) (hgo 3 _ _ _ _ _ z hz)) (hgo 4 _ _ _ _ _ z hz))))))
theorem fb_X13_divisor_3 {K : Nat} {z0 z : ow_MS}  {go : Nat → Int32 → Int32 → Int32 → Int64 → Int64 → ow_MS → Option (Int64 × ow_MS)} {x1 : Int32} {x6 : Int32} {x7 : Int32} {w2 : Int64} {w4 : Int64}  (hgo : ∀ (L : Nat) (x1 : Int32) (x6 : Int32) (x7 : Int32) (w2 : Int64) (w4 : Int64) (z : ow_MS), fr (pf [72] []) z0 z → Fo Prod.snd (pf [72] []) z0 (go L x1 x6 x7 w2 w4 z)) (hz : fr (pf [72] []) z0 z)  : Fo Prod.snd (pf [72] []) z0 (qm_X13_divisor_3 K go x1 x6 x7 w2 w4 z) := by
  unfold qm_X13_divisor_3
  exact (hgo 2 _ _ _ _ _ z hz)
theorem fb_X13_divisor_4 {K : Nat} {z0 z : ow_MS}  {go : Nat → Int32 → Int32 → Int32 → Int64 → Int64 → ow_MS → Option (Int64 × ow_MS)} {x1 : Int32} {x6 : Int32} {x7 : Int32} {w2 : Int64} {w4 : Int64}  (hgo : ∀ (L : Nat) (x1 : Int32) (x6 : Int32) (x7 : Int32) (w2 : Int64) (w4 : Int64) (z : ow_MS), fr (pf [72] []) z0 z → Fo Prod.snd (pf [72] []) z0 (go L x1 x6 x7 w2 w4 z)) (hz : fr (pf [72] []) z0 z)  : Fo Prod.snd (pf [72] []) z0 (qm_X13_divisor_4 K go x1 x6 x7 w2 w4 z) := by
  unfold qm_X13_divisor_4
  exact (hgo 1 _ _ _ _ _ z hz)
theorem fq_X13_divisor {K : Nat} {z0 : ow_MS}   : ∀ (k L : Nat) (x1 : Int32) (x6 : Int32) (x7 : Int32) (w2 : Int64) (w4 : Int64) (z : ow_MS), fr (pf [72] []) z0 z → Fo Prod.snd (pf [72] []) z0 (q_X13_divisor K k L x1 x6 x7 w2 w4 z)
  | 0 => by
    intros
    exact fo_none
  | k + 1 => by
    intro L x1 x6 x7 w2 w4 z hz 
    show Fo Prod.snd (pf [72] []) z0 (qb_X13_divisor K (q_X13_divisor K k) L x1 x6 x7 w2 w4 z)
    unfold qb_X13_divisor
    split
    · exact fb_X13_divisor_0 (fq_X13_divisor k) hz 
    · exact fb_X13_divisor_1 (fq_X13_divisor k) hz 
    · exact fb_X13_divisor_2 (fq_X13_divisor k) hz 
    · exact fb_X13_divisor_3 (fq_X13_divisor k) hz 
    · exact fb_X13_divisor_4 (fq_X13_divisor k) hz 
    · exact fo_none
theorem ff_X13_divisor {K : Nat} {x1 : Int32} {w2 : Int64} {z : ow_MS}  : Fo Prod.snd (pf [72] []) z (qe_X13_divisor K x1 w2 z) := fq_X13_divisor K 0 _ _ _ _ _ z fr_rf 
theorem fb_X13_makeCover_0 {K : Nat} {z0 z : ow_MS}  {go : Nat → Int32 → Int32 → Int32 → Int32 → Int32 → Int32 → Int64 → Int64 → Int64 → Nat → ow_MS → Option ow_MS} {x2 : Int32} {x3 : Int32} {x4 : Int32} {x6 : Int32} {x7 : Int32} {x9 : Int32} {w4 : Int64} {w5 : Int64} {w7 : Int64} {r1 : Nat}  (hgo : ∀ (L : Nat) (x2 : Int32) (x3 : Int32) (x4 : Int32) (x6 : Int32) (x7 : Int32) (x9 : Int32) (w4 : Int64) (w5 : Int64) (w7 : Int64) (r1 : Nat) (z : ow_MS), fr (pf [58, 59, 60, 61, 62, 63, 64, 66, 67, 68, 69, 70, 71, 72] []) z0 z → (L = 0 ∨ L = 1 ∨ L = 2 ∨ L = 3 ∨ L = 4 ∨ L = 5 ∨ L = 6 ∨ L = 7 ∨ L = 8 ∨ L = 9 → 1000 ≤ r1) → Fo id (pf [58, 59, 60, 61, 62, 63, 64, 66, 67, 68, 69, 70, 71, 72] []) z0 (go L x2 x3 x4 x6 x7 x9 w4 w5 w7 r1 z)) (hz : fr (pf [58, 59, 60, 61, 62, 63, 64, 66, 67, 68, 69, 70, 71, 72] []) z0 z) (hr1 : 1000 ≤ r1) : Fo id (pf [58, 59, 60, 61, 62, 63, 64, 66, 67, 68, 69, 70, 71, 72] []) z0 (qm_X13_makeCover_0 K go x2 x3 x4 x6 x7 x9 w4 w5 w7 r1 z) := by
  unfold qm_X13_makeCover_0
  exact (fo_cs0 (ff_X13_makeArcs (by first | omega | decide)) (pf_sub (by decide) pf_0) hz (fun z1 h_z1 => (fo_rdF (fun v2 => (fo_nzI (hgo 1 _ _ _ _ _ _ _ _ _ _ z1 h_z1 (fun _ => (by first | omega | decide))))))))
theorem fb_X13_makeCover_1 {K : Nat} {z0 z : ow_MS}  {go : Nat → Int32 → Int32 → Int32 → Int32 → Int32 → Int32 → Int64 → Int64 → Int64 → Nat → ow_MS → Option ow_MS} {x2 : Int32} {x3 : Int32} {x4 : Int32} {x6 : Int32} {x7 : Int32} {x9 : Int32} {w4 : Int64} {w5 : Int64} {w7 : Int64} {r1 : Nat}  (hgo : ∀ (L : Nat) (x2 : Int32) (x3 : Int32) (x4 : Int32) (x6 : Int32) (x7 : Int32) (x9 : Int32) (w4 : Int64) (w5 : Int64) (w7 : Int64) (r1 : Nat) (z : ow_MS), fr (pf [58, 59, 60, 61, 62, 63, 64, 66, 67, 68, 69, 70, 71, 72] []) z0 z → (L = 0 ∨ L = 1 ∨ L = 2 ∨ L = 3 ∨ L = 4 ∨ L = 5 ∨ L = 6 ∨ L = 7 ∨ L = 8 ∨ L = 9 → 1000 ≤ r1) → Fo id (pf [58, 59, 60, 61, 62, 63, 64, 66, 67, 68, 69, 70, 71, 72] []) z0 (go L x2 x3 x4 x6 x7 x9 w4 w5 w7 r1 z)) (hz : fr (pf [58, 59, 60, 61, 62, 63, 64, 66, 67, 68, 69, 70, 71, 72] []) z0 z) (hr1 : 1000 ≤ r1) : Fo id (pf [58, 59, 60, 61, 62, 63, 64, 66, 67, 68, 69, 70, 71, 72] []) z0 (qm_X13_makeCover_1 K go x2 x3 x4 x6 x7 x9 w4 w5 w7 r1 z) := by
  unfold qm_X13_makeCover_1
  exact (fo_if (hgo 2 _ _ _ _ _ _ _ _ _ _ z hz (fun _ => (by first | omega | decide))) (fo_wrJ (Or.inl (by decide)) hz (fun z3 h_z3 => (hgo 1 _ _ _ _ _ _ _ _ _ _ z3 h_z3 (fun _ => (by first | omega | decide))))))
theorem fb_X13_makeCover_2 {K : Nat} {z0 z : ow_MS}  {go : Nat → Int32 → Int32 → Int32 → Int32 → Int32 → Int32 → Int64 → Int64 → Int64 → Nat → ow_MS → Option ow_MS} {x2 : Int32} {x3 : Int32} {x4 : Int32} {x6 : Int32} {x7 : Int32} {x9 : Int32} {w4 : Int64} {w5 : Int64} {w7 : Int64} {r1 : Nat}  (hgo : ∀ (L : Nat) (x2 : Int32) (x3 : Int32) (x4 : Int32) (x6 : Int32) (x7 : Int32) (x9 : Int32) (w4 : Int64) (w5 : Int64) (w7 : Int64) (r1 : Nat) (z : ow_MS), fr (pf [58, 59, 60, 61, 62, 63, 64, 66, 67, 68, 69, 70, 71, 72] []) z0 z → (L = 0 ∨ L = 1 ∨ L = 2 ∨ L = 3 ∨ L = 4 ∨ L = 5 ∨ L = 6 ∨ L = 7 ∨ L = 8 ∨ L = 9 → 1000 ≤ r1) → Fo id (pf [58, 59, 60, 61, 62, 63, 64, 66, 67, 68, 69, 70, 71, 72] []) z0 (go L x2 x3 x4 x6 x7 x9 w4 w5 w7 r1 z)) (hz : fr (pf [58, 59, 60, 61, 62, 63, 64, 66, 67, 68, 69, 70, 71, 72] []) z0 z) (hr1 : 1000 ≤ r1) : Fo id (pf [58, 59, 60, 61, 62, 63, 64, 66, 67, 68, 69, 70, 71, 72] []) z0 (qm_X13_makeCover_2 K go x2 x3 x4 x6 x7 x9 w4 w5 w7 r1 z) := by
  unfold qm_X13_makeCover_2
  exact (fo_if (hgo 3 _ _ _ _ _ _ _ _ _ _ z hz (fun _ => (by first | omega | decide))) (fo_rdI (fun v4 => (fo_rdJ (fun v5 => (fo_wrJ (Or.inl (by decide)) hz (fun z6 h_z6 => (fo_rdI (fun v7 => (fo_rdJ (fun v8 => (fo_wrJ (Or.inl (by decide)) h_z6 (fun z9 h_z9 => (fo_rdI (fun v10 => (fo_rdJ (fun v11 => (fo_wrJ (Or.inl (by decide)) h_z9 (fun z12 h_z12 => (hgo 2 _ _ _ _ _ _ _ _ _ _ z12 h_z12 (fun _ => (by first | omega | decide))))))))))))))))))))))
theorem fb_X13_makeCover_3 {K : Nat} {z0 z : ow_MS}  {go : Nat → Int32 → Int32 → Int32 → Int32 → Int32 → Int32 → Int64 → Int64 → Int64 → Nat → ow_MS → Option ow_MS} {x2 : Int32} {x3 : Int32} {x4 : Int32} {x6 : Int32} {x7 : Int32} {x9 : Int32} {w4 : Int64} {w5 : Int64} {w7 : Int64} {r1 : Nat}  (hgo : ∀ (L : Nat) (x2 : Int32) (x3 : Int32) (x4 : Int32) (x6 : Int32) (x7 : Int32) (x9 : Int32) (w4 : Int64) (w5 : Int64) (w7 : Int64) (r1 : Nat) (z : ow_MS), fr (pf [58, 59, 60, 61, 62, 63, 64, 66, 67, 68, 69, 70, 71, 72] []) z0 z → (L = 0 ∨ L = 1 ∨ L = 2 ∨ L = 3 ∨ L = 4 ∨ L = 5 ∨ L = 6 ∨ L = 7 ∨ L = 8 ∨ L = 9 → 1000 ≤ r1) → Fo id (pf [58, 59, 60, 61, 62, 63, 64, 66, 67, 68, 69, 70, 71, 72] []) z0 (go L x2 x3 x4 x6 x7 x9 w4 w5 w7 r1 z)) (hz : fr (pf [58, 59, 60, 61, 62, 63, 64, 66, 67, 68, 69, 70, 71, 72] []) z0 z) (hr1 : 1000 ≤ r1) : Fo id (pf [58, 59, 60, 61, 62, 63, 64, 66, 67, 68, 69, 70, 71, 72] []) z0 (qm_X13_makeCover_3 K go x2 x3 x4 x6 x7 x9 w4 w5 w7 r1 z) := by
  unfold qm_X13_makeCover_3
  exact (fo_if (hgo 6 _ _ _ _ _ _ _ _ _ _ z hz (fun _ => (by first | omega | decide))) (fo_rdF (fun v13 => (fo_if (hgo 6 _ _ _ _ _ _ _ _ _ _ z hz (fun _ => (by first | omega | decide))) (fo_cs1 (ff_X13_unit) (pf_sub (by decide) pf_0) hz (fun v15 z14 h_z14 => (fo_if (hgo 6 _ _ _ _ _ _ _ _ _ _ z14 h_z14 (fun _ => (by first | omega | decide))) (hgo 4 _ _ _ _ _ _ _ _ _ _ z14 h_z14 (fun _ => (by first | omega | decide))))))))))
theorem fb_X13_makeCover_4 {K : Nat} {z0 z : ow_MS}  {go : Nat → Int32 → Int32 → Int32 → Int32 → Int32 → Int32 → Int64 → Int64 → Int64 → Nat → ow_MS → Option ow_MS} {x2 : Int32} {x3 : Int32} {x4 : Int32} {x6 : Int32} {x7 : Int32} {x9 : Int32} {w4 : Int64} {w5 : Int64} {w7 : Int64} {r1 : Nat}  (hgo : ∀ (L : Nat) (x2 : Int32) (x3 : Int32) (x4 : Int32) (x6 : Int32) (x7 : Int32) (x9 : Int32) (w4 : Int64) (w5 : Int64) (w7 : Int64) (r1 : Nat) (z : ow_MS), fr (pf [58, 59, 60, 61, 62, 63, 64, 66, 67, 68, 69, 70, 71, 72] []) z0 z → (L = 0 ∨ L = 1 ∨ L = 2 ∨ L = 3 ∨ L = 4 ∨ L = 5 ∨ L = 6 ∨ L = 7 ∨ L = 8 ∨ L = 9 → 1000 ≤ r1) → Fo id (pf [58, 59, 60, 61, 62, 63, 64, 66, 67, 68, 69, 70, 71, 72] []) z0 (go L x2 x3 x4 x6 x7 x9 w4 w5 w7 r1 z)) (hz : fr (pf [58, 59, 60, 61, 62, 63, 64, 66, 67, 68, 69, 70, 71, 72] []) z0 z) (hr1 : 1000 ≤ r1) : Fo id (pf [58, 59, 60, 61, 62, 63, 64, 66, 67, 68, 69, 70, 71, 72] []) z0 (qm_X13_makeCover_4 K go x2 x3 x4 x6 x7 x9 w4 w5 w7 r1 z) := by
  unfold qm_X13_makeCover_4
  exact (fo_if (hgo 3 _ _ _ _ _ _ _ _ _ _ z hz (fun _ => (by first | omega | decide))) (fo_rdJ (fun v16 => (fo_rdJ (fun v17 => (hgo 5 _ _ _ _ _ _ _ _ _ _ z hz (fun _ => (by first | omega | decide))))))))
theorem fb_X13_makeCover_5 {K : Nat} {z0 z : ow_MS}  {go : Nat → Int32 → Int32 → Int32 → Int32 → Int32 → Int32 → Int64 → Int64 → Int64 → Nat → ow_MS → Option ow_MS} {x2 : Int32} {x3 : Int32} {x4 : Int32} {x6 : Int32} {x7 : Int32} {x9 : Int32} {w4 : Int64} {w5 : Int64} {w7 : Int64} {r1 : Nat}  (hgo : ∀ (L : Nat) (x2 : Int32) (x3 : Int32) (x4 : Int32) (x6 : Int32) (x7 : Int32) (x9 : Int32) (w4 : Int64) (w5 : Int64) (w7 : Int64) (r1 : Nat) (z : ow_MS), fr (pf [58, 59, 60, 61, 62, 63, 64, 66, 67, 68, 69, 70, 71, 72] []) z0 z → (L = 0 ∨ L = 1 ∨ L = 2 ∨ L = 3 ∨ L = 4 ∨ L = 5 ∨ L = 6 ∨ L = 7 ∨ L = 8 ∨ L = 9 → 1000 ≤ r1) → Fo id (pf [58, 59, 60, 61, 62, 63, 64, 66, 67, 68, 69, 70, 71, 72] []) z0 (go L x2 x3 x4 x6 x7 x9 w4 w5 w7 r1 z)) (hz : fr (pf [58, 59, 60, 61, 62, 63, 64, 66, 67, 68, 69, 70, 71, 72] []) z0 z) (hr1 : 1000 ≤ r1) : Fo id (pf [58, 59, 60, 61, 62, 63, 64, 66, 67, 68, 69, 70, 71, 72] []) z0 (qm_X13_makeCover_5 K go x2 x3 x4 x6 x7 x9 w4 w5 w7 r1 z) := by
  unfold qm_X13_makeCover_5
  exact (fo_rdF (fun v18 => (fo_if (hgo 4 _ _ _ _ _ _ _ _ _ _ z hz (fun _ => (by first | omega | decide))) (fo_rdJ (fun v19 => (fo_rdJ (fun v20 => (fo_wrJ (Or.inl (by decide)) hz (fun z21 h_z21 => (hgo 5 _ _ _ _ _ _ _ _ _ _ z21 h_z21 (fun _ => (by first | omega | decide))))))))))))
theorem fb_X13_makeCover_6 {K : Nat} {z0 z : ow_MS}  {go : Nat → Int32 → Int32 → Int32 → Int32 → Int32 → Int32 → Int64 → Int64 → Int64 → Nat → ow_MS → Option ow_MS} {x2 : Int32} {x3 : Int32} {x4 : Int32} {x6 : Int32} {x7 : Int32} {x9 : Int32} {w4 : Int64} {w5 : Int64} {w7 : Int64} {r1 : Nat}  (hgo : ∀ (L : Nat) (x2 : Int32) (x3 : Int32) (x4 : Int32) (x6 : Int32) (x7 : Int32) (x9 : Int32) (w4 : Int64) (w5 : Int64) (w7 : Int64) (r1 : Nat) (z : ow_MS), fr (pf [58, 59, 60, 61, 62, 63, 64, 66, 67, 68, 69, 70, 71, 72] []) z0 z → (L = 0 ∨ L = 1 ∨ L = 2 ∨ L = 3 ∨ L = 4 ∨ L = 5 ∨ L = 6 ∨ L = 7 ∨ L = 8 ∨ L = 9 → 1000 ≤ r1) → Fo id (pf [58, 59, 60, 61, 62, 63, 64, 66, 67, 68, 69, 70, 71, 72] []) z0 (go L x2 x3 x4 x6 x7 x9 w4 w5 w7 r1 z)) (hz : fr (pf [58, 59, 60, 61, 62, 63, 64, 66, 67, 68, 69, 70, 71, 72] []) z0 z) (hr1 : 1000 ≤ r1) : Fo id (pf [58, 59, 60, 61, 62, 63, 64, 66, 67, 68, 69, 70, 71, 72] []) z0 (qm_X13_makeCover_6 K go x2 x3 x4 x6 x7 x9 w4 w5 w7 r1 z) := by
  unfold qm_X13_makeCover_6
  exact (fo_cs0 (ff_X13_leave) (pf_sub (by decide) pf_0) hz (fun z22 h_z22 => (fo_wrF (Or.inl (by decide)) h_z22 (fun z23 h_z23 => (fo_cs1 (ff_X13_divisor) (pf_sub (by decide) pf_0) h_z23 (fun v25 z24 h_z24 => (hgo 7 _ _ _ _ _ _ _ _ _ _ z24 h_z24 (fun _ => (by first | omega | decide)))))))))
theorem fb_X13_makeCover_7 {K : Nat} {z0 z : ow_MS}  {go : Nat → Int32 → Int32 → Int32 → Int32 → Int32 → Int32 → Int64 → Int64 → Int64 → Nat → ow_MS → Option ow_MS} {x2 : Int32} {x3 : Int32} {x4 : Int32} {x6 : Int32} {x7 : Int32} {x9 : Int32} {w4 : Int64} {w5 : Int64} {w7 : Int64} {r1 : Nat}  (hgo : ∀ (L : Nat) (x2 : Int32) (x3 : Int32) (x4 : Int32) (x6 : Int32) (x7 : Int32) (x9 : Int32) (w4 : Int64) (w5 : Int64) (w7 : Int64) (r1 : Nat) (z : ow_MS), fr (pf [58, 59, 60, 61, 62, 63, 64, 66, 67, 68, 69, 70, 71, 72] []) z0 z → (L = 0 ∨ L = 1 ∨ L = 2 ∨ L = 3 ∨ L = 4 ∨ L = 5 ∨ L = 6 ∨ L = 7 ∨ L = 8 ∨ L = 9 → 1000 ≤ r1) → Fo id (pf [58, 59, 60, 61, 62, 63, 64, 66, 67, 68, 69, 70, 71, 72] []) z0 (go L x2 x3 x4 x6 x7 x9 w4 w5 w7 r1 z)) (hz : fr (pf [58, 59, 60, 61, 62, 63, 64, 66, 67, 68, 69, 70, 71, 72] []) z0 z) (hr1 : 1000 ≤ r1) : Fo id (pf [58, 59, 60, 61, 62, 63, 64, 66, 67, 68, 69, 70, 71, 72] []) z0 (qm_X13_makeCover_7 K go x2 x3 x4 x6 x7 x9 w4 w5 w7 r1 z) := by
  unfold qm_X13_makeCover_7
  exact (fo_if (hgo 9 _ _ _ _ _ _ _ _ _ _ z hz (fun _ => (by first | omega | decide))) (fo_if (hgo 8 _ _ _ _ _ _ _ _ _ _ z hz (fun _ => (by first | omega | decide))) (fo_rdF (fun v26 => (fo_nzJ (fo_wrJ (Or.inl (by decide)) hz (fun z27 h_z27 => (fo_rdF (fun v28 => (fo_wrF (Or.inl (by decide)) h_z27 (fun z29 h_z29 => (hgo 8 _ _ _ _ _ _ _ _ _ _ z29 h_z29 (fun _ => (by first | omega | decide))))))))))))))
theorem fb_X13_makeCover_8 {K : Nat} {z0 z : ow_MS}  {go : Nat → Int32 → Int32 → Int32 → Int32 → Int32 → Int32 → Int64 → Int64 → Int64 → Nat → ow_MS → Option ow_MS} {x2 : Int32} {x3 : Int32} {x4 : Int32} {x6 : Int32} {x7 : Int32} {x9 : Int32} {w4 : Int64} {w5 : Int64} {w7 : Int64} {r1 : Nat}  (hgo : ∀ (L : Nat) (x2 : Int32) (x3 : Int32) (x4 : Int32) (x6 : Int32) (x7 : Int32) (x9 : Int32) (w4 : Int64) (w5 : Int64) (w7 : Int64) (r1 : Nat) (z : ow_MS), fr (pf [58, 59, 60, 61, 62, 63, 64, 66, 67, 68, 69, 70, 71, 72] []) z0 z → (L = 0 ∨ L = 1 ∨ L = 2 ∨ L = 3 ∨ L = 4 ∨ L = 5 ∨ L = 6 ∨ L = 7 ∨ L = 8 ∨ L = 9 → 1000 ≤ r1) → Fo id (pf [58, 59, 60, 61, 62, 63, 64, 66, 67, 68, 69, 70, 71, 72] []) z0 (go L x2 x3 x4 x6 x7 x9 w4 w5 w7 r1 z)) (hz : fr (pf [58, 59, 60, 61, 62, 63, 64, 66, 67, 68, 69, 70, 71, 72] []) z0 z) (hr1 : 1000 ≤ r1) : Fo id (pf [58, 59, 60, 61, 62, 63, 64, 66, 67, 68, 69, 70, 71, 72] []) z0 (qm_X13_makeCover_8 K go x2 x3 x4 x6 x7 x9 w4 w5 w7 r1 z) := by
  unfold qm_X13_makeCover_8
  exact (fo_cs1 (ff_X13_divisor) (pf_sub (by decide) pf_0) hz (fun v31 z30 h_z30 => (hgo 7 _ _ _ _ _ _ _ _ _ _ z30 h_z30 (fun _ => (by first | omega | decide)))))
theorem fb_X13_makeCover_9 {K : Nat} {z0 z : ow_MS}  {go : Nat → Int32 → Int32 → Int32 → Int32 → Int32 → Int32 → Int64 → Int64 → Int64 → Nat → ow_MS → Option ow_MS} {x2 : Int32} {x3 : Int32} {x4 : Int32} {x6 : Int32} {x7 : Int32} {x9 : Int32} {w4 : Int64} {w5 : Int64} {w7 : Int64} {r1 : Nat}  (hgo : ∀ (L : Nat) (x2 : Int32) (x3 : Int32) (x4 : Int32) (x6 : Int32) (x7 : Int32) (x9 : Int32) (w4 : Int64) (w5 : Int64) (w7 : Int64) (r1 : Nat) (z : ow_MS), fr (pf [58, 59, 60, 61, 62, 63, 64, 66, 67, 68, 69, 70, 71, 72] []) z0 z → (L = 0 ∨ L = 1 ∨ L = 2 ∨ L = 3 ∨ L = 4 ∨ L = 5 ∨ L = 6 ∨ L = 7 ∨ L = 8 ∨ L = 9 → 1000 ≤ r1) → Fo id (pf [58, 59, 60, 61, 62, 63, 64, 66, 67, 68, 69, 70, 71, 72] []) z0 (go L x2 x3 x4 x6 x7 x9 w4 w5 w7 r1 z)) (hz : fr (pf [58, 59, 60, 61, 62, 63, 64, 66, 67, 68, 69, 70, 71, 72] []) z0 z) (hr1 : 1000 ≤ r1) : Fo id (pf [58, 59, 60, 61, 62, 63, 64, 66, 67, 68, 69, 70, 71, 72] []) z0 (qm_X13_makeCover_9 K go x2 x3 x4 x6 x7 x9 w4 w5 w7 r1 z) := by
  unfold qm_X13_makeCover_9
  exact (fo_rdF (fun v32 => (fo_if (fo_some hz) (fo_rdF (fun v33 => (fo_wrJ (Or.inl (by decide)) hz (fun z34 h_z34 => (fo_rdF (fun v35 => (fo_wrF (Or.inl (by decide)) h_z34 (fun z36 h_z36 => (hgo 9 _ _ _ _ _ _ _ _ _ _ z36 h_z36 (fun _ => (by first | omega | decide))))))))))))))
theorem fq_X13_makeCover {K : Nat} {z0 : ow_MS}   : ∀ (k L : Nat) (x2 : Int32) (x3 : Int32) (x4 : Int32) (x6 : Int32) (x7 : Int32) (x9 : Int32) (w4 : Int64) (w5 : Int64) (w7 : Int64) (r1 : Nat) (z : ow_MS), fr (pf [58, 59, 60, 61, 62, 63, 64, 66, 67, 68, 69, 70, 71, 72] []) z0 z → (L = 0 ∨ L = 1 ∨ L = 2 ∨ L = 3 ∨ L = 4 ∨ L = 5 ∨ L = 6 ∨ L = 7 ∨ L = 8 ∨ L = 9 → 1000 ≤ r1) → Fo id (pf [58, 59, 60, 61, 62, 63, 64, 66, 67, 68, 69, 70, 71, 72] []) z0 (q_X13_makeCover K k L x2 x3 x4 x6 x7 x9 w4 w5 w7 r1 z)
  | 0 => by
    intros
    exact fo_none
  | k + 1 => by
    intro L x2 x3 x4 x6 x7 x9 w4 w5 w7 r1 z hz h9_r1
    show Fo id (pf [58, 59, 60, 61, 62, 63, 64, 66, 67, 68, 69, 70, 71, 72] []) z0 (qb_X13_makeCover K (q_X13_makeCover K k) L x2 x3 x4 x6 x7 x9 w4 w5 w7 r1 z)
    unfold qb_X13_makeCover
    split
    · exact fb_X13_makeCover_0 (fq_X13_makeCover k) hz (h9_r1 (by decide))
    · exact fb_X13_makeCover_1 (fq_X13_makeCover k) hz (h9_r1 (by decide))
    · exact fb_X13_makeCover_2 (fq_X13_makeCover k) hz (h9_r1 (by decide))
    · exact fb_X13_makeCover_3 (fq_X13_makeCover k) hz (h9_r1 (by decide))
    · exact fb_X13_makeCover_4 (fq_X13_makeCover k) hz (h9_r1 (by decide))
    · exact fb_X13_makeCover_5 (fq_X13_makeCover k) hz (h9_r1 (by decide))
    · exact fb_X13_makeCover_6 (fq_X13_makeCover k) hz (h9_r1 (by decide))
    · exact fb_X13_makeCover_7 (fq_X13_makeCover k) hz (h9_r1 (by decide))
    · exact fb_X13_makeCover_8 (fq_X13_makeCover k) hz (h9_r1 (by decide))
    · exact fb_X13_makeCover_9 (fq_X13_makeCover k) hz (h9_r1 (by decide))
    · exact fo_none
theorem ff_X13_makeCover {K : Nat} {r1 : Nat} {z : ow_MS} (hr1 : 1000 ≤ r1) : Fo id (pf [58, 59, 60, 61, 62, 63, 64, 66, 67, 68, 69, 70, 71, 72] []) z (qe_X13_makeCover K r1 z) := fq_X13_makeCover K 0 _ _ _ _ _ _ _ _ _ _ z fr_rf (fun _ => (by first | omega | decide))
theorem fb_X13_coverOf_0 {K : Nat} {z0 z : ow_MS}  {go : Nat → Int32 → Int32 → ow_MS → Option ow_MS} {x1 : Int32} {x2 : Int32}  (hgo : ∀ (L : Nat) (x1 : Int32) (x2 : Int32) (z : ow_MS), fr (pf [58, 59, 60, 61, 62, 63, 64, 65, 66, 67, 68, 69, 70, 71, 72] []) z0 z → Fo id (pf [58, 59, 60, 61, 62, 63, 64, 65, 66, 67, 68, 69, 70, 71, 72] []) z0 (go L x1 x2 z)) (hz : fr (pf [58, 59, 60, 61, 62, 63, 64, 65, 66, 67, 68, 69, 70, 71, 72] []) z0 z)  : Fo id (pf [58, 59, 60, 61, 62, 63, 64, 65, 66, 67, 68, 69, 70, 71, 72] []) z0 (qm_X13_coverOf_0 K go x1 x2 z) := by
  unfold qm_X13_coverOf_0
  exact (fo_cs1 (ff_X13_isSame) (pf_sub (by decide) pf_0) hz (fun v2 z1 h_z1 => (fo_if (fo_cs0 (ff_X13_open (by first | omega | decide)) (pf_sub (by decide) pf_0) h_z1 (fun z3 h_z3 => (fo_cs0 (ff_X13_makeCover (by first | omega | decide)) (pf_sub (by decide) pf_0) h_z3 (fun z4 h_z4 => (hgo 1 _ _ z4 h_z4))))) (fo_some h_z1))))
theorem fb_X13_coverOf_1 {K : Nat} {z0 z : ow_MS}  {go : Nat → Int32 → Int32 → ow_MS → Option ow_MS} {x1 : Int32} {x2 : Int32}  (hgo : ∀ (L : Nat) (x1 : Int32) (x2 : Int32) (z : ow_MS), fr (pf [58, 59, 60, 61, 62, 63, 64, 65, 66, 67, 68, 69, 70, 71, 72] []) z0 z → Fo id (pf [58, 59, 60, 61, 62, 63, 64, 65, 66, 67, 68, 69, 70, 71, 72] []) z0 (go L x1 x2 z)) (hz : fr (pf [58, 59, 60, 61, 62, 63, 64, 65, 66, 67, 68, 69, 70, 71, 72] []) z0 z)  : Fo id (pf [58, 59, 60, 61, 62, 63, 64, 65, 66, 67, 68, 69, 70, 71, 72] []) z0 (qm_X13_coverOf_1 K go x1 x2 z) := by
  unfold qm_X13_coverOf_1
  exact (fo_if (fo_some hz) (fo_rdI (fun v5 => (fo_wrI (Or.inl (by decide)) hz (fun z6 h_z6 => (hgo 1 _ _ z6 h_z6))))))
theorem fq_X13_coverOf {K : Nat} {z0 : ow_MS}   : ∀ (k L : Nat) (x1 : Int32) (x2 : Int32) (z : ow_MS), fr (pf [58, 59, 60, 61, 62, 63, 64, 65, 66, 67, 68, 69, 70, 71, 72] []) z0 z → Fo id (pf [58, 59, 60, 61, 62, 63, 64, 65, 66, 67, 68, 69, 70, 71, 72] []) z0 (q_X13_coverOf K k L x1 x2 z)
  | 0 => by
    intros
    exact fo_none
  | k + 1 => by
    intro L x1 x2 z hz 
    show Fo id (pf [58, 59, 60, 61, 62, 63, 64, 65, 66, 67, 68, 69, 70, 71, 72] []) z0 (qb_X13_coverOf K (q_X13_coverOf K k) L x1 x2 z)
    unfold qb_X13_coverOf
    split
    · exact fb_X13_coverOf_0 (fq_X13_coverOf k) hz 
    · exact fb_X13_coverOf_1 (fq_X13_coverOf k) hz 
    · exact fo_none
theorem ff_X13_coverOf {K : Nat} {x1 : Int32} {z : ow_MS}  : Fo id (pf [58, 59, 60, 61, 62, 63, 64, 65, 66, 67, 68, 69, 70, 71, 72] []) z (qe_X13_coverOf K x1 z) := fq_X13_coverOf K 0 _ _ z fr_rf 
theorem fb_X13_cover_0 {K : Nat} {z0 z : ow_MS}  {go : Nat → Int32 → Int32 → ow_MS → Option (Int32 × ow_MS)} {x1 : Int32} {x2 : Int32}  (hgo : ∀ (L : Nat) (x1 : Int32) (x2 : Int32) (z : ow_MS), fr (pf [1, 58, 59, 60, 61, 62, 63, 64, 65, 66, 67, 68, 69, 70, 71, 72] []) z0 z → Fo Prod.snd (pf [1, 58, 59, 60, 61, 62, 63, 64, 65, 66, 67, 68, 69, 70, 71, 72] []) z0 (go L x1 x2 z)) (hz : fr (pf [1, 58, 59, 60, 61, 62, 63, 64, 65, 66, 67, 68, 69, 70, 71, 72] []) z0 z)  : Fo Prod.snd (pf [1, 58, 59, 60, 61, 62, 63, 64, 65, 66, 67, 68, 69, 70, 71, 72] []) z0 (qm_X13_cover_0 K go x1 x2 z) := by
  unfold qm_X13_cover_0
  exact (fo_wrF (Or.inl (by decide)) hz (fun z1 h_z1 => (fo_cs1 (ff_X13_has) (pf_sub (by decide) pf_0) h_z1 (fun v3 z2 h_z2 => (fo_if (fo_cs1 (ff_X13_fails) (pf_sub (by decide) pf_0) h_z2 (fun v8 z7 h_z7 => (fo_some h_z7))) (fo_cs0 (ff_X13_coverOf) (pf_sub (by decide) pf_0) h_z2 (fun z4 h_z4 => (fo_if (hgo 1 _ _ z4 h_z4) (fo_rdF (fun v5 => (fo_if (fo_rdJ (fun v6 => (fo_some h_z4))) (hgo 1 _ _ z4 h_z4))))))))))))
theorem fb_X13_cover_1 {K : Nat} {z0 z : ow_MS}  {go : Nat → Int32 → Int32 → ow_MS → Option (Int32 × ow_MS)} {x1 : Int32} {x2 : Int32}  (hgo : ∀ (L : Nat) (x1 : Int32) (x2 : Int32) (z : ow_MS), fr (pf [1, 58, 59, 60, 61, 62, 63, 64, 65, 66, 67, 68, 69, 70, 71, 72] []) z0 z → Fo Prod.snd (pf [1, 58, 59, 60, 61, 62, 63, 64, 65, 66, 67, 68, 69, 70, 71, 72] []) z0 (go L x1 x2 z)) (hz : fr (pf [1, 58, 59, 60, 61, 62, 63, 64, 65, 66, 67, 68, 69, 70, 71, 72] []) z0 z)  : Fo Prod.snd (pf [1, 58, 59, 60, 61, 62, 63, 64, 65, 66, 67, 68, 69, 70, 71, 72] []) z0 (qm_X13_cover_1 K go x1 x2 z) := by
  unfold qm_X13_cover_1
  exact (fo_some hz)
theorem fq_X13_cover {K : Nat} {z0 : ow_MS}   : ∀ (k L : Nat) (x1 : Int32) (x2 : Int32) (z : ow_MS), fr (pf [1, 58, 59, 60, 61, 62, 63, 64, 65, 66, 67, 68, 69, 70, 71, 72] []) z0 z → Fo Prod.snd (pf [1, 58, 59, 60, 61, 62, 63, 64, 65, 66, 67, 68, 69, 70, 71, 72] []) z0 (q_X13_cover K k L x1 x2 z)
  | 0 => by
    intros
    exact fo_none
  | k + 1 => by
    intro L x1 x2 z hz 
    show Fo Prod.snd (pf [1, 58, 59, 60, 61, 62, 63, 64, 65, 66, 67, 68, 69, 70, 71, 72] []) z0 (qb_X13_cover K (q_X13_cover K k) L x1 x2 z)
    unfold qb_X13_cover
    split
    · exact fb_X13_cover_0 (fq_X13_cover k) hz 
    · exact fb_X13_cover_1 (fq_X13_cover k) hz 
    · exact fo_none
theorem ff_X13_cover {K : Nat} {x1 : Int32} {x2 : Int32} {z : ow_MS}  : Fo Prod.snd (pf [1, 58, 59, 60, 61, 62, 63, 64, 65, 66, 67, 68, 69, 70, 71, 72] []) z (qe_X13_cover K x1 x2 z) := fq_X13_cover K 0 _ _ z fr_rf 
theorem fb_X13_colours_0 {K : Nat} {z0 z : ow_MS}  {go : Nat → Int32 → Int32 → Int32 → Int64 → ow_MS → Option (Int64 × ow_MS)} {x1 : Int32} {x2 : Int32} {x5 : Int32} {w3 : Int64}  (hgo : ∀ (L : Nat) (x1 : Int32) (x2 : Int32) (x5 : Int32) (w3 : Int64) (z : ow_MS), fr (pf [1, 58, 59, 60, 61, 62, 63, 64, 65, 66, 67, 68, 69, 70, 71, 72] []) z0 z → Fo Prod.snd (pf [1, 58, 59, 60, 61, 62, 63, 64, 65, 66, 67, 68, 69, 70, 71, 72] []) z0 (go L x1 x2 x5 w3 z)) (hz : fr (pf [1, 58, 59, 60, 61, 62, 63, 64, 65, 66, 67, 68, 69, 70, 71, 72] []) z0 z)  : Fo Prod.snd (pf [1, 58, 59, 60, 61, 62, 63, 64, 65, 66, 67, 68, 69, 70, 71, 72] []) z0 (qm_X13_colours_0 K go x1 x2 x5 w3 z) := by
  unfold qm_X13_colours_0
  exact (fo_wrF (Or.inl (by decide)) hz (fun z1 h_z1 => (fo_cs1 (ff_X13_has) (pf_sub (by decide) pf_0) h_z1 (fun v3 z2 h_z2 => (fo_if (fo_cs1 (ff_X13_fails) (pf_sub (by decide) pf_0) h_z2 (fun v6 z5 h_z5 => (fo_some h_z5))) (fo_if (hgo 1 _ _ _ _ z2 h_z2) (fo_if (fo_cs0 (ff_X13_coverOf) (pf_sub (by decide) pf_0) h_z2 (fun z4 h_z4 => (hgo 2 _ _ _ _ z4 h_z4))) (hgo 1 _ _ _ _ z2 h_z2))))))))
theorem fb_X13_colours_1 {K : Nat} {z0 z : ow_MS}  {go : Nat → Int32 → Int32 → Int32 → Int64 → ow_MS → Option (Int64 × ow_MS)} {x1 : Int32} {x2 : Int32} {x5 : Int32} {w3 : Int64}  (hgo : ∀ (L : Nat) (x1 : Int32) (x2 : Int32) (x5 : Int32) (w3 : Int64) (z : ow_MS), fr (pf [1, 58, 59, 60, 61, 62, 63, 64, 65, 66, 67, 68, 69, 70, 71, 72] []) z0 z → Fo Prod.snd (pf [1, 58, 59, 60, 61, 62, 63, 64, 65, 66, 67, 68, 69, 70, 71, 72] []) z0 (go L x1 x2 x5 w3 z)) (hz : fr (pf [1, 58, 59, 60, 61, 62, 63, 64, 65, 66, 67, 68, 69, 70, 71, 72] []) z0 z)  : Fo Prod.snd (pf [1, 58, 59, 60, 61, 62, 63, 64, 65, 66, 67, 68, 69, 70, 71, 72] []) z0 (qm_X13_colours_1 K go x1 x2 x5 w3 z) := by
  unfold qm_X13_colours_1
  exact (fo_cs1 (ff_X13_fails) (pf_sub (by decide) pf_0) hz (fun v8 z7 h_z7 => (fo_some h_z7)))
theorem fb_X13_colours_2 {K : Nat} {z0 z : ow_MS}  {go : Nat → Int32 → Int32 → Int32 → Int64 → ow_MS → Option (Int64 × ow_MS)} {x1 : Int32} {x2 : Int32} {x5 : Int32} {w3 : Int64}  (hgo : ∀ (L : Nat) (x1 : Int32) (x2 : Int32) (x5 : Int32) (w3 : Int64) (z : ow_MS), fr (pf [1, 58, 59, 60, 61, 62, 63, 64, 65, 66, 67, 68, 69, 70, 71, 72] []) z0 z → Fo Prod.snd (pf [1, 58, 59, 60, 61, 62, 63, 64, 65, 66, 67, 68, 69, 70, 71, 72] []) z0 (go L x1 x2 x5 w3 z)) (hz : fr (pf [1, 58, 59, 60, 61, 62, 63, 64, 65, 66, 67, 68, 69, 70, 71, 72] []) z0 z)  : Fo Prod.snd (pf [1, 58, 59, 60, 61, 62, 63, 64, 65, 66, 67, 68, 69, 70, 71, 72] []) z0 (qm_X13_colours_2 K go x1 x2 x5 w3 z) := by
  unfold qm_X13_colours_2
  exact (fo_rdF (fun v9 => (fo_if (fo_some hz) (fo_rdJ (fun v10 => (fo_cs1 (ff_X13_gcd) (pf_sub (by decide) pf_0) hz (fun v12 z11 h_z11 => (hgo 2 _ _ _ _ z11 h_z11))))))))
theorem fq_X13_colours {K : Nat} {z0 : ow_MS}   : ∀ (k L : Nat) (x1 : Int32) (x2 : Int32) (x5 : Int32) (w3 : Int64) (z : ow_MS), fr (pf [1, 58, 59, 60, 61, 62, 63, 64, 65, 66, 67, 68, 69, 70, 71, 72] []) z0 z → Fo Prod.snd (pf [1, 58, 59, 60, 61, 62, 63, 64, 65, 66, 67, 68, 69, 70, 71, 72] []) z0 (q_X13_colours K k L x1 x2 x5 w3 z)
  | 0 => by
    intros
    exact fo_none
  | k + 1 => by
    intro L x1 x2 x5 w3 z hz 
    show Fo Prod.snd (pf [1, 58, 59, 60, 61, 62, 63, 64, 65, 66, 67, 68, 69, 70, 71, 72] []) z0 (qb_X13_colours K (q_X13_colours K k) L x1 x2 x5 w3 z)
    unfold qb_X13_colours
    split
    · exact fb_X13_colours_0 (fq_X13_colours k) hz 
    · exact fb_X13_colours_1 (fq_X13_colours k) hz 
    · exact fb_X13_colours_2 (fq_X13_colours k) hz 
    · exact fo_none
theorem ff_X13_colours {K : Nat} {x1 : Int32} {x2 : Int32} {z : ow_MS}  : Fo Prod.snd (pf [1, 58, 59, 60, 61, 62, 63, 64, 65, 66, 67, 68, 69, 70, 71, 72] []) z (qe_X13_colours K x1 x2 z) := fq_X13_colours K 0 _ _ _ _ z fr_rf 
theorem ff_X13_give {K : Nat} {x1 : Int32} {x2 : Int32} {z : ow_MS}  : Fo id (pf [77, 78, 79] []) z (qe_X13_give K x1 x2 z) := by
  unfold qe_X13_give qm_X13_give_0
  exact (fo_wrI (Or.inl (by decide)) fr_rf (fun z1 h_z1 => (fo_rdF (fun v2 => (fo_wrI (Or.inl (by decide)) h_z1 (fun z3 h_z3 => (fo_rdF (fun v4 => (fo_wrF (Or.inl (by decide)) h_z3 (fun z5 h_z5 => (fo_some h_z5)))))))))))
theorem fb_X13_follows_0 {K : Nat} {z0 z : ow_MS}  {go : Nat → Int32 → Int32 → Int32 → Int32 → Int32 → Int32 → Nat → Nat → Nat → Nat → ow_MS → Option (Int32 × ow_MS)} {x2 : Int32} {x3 : Int32} {x4 : Int32} {x5 : Int32} {x8 : Int32} {x9 : Int32} {r1 : Nat} {r6 : Nat} {r7 : Nat} {g0 : Nat}  (hgo : ∀ (L : Nat) (x2 : Int32) (x3 : Int32) (x4 : Int32) (x5 : Int32) (x8 : Int32) (x9 : Int32) (r1 : Nat) (r6 : Nat) (r7 : Nat) (g0 : Nat) (z : ow_MS), fr (pf [77, 78, 79] []) z0 z → (L = 0 ∨ L = 1 ∨ L = 2 ∨ L = 3 ∨ L = 4 ∨ L = 5 ∨ L = 6 ∨ L = 7 → 1000 ≤ r1) → Fo Prod.snd (pf [77, 78, 79] []) z0 (go L x2 x3 x4 x5 x8 x9 r1 r6 r7 g0 z)) (hz : fr (pf [77, 78, 79] []) z0 z) (hr1 : 1000 ≤ r1) : Fo Prod.snd (pf [77, 78, 79] []) z0 (qm_X13_follows_0 K go x2 x3 x4 x5 x8 x9 r1 r6 r7 g0 z) := by
  unfold qm_X13_follows_0
  exact (hgo 1 _ _ _ _ _ _ _ _ _ _ z hz (fun _ => (by first | omega | decide)))
theorem fb_X13_follows_1 {K : Nat} {z0 z : ow_MS}  {go : Nat → Int32 → Int32 → Int32 → Int32 → Int32 → Int32 → Nat → Nat → Nat → Nat → ow_MS → Option (Int32 × ow_MS)} {x2 : Int32} {x3 : Int32} {x4 : Int32} {x5 : Int32} {x8 : Int32} {x9 : Int32} {r1 : Nat} {r6 : Nat} {r7 : Nat} {g0 : Nat}  (hgo : ∀ (L : Nat) (x2 : Int32) (x3 : Int32) (x4 : Int32) (x5 : Int32) (x8 : Int32) (x9 : Int32) (r1 : Nat) (r6 : Nat) (r7 : Nat) (g0 : Nat) (z : ow_MS), fr (pf [77, 78, 79] []) z0 z → (L = 0 ∨ L = 1 ∨ L = 2 ∨ L = 3 ∨ L = 4 ∨ L = 5 ∨ L = 6 ∨ L = 7 → 1000 ≤ r1) → Fo Prod.snd (pf [77, 78, 79] []) z0 (go L x2 x3 x4 x5 x8 x9 r1 r6 r7 g0 z)) (hz : fr (pf [77, 78, 79] []) z0 z) (hr1 : 1000 ≤ r1) : Fo Prod.snd (pf [77, 78, 79] []) z0 (qm_X13_follows_1 K go x2 x3 x4 x5 x8 x9 r1 r6 r7 g0 z) := by
  unfold qm_X13_follows_1
  exact (fo_if (fo_okZ (fo_some hz)) (hgo 2 _ _ _ _ _ _ _ _ _ _ z hz (fun _ => (by first | omega | decide))))
theorem fb_X13_follows_2 {K : Nat} {z0 z : ow_MS}  {go : Nat → Int32 → Int32 → Int32 → Int32 → Int32 → Int32 → Nat → Nat → Nat → Nat → ow_MS → Option (Int32 × ow_MS)} {x2 : Int32} {x3 : Int32} {x4 : Int32} {x5 : Int32} {x8 : Int32} {x9 : Int32} {r1 : Nat} {r6 : Nat} {r7 : Nat} {g0 : Nat}  (hgo : ∀ (L : Nat) (x2 : Int32) (x3 : Int32) (x4 : Int32) (x5 : Int32) (x8 : Int32) (x9 : Int32) (r1 : Nat) (r6 : Nat) (r7 : Nat) (g0 : Nat) (z : ow_MS), fr (pf [77, 78, 79] []) z0 z → (L = 0 ∨ L = 1 ∨ L = 2 ∨ L = 3 ∨ L = 4 ∨ L = 5 ∨ L = 6 ∨ L = 7 → 1000 ≤ r1) → Fo Prod.snd (pf [77, 78, 79] []) z0 (go L x2 x3 x4 x5 x8 x9 r1 r6 r7 g0 z)) (hz : fr (pf [77, 78, 79] []) z0 z) (hr1 : 1000 ≤ r1) : Fo Prod.snd (pf [77, 78, 79] []) z0 (qm_X13_follows_2 K go x2 x3 x4 x5 x8 x9 r1 r6 r7 g0 z) := by
  unfold qm_X13_follows_2
  exact (fo_rdF (fun v1 => (fo_nzI (fo_if (hgo 1 _ _ _ _ _ _ _ _ _ _ z hz (fun _ => (by first | omega | decide))) (fo_rdI (fun v2 => (fo_rdI (fun v3 => (fo_rdI (fun v4 => (fo_if (hgo 7 _ _ _ _ _ _ _ _ _ _ z hz (fun _ => (by first | omega | decide))) (fo_if (hgo 7 _ _ _ _ _ _ _ _ _ _ z hz (fun _ => (by first | omega | decide))) (fo_rdI (fun v5 => (fo_if (hgo 3 _ _ _ _ _ _ _ _ _ _ z hz (fun _ => (by first | omega | decide))) (hgo 3 _ _ _ _ _ _ _ _ _ _ z hz (fun _ => (by first | omega | decide))))))))))))))))))
theorem fb_X13_follows_3 {K : Nat} {z0 z : ow_MS}  {go : Nat → Int32 → Int32 → Int32 → Int32 → Int32 → Int32 → Nat → Nat → Nat → Nat → ow_MS → Option (Int32 × ow_MS)} {x2 : Int32} {x3 : Int32} {x4 : Int32} {x5 : Int32} {x8 : Int32} {x9 : Int32} {r1 : Nat} {r6 : Nat} {r7 : Nat} {g0 : Nat}  (hgo : ∀ (L : Nat) (x2 : Int32) (x3 : Int32) (x4 : Int32) (x5 : Int32) (x8 : Int32) (x9 : Int32) (r1 : Nat) (r6 : Nat) (r7 : Nat) (g0 : Nat) (z : ow_MS), fr (pf [77, 78, 79] []) z0 z → (L = 0 ∨ L = 1 ∨ L = 2 ∨ L = 3 ∨ L = 4 ∨ L = 5 ∨ L = 6 ∨ L = 7 → 1000 ≤ r1) → Fo Prod.snd (pf [77, 78, 79] []) z0 (go L x2 x3 x4 x5 x8 x9 r1 r6 r7 g0 z)) (hz : fr (pf [77, 78, 79] []) z0 z) (hr1 : 1000 ≤ r1) : Fo Prod.snd (pf [77, 78, 79] []) z0 (qm_X13_follows_3 K go x2 x3 x4 x5 x8 x9 r1 r6 r7 g0 z) := by
  unfold qm_X13_follows_3
  exact (fo_rdI (fun v6 => (fo_if (hgo 4 _ _ _ _ _ _ _ _ _ _ z hz (fun _ => (by first | omega | decide))) (hgo 4 _ _ _ _ _ _ _ _ _ _ z hz (fun _ => (by first | omega | decide))))))
theorem fb_X13_follows_4 {K : Nat} {z0 z : ow_MS}  {go : Nat → Int32 → Int32 → Int32 → Int32 → Int32 → Int32 → Nat → Nat → Nat → Nat → ow_MS → Option (Int32 × ow_MS)} {x2 : Int32} {x3 : Int32} {x4 : Int32} {x5 : Int32} {x8 : Int32} {x9 : Int32} {r1 : Nat} {r6 : Nat} {r7 : Nat} {g0 : Nat}  (hgo : ∀ (L : Nat) (x2 : Int32) (x3 : Int32) (x4 : Int32) (x5 : Int32) (x8 : Int32) (x9 : Int32) (r1 : Nat) (r6 : Nat) (r7 : Nat) (g0 : Nat) (z : ow_MS), fr (pf [77, 78, 79] []) z0 z → (L = 0 ∨ L = 1 ∨ L = 2 ∨ L = 3 ∨ L = 4 ∨ L = 5 ∨ L = 6 ∨ L = 7 → 1000 ≤ r1) → Fo Prod.snd (pf [77, 78, 79] []) z0 (go L x2 x3 x4 x5 x8 x9 r1 r6 r7 g0 z)) (hz : fr (pf [77, 78, 79] []) z0 z) (hr1 : 1000 ≤ r1) : Fo Prod.snd (pf [77, 78, 79] []) z0 (qm_X13_follows_4 K go x2 x3 x4 x5 x8 x9 r1 r6 r7 g0 z) := by
  unfold qm_X13_follows_4
  exact (fo_rdI (fun v7 => (fo_rdI (fun v8 => (fo_rdI (fun v9 => (fo_rdI (fun v10 => (fo_if (hgo 5 _ _ _ _ _ _ _ _ _ _ z hz (fun _ => (by first | omega | decide))) (fo_if (hgo 5 _ _ _ _ _ _ _ _ _ _ z hz (fun _ => (by first | omega | decide))) (fo_rdI (fun v11 => (fo_if (hgo 5 _ _ _ _ _ _ _ _ _ _ z hz (fun _ => (by first | omega | decide))) (fo_okZ (fo_some hz)))))))))))))))
theorem fb_X13_follows_5 {K : Nat} {z0 z : ow_MS}  {go : Nat → Int32 → Int32 → Int32 → Int32 → Int32 → Int32 → Nat → Nat → Nat → Nat → ow_MS → Option (Int32 × ow_MS)} {x2 : Int32} {x3 : Int32} {x4 : Int32} {x5 : Int32} {x8 : Int32} {x9 : Int32} {r1 : Nat} {r6 : Nat} {r7 : Nat} {g0 : Nat}  (hgo : ∀ (L : Nat) (x2 : Int32) (x3 : Int32) (x4 : Int32) (x5 : Int32) (x8 : Int32) (x9 : Int32) (r1 : Nat) (r6 : Nat) (r7 : Nat) (g0 : Nat) (z : ow_MS), fr (pf [77, 78, 79] []) z0 z → (L = 0 ∨ L = 1 ∨ L = 2 ∨ L = 3 ∨ L = 4 ∨ L = 5 ∨ L = 6 ∨ L = 7 → 1000 ≤ r1) → Fo Prod.snd (pf [77, 78, 79] []) z0 (go L x2 x3 x4 x5 x8 x9 r1 r6 r7 g0 z)) (hz : fr (pf [77, 78, 79] []) z0 z) (hr1 : 1000 ≤ r1) : Fo Prod.snd (pf [77, 78, 79] []) z0 (qm_X13_follows_5 K go x2 x3 x4 x5 x8 x9 r1 r6 r7 g0 z) := by
  unfold qm_X13_follows_5
  exact (fo_if (hgo 6 _ _ _ _ _ _ _ _ _ _ z hz (fun _ => (by first | omega | decide))) (fo_if (fo_rdI (fun v12 => (fo_rdI (fun v13 => (fo_cs0 (ff_X13_give) (pf_sub (by decide) pf_0) hz (fun z14 h_z14 => (hgo 7 _ _ _ _ _ _ _ _ _ _ z14 h_z14 (fun _ => (by first | omega | decide))))))))) (hgo 6 _ _ _ _ _ _ _ _ _ _ z hz (fun _ => (by first | omega | decide)))))
theorem fb_X13_follows_6 {K : Nat} {z0 z : ow_MS}  {go : Nat → Int32 → Int32 → Int32 → Int32 → Int32 → Int32 → Nat → Nat → Nat → Nat → ow_MS → Option (Int32 × ow_MS)} {x2 : Int32} {x3 : Int32} {x4 : Int32} {x5 : Int32} {x8 : Int32} {x9 : Int32} {r1 : Nat} {r6 : Nat} {r7 : Nat} {g0 : Nat}  (hgo : ∀ (L : Nat) (x2 : Int32) (x3 : Int32) (x4 : Int32) (x5 : Int32) (x8 : Int32) (x9 : Int32) (r1 : Nat) (r6 : Nat) (r7 : Nat) (g0 : Nat) (z : ow_MS), fr (pf [77, 78, 79] []) z0 z → (L = 0 ∨ L = 1 ∨ L = 2 ∨ L = 3 ∨ L = 4 ∨ L = 5 ∨ L = 6 ∨ L = 7 → 1000 ≤ r1) → Fo Prod.snd (pf [77, 78, 79] []) z0 (go L x2 x3 x4 x5 x8 x9 r1 r6 r7 g0 z)) (hz : fr (pf [77, 78, 79] []) z0 z) (hr1 : 1000 ≤ r1) : Fo Prod.snd (pf [77, 78, 79] []) z0 (qm_X13_follows_6 K go x2 x3 x4 x5 x8 x9 r1 r6 r7 g0 z) := by
  unfold qm_X13_follows_6
  exact (fo_if (fo_if (hgo 7 _ _ _ _ _ _ _ _ _ _ z hz (fun _ => (by first | omega | decide))) (fo_rdI (fun v15 => (fo_rdI (fun v16 => (fo_cs0 (ff_X13_give) (pf_sub (by decide) pf_0) hz (fun z17 h_z17 => (hgo 7 _ _ _ _ _ _ _ _ _ _ z17 h_z17 (fun _ => (by first | omega | decide)))))))))) (hgo 7 _ _ _ _ _ _ _ _ _ _ z hz (fun _ => (by first | omega | decide))))
theorem fb_X13_follows_7 {K : Nat} {z0 z : ow_MS}  {go : Nat → Int32 → Int32 → Int32 → Int32 → Int32 → Int32 → Nat → Nat → Nat → Nat → ow_MS → Option (Int32 × ow_MS)} {x2 : Int32} {x3 : Int32} {x4 : Int32} {x5 : Int32} {x8 : Int32} {x9 : Int32} {r1 : Nat} {r6 : Nat} {r7 : Nat} {g0 : Nat}  (hgo : ∀ (L : Nat) (x2 : Int32) (x3 : Int32) (x4 : Int32) (x5 : Int32) (x8 : Int32) (x9 : Int32) (r1 : Nat) (r6 : Nat) (r7 : Nat) (g0 : Nat) (z : ow_MS), fr (pf [77, 78, 79] []) z0 z → (L = 0 ∨ L = 1 ∨ L = 2 ∨ L = 3 ∨ L = 4 ∨ L = 5 ∨ L = 6 ∨ L = 7 → 1000 ≤ r1) → Fo Prod.snd (pf [77, 78, 79] []) z0 (go L x2 x3 x4 x5 x8 x9 r1 r6 r7 g0 z)) (hz : fr (pf [77, 78, 79] []) z0 z) (hr1 : 1000 ≤ r1) : Fo Prod.snd (pf [77, 78, 79] []) z0 (qm_X13_follows_7 K go x2 x3 x4 x5 x8 x9 r1 r6 r7 g0 z) := by
  unfold qm_X13_follows_7
  exact (hgo 2 _ _ _ _ _ _ _ _ _ _ z hz (fun _ => (by first | omega | decide)))
theorem fq_X13_follows {K : Nat} {z0 : ow_MS}   : ∀ (k L : Nat) (x2 : Int32) (x3 : Int32) (x4 : Int32) (x5 : Int32) (x8 : Int32) (x9 : Int32) (r1 : Nat) (r6 : Nat) (r7 : Nat) (g0 : Nat) (z : ow_MS), fr (pf [77, 78, 79] []) z0 z → (L = 0 ∨ L = 1 ∨ L = 2 ∨ L = 3 ∨ L = 4 ∨ L = 5 ∨ L = 6 ∨ L = 7 → 1000 ≤ r1) → Fo Prod.snd (pf [77, 78, 79] []) z0 (q_X13_follows K k L x2 x3 x4 x5 x8 x9 r1 r6 r7 g0 z)
  | 0 => by
    intros
    exact fo_none
  | k + 1 => by
    intro L x2 x3 x4 x5 x8 x9 r1 r6 r7 g0 z hz h9_r1
    show Fo Prod.snd (pf [77, 78, 79] []) z0 (qb_X13_follows K (q_X13_follows K k) L x2 x3 x4 x5 x8 x9 r1 r6 r7 g0 z)
    unfold qb_X13_follows
    split
    · exact fb_X13_follows_0 (fq_X13_follows k) hz (h9_r1 (by decide))
    · exact fb_X13_follows_1 (fq_X13_follows k) hz (h9_r1 (by decide))
    · exact fb_X13_follows_2 (fq_X13_follows k) hz (h9_r1 (by decide))
    · exact fb_X13_follows_3 (fq_X13_follows k) hz (h9_r1 (by decide))
    · exact fb_X13_follows_4 (fq_X13_follows k) hz (h9_r1 (by decide))
    · exact fb_X13_follows_5 (fq_X13_follows k) hz (h9_r1 (by decide))
    · exact fb_X13_follows_6 (fq_X13_follows k) hz (h9_r1 (by decide))
    · exact fb_X13_follows_7 (fq_X13_follows k) hz (h9_r1 (by decide))
    · exact fo_none
theorem ff_X13_follows {K : Nat} {r1 : Nat} {x2 : Int32} {z : ow_MS} (hr1 : 1000 ≤ r1) : Fo Prod.snd (pf [77, 78, 79] []) z (qe_X13_follows K r1 x2 z) := fq_X13_follows K 0 _ _ _ _ _ _ _ _ _ _ z fr_rf (fun _ => (by first | omega | decide))
theorem fb_X13_takeBack_0 {K : Nat} {z0 z : ow_MS}  {go : Nat → Int32 → ow_MS → Option ow_MS} {x1 : Int32}  (hgo : ∀ (L : Nat) (x1 : Int32) (z : ow_MS), fr (pf [77, 79] []) z0 z → Fo id (pf [77, 79] []) z0 (go L x1 z)) (hz : fr (pf [77, 79] []) z0 z)  : Fo id (pf [77, 79] []) z0 (qm_X13_takeBack_0 K go x1 z) := by
  unfold qm_X13_takeBack_0
  exact (fo_rdF (fun v1 => (fo_if (fo_some hz) (fo_rdF (fun v2 => (fo_wrF (Or.inl (by decide)) hz (fun z3 h_z3 => (fo_rdF (fun v4 => (fo_rdI (fun v5 => (fo_wrI (Or.inl (by decide)) h_z3 (fun z6 h_z6 => (hgo 0 _ z6 h_z6))))))))))))))
theorem fq_X13_takeBack {K : Nat} {z0 : ow_MS}   : ∀ (k L : Nat) (x1 : Int32) (z : ow_MS), fr (pf [77, 79] []) z0 z → Fo id (pf [77, 79] []) z0 (q_X13_takeBack K k L x1 z)
  | 0 => by
    intros
    exact fo_none
  | k + 1 => by
    intro L x1 z hz 
    show Fo id (pf [77, 79] []) z0 (qb_X13_takeBack K (q_X13_takeBack K k) L x1 z)
    unfold qb_X13_takeBack
    split
    · exact fb_X13_takeBack_0 (fq_X13_takeBack k) hz 
    · exact fo_none
theorem ff_X13_takeBack {K : Nat} {x1 : Int32} {z : ow_MS}  : Fo id (pf [77, 79] []) z (qe_X13_takeBack K x1 z) := fq_X13_takeBack K 0 _ z fr_rf 
theorem fb_X13_mapsOf_0 {K : Nat} {z0 z : ow_MS}  {self : Nat → Int32 → ow_MS → Option (Int32 × ow_MS)} {go : Nat → Int32 → Int32 → Int32 → Int32 → Int32 → Int32 → Nat → Int32 → ow_MS → Option (Int32 × ow_MS)} {x2 : Int32} {x3 : Int32} {x4 : Int32} {x5 : Int32} {x6 : Int32} {x7 : Int32} {r1 : Nat} {t0 : Int32} (hself : ∀ (a0 : Nat) (a1 : Int32) (z : ow_MS), fr (pf [77, 78, 79] []) z0 z → 1000 ≤ a0 → Fo Prod.snd (pf [77, 78, 79] []) z0 (self a0 a1 z)) (hgo : ∀ (L : Nat) (x2 : Int32) (x3 : Int32) (x4 : Int32) (x5 : Int32) (x6 : Int32) (x7 : Int32) (r1 : Nat) (t0 : Int32) (z : ow_MS), fr (pf [77, 78, 79] []) z0 z → (L = 0 ∨ L = 1 ∨ L = 2 ∨ L = 3 ∨ L = 4 ∨ L = 5 ∨ L = 6 → 1000 ≤ r1) → Fo Prod.snd (pf [77, 78, 79] []) z0 (go L x2 x3 x4 x5 x6 x7 r1 t0 z)) (hz : fr (pf [77, 78, 79] []) z0 z) (hr1 : 1000 ≤ r1) : Fo Prod.snd (pf [77, 78, 79] []) z0 (qm_X13_mapsOf_0 K self go x2 x3 x4 x5 x6 x7 r1 t0 z) := by
  unfold qm_X13_mapsOf_0
  exact (fo_rdF (fun v1 => (fo_cs1 (ff_X13_follows (by first | omega | decide)) (pf_sub (by decide) pf_0) hz (fun v3 z2 h_z2 => (fo_if (hgo 6 _ _ _ _ _ _ _ _ z2 h_z2 (fun _ => (by first | omega | decide))) (hgo 1 _ _ _ _ _ _ _ _ z2 h_z2 (fun _ => (by first | omega | decide))))))))
theorem fb_X13_mapsOf_1 {K : Nat} {z0 z : ow_MS}  {self : Nat → Int32 → ow_MS → Option (Int32 × ow_MS)} {go : Nat → Int32 → Int32 → Int32 → Int32 → Int32 → Int32 → Nat → Int32 → ow_MS → Option (Int32 × ow_MS)} {x2 : Int32} {x3 : Int32} {x4 : Int32} {x5 : Int32} {x6 : Int32} {x7 : Int32} {r1 : Nat} {t0 : Int32} (hself : ∀ (a0 : Nat) (a1 : Int32) (z : ow_MS), fr (pf [77, 78, 79] []) z0 z → 1000 ≤ a0 → Fo Prod.snd (pf [77, 78, 79] []) z0 (self a0 a1 z)) (hgo : ∀ (L : Nat) (x2 : Int32) (x3 : Int32) (x4 : Int32) (x5 : Int32) (x6 : Int32) (x7 : Int32) (r1 : Nat) (t0 : Int32) (z : ow_MS), fr (pf [77, 78, 79] []) z0 z → (L = 0 ∨ L = 1 ∨ L = 2 ∨ L = 3 ∨ L = 4 ∨ L = 5 ∨ L = 6 → 1000 ≤ r1) → Fo Prod.snd (pf [77, 78, 79] []) z0 (go L x2 x3 x4 x5 x6 x7 r1 t0 z)) (hz : fr (pf [77, 78, 79] []) z0 z) (hr1 : 1000 ≤ r1) : Fo Prod.snd (pf [77, 78, 79] []) z0 (qm_X13_mapsOf_1 K self go x2 x3 x4 x5 x6 x7 r1 t0 z) := by
  unfold qm_X13_mapsOf_1
  exact (fo_rdF (fun v4 => (fo_nzI (fo_if (hgo 4 _ _ _ _ _ _ _ _ z hz (fun _ => (by first | omega | decide))) (fo_if (fo_rdI (fun v5 => (fo_if (hgo 3 _ _ _ _ _ _ _ _ z hz (fun _ => (by first | omega | decide))) (fo_rdI (fun v6 => (fo_rdI (fun v7 => (fo_if (fo_rdI (fun v14 => (hgo 2 _ _ _ _ _ _ _ _ z hz (fun _ => (by first | omega | decide))))) (fo_rdI (fun v8 => (fo_rdI (fun v9 => (fo_if (fo_rdI (fun v13 => (hgo 2 _ _ _ _ _ _ _ _ z hz (fun _ => (by first | omega | decide))))) (fo_rdI (fun v10 => (fo_rdI (fun v11 => (fo_if (fo_rdI (fun v12 => (hgo 2 _ _ _ _ _ _ _ _ z hz (fun _ => (by first | omega | decide))))) (hgo 2 _ _ _ _ _ _ _ _ z hz (fun _ => (by first | omega | decide))))))))))))))))))))) (hgo 4 _ _ _ _ _ _ _ _ z hz (fun _ => (by first | omega | decide))))))))
theorem fb_X13_mapsOf_2 {K : Nat} {z0 z : ow_MS}  {self : Nat → Int32 → ow_MS → Option (Int32 × ow_MS)} {go : Nat → Int32 → Int32 → Int32 → Int32 → Int32 → Int32 → Nat → Int32 → ow_MS → Option (Int32 × ow_MS)} {x2 : Int32} {x3 : Int32} {x4 : Int32} {x5 : Int32} {x6 : Int32} {x7 : Int32} {r1 : Nat} {t0 : Int32} (hself : ∀ (a0 : Nat) (a1 : Int32) (z : ow_MS), fr (pf [77, 78, 79] []) z0 z → 1000 ≤ a0 → Fo Prod.snd (pf [77, 78, 79] []) z0 (self a0 a1 z)) (hgo : ∀ (L : Nat) (x2 : Int32) (x3 : Int32) (x4 : Int32) (x5 : Int32) (x6 : Int32) (x7 : Int32) (r1 : Nat) (t0 : Int32) (z : ow_MS), fr (pf [77, 78, 79] []) z0 z → (L = 0 ∨ L = 1 ∨ L = 2 ∨ L = 3 ∨ L = 4 ∨ L = 5 ∨ L = 6 → 1000 ≤ r1) → Fo Prod.snd (pf [77, 78, 79] []) z0 (go L x2 x3 x4 x5 x6 x7 r1 t0 z)) (hz : fr (pf [77, 78, 79] []) z0 z) (hr1 : 1000 ≤ r1) : Fo Prod.snd (pf [77, 78, 79] []) z0 (qm_X13_mapsOf_2 K self go x2 x3 x4 x5 x6 x7 r1 t0 z) := by
  unfold qm_X13_mapsOf_2
  exact (hgo 3 _ _ _ _ _ _ _ _ z hz (fun _ => (by first | omega | decide)))
theorem fb_X13_mapsOf_3 {K : Nat} {z0 z : ow_MS}  {self : Nat → Int32 → ow_MS → Option (Int32 × ow_MS)} {go : Nat → Int32 → Int32 → Int32 → Int32 → Int32 → Int32 → Nat → Int32 → ow_MS → Option (Int32 × ow_MS)} {x2 : Int32} {x3 : Int32} {x4 : Int32} {x5 : Int32} {x6 : Int32} {x7 : Int32} {r1 : Nat} {t0 : Int32} (hself : ∀ (a0 : Nat) (a1 : Int32) (z : ow_MS), fr (pf [77, 78, 79] []) z0 z → 1000 ≤ a0 → Fo Prod.snd (pf [77, 78, 79] []) z0 (self a0 a1 z)) (hgo : ∀ (L : Nat) (x2 : Int32) (x3 : Int32) (x4 : Int32) (x5 : Int32) (x6 : Int32) (x7 : Int32) (r1 : Nat) (t0 : Int32) (z : ow_MS), fr (pf [77, 78, 79] []) z0 z → (L = 0 ∨ L = 1 ∨ L = 2 ∨ L = 3 ∨ L = 4 ∨ L = 5 ∨ L = 6 → 1000 ≤ r1) → Fo Prod.snd (pf [77, 78, 79] []) z0 (go L x2 x3 x4 x5 x6 x7 r1 t0 z)) (hz : fr (pf [77, 78, 79] []) z0 z) (hr1 : 1000 ≤ r1) : Fo Prod.snd (pf [77, 78, 79] []) z0 (qm_X13_mapsOf_3 K self go x2 x3 x4 x5 x6 x7 r1 t0 z) := by
  unfold qm_X13_mapsOf_3
  exact (hgo 1 _ _ _ _ _ _ _ _ z hz (fun _ => (by first | omega | decide)))
theorem fb_X13_mapsOf_4 {K : Nat} {z0 z : ow_MS}  {self : Nat → Int32 → ow_MS → Option (Int32 × ow_MS)} {go : Nat → Int32 → Int32 → Int32 → Int32 → Int32 → Int32 → Nat → Int32 → ow_MS → Option (Int32 × ow_MS)} {x2 : Int32} {x3 : Int32} {x4 : Int32} {x5 : Int32} {x6 : Int32} {x7 : Int32} {r1 : Nat} {t0 : Int32} (hself : ∀ (a0 : Nat) (a1 : Int32) (z : ow_MS), fr (pf [77, 78, 79] []) z0 z → 1000 ≤ a0 → Fo Prod.snd (pf [77, 78, 79] []) z0 (self a0 a1 z)) (hgo : ∀ (L : Nat) (x2 : Int32) (x3 : Int32) (x4 : Int32) (x5 : Int32) (x6 : Int32) (x7 : Int32) (r1 : Nat) (t0 : Int32) (z : ow_MS), fr (pf [77, 78, 79] []) z0 z → (L = 0 ∨ L = 1 ∨ L = 2 ∨ L = 3 ∨ L = 4 ∨ L = 5 ∨ L = 6 → 1000 ≤ r1) → Fo Prod.snd (pf [77, 78, 79] []) z0 (go L x2 x3 x4 x5 x6 x7 r1 t0 z)) (hz : fr (pf [77, 78, 79] []) z0 z) (hr1 : 1000 ≤ r1) : Fo Prod.snd (pf [77, 78, 79] []) z0 (qm_X13_mapsOf_4 K self go x2 x3 x4 x5 x6 x7 r1 t0 z) := by
  unfold qm_X13_mapsOf_4
  exact (fo_if (hgo 6 _ _ _ _ _ _ _ _ z hz (fun _ => (by first | omega | decide))) (fo_rdF (fun v15 => (hgo 5 _ _ _ _ _ _ _ _ z hz (fun _ => (by first | omega | decide))))))
theorem fb_X13_mapsOf_5 {K : Nat} {z0 z : ow_MS}  {self : Nat → Int32 → ow_MS → Option (Int32 × ow_MS)} {go : Nat → Int32 → Int32 → Int32 → Int32 → Int32 → Int32 → Nat → Int32 → ow_MS → Option (Int32 × ow_MS)} {x2 : Int32} {x3 : Int32} {x4 : Int32} {x5 : Int32} {x6 : Int32} {x7 : Int32} {r1 : Nat} {t0 : Int32} (hself : ∀ (a0 : Nat) (a1 : Int32) (z : ow_MS), fr (pf [77, 78, 79] []) z0 z → 1000 ≤ a0 → Fo Prod.snd (pf [77, 78, 79] []) z0 (self a0 a1 z)) (hgo : ∀ (L : Nat) (x2 : Int32) (x3 : Int32) (x4 : Int32) (x5 : Int32) (x6 : Int32) (x7 : Int32) (r1 : Nat) (t0 : Int32) (z : ow_MS), fr (pf [77, 78, 79] []) z0 z → (L = 0 ∨ L = 1 ∨ L = 2 ∨ L = 3 ∨ L = 4 ∨ L = 5 ∨ L = 6 → 1000 ≤ r1) → Fo Prod.snd (pf [77, 78, 79] []) z0 (go L x2 x3 x4 x5 x6 x7 r1 t0 z)) (hz : fr (pf [77, 78, 79] []) z0 z) (hr1 : 1000 ≤ r1) : Fo Prod.snd (pf [77, 78, 79] []) z0 (qm_X13_mapsOf_5 K self go x2 x3 x4 x5 x6 x7 r1 t0 z) := by
  unfold qm_X13_mapsOf_5
  exact (fo_rdI (fun v16 => (fo_if (hgo 6 _ _ _ _ _ _ _ _ z hz (fun _ => (by first | omega | decide))) (fo_cs0 (ff_X13_give) (pf_sub (by decide) pf_0) hz (fun z17 h_z17 => (fo_ss1 (hself _ _ z17 h_z17 (by omega)) (fun v19 z18 h_z18 => (fo_cs0 (ff_X13_takeBack) (pf_sub (by decide) pf_0) h_z18 (fun z20 h_z20 => (hgo 5 _ _ _ _ _ _ _ _ z20 h_z20 (fun _ => (by first | omega | decide))))))))))))
theorem fb_X13_mapsOf_6 {K : Nat} {z0 z : ow_MS}  {self : Nat → Int32 → ow_MS → Option (Int32 × ow_MS)} {go : Nat → Int32 → Int32 → Int32 → Int32 → Int32 → Int32 → Nat → Int32 → ow_MS → Option (Int32 × ow_MS)} {x2 : Int32} {x3 : Int32} {x4 : Int32} {x5 : Int32} {x6 : Int32} {x7 : Int32} {r1 : Nat} {t0 : Int32} (hself : ∀ (a0 : Nat) (a1 : Int32) (z : ow_MS), fr (pf [77, 78, 79] []) z0 z → 1000 ≤ a0 → Fo Prod.snd (pf [77, 78, 79] []) z0 (self a0 a1 z)) (hgo : ∀ (L : Nat) (x2 : Int32) (x3 : Int32) (x4 : Int32) (x5 : Int32) (x6 : Int32) (x7 : Int32) (r1 : Nat) (t0 : Int32) (z : ow_MS), fr (pf [77, 78, 79] []) z0 z → (L = 0 ∨ L = 1 ∨ L = 2 ∨ L = 3 ∨ L = 4 ∨ L = 5 ∨ L = 6 → 1000 ≤ r1) → Fo Prod.snd (pf [77, 78, 79] []) z0 (go L x2 x3 x4 x5 x6 x7 r1 t0 z)) (hz : fr (pf [77, 78, 79] []) z0 z) (hr1 : 1000 ≤ r1) : Fo Prod.snd (pf [77, 78, 79] []) z0 (qm_X13_mapsOf_6 K self go x2 x3 x4 x5 x6 x7 r1 t0 z) := by
  unfold qm_X13_mapsOf_6
  exact (fo_cs0 (ff_X13_takeBack) (pf_sub (by decide) pf_0) hz (fun z21 h_z21 => (fo_some h_z21)))
theorem fq_X13_mapsOf {K : Nat} {z0 : ow_MS}  {self : Nat → Int32 → ow_MS → Option (Int32 × ow_MS)} (hself : ∀ (a0 : Nat) (a1 : Int32) (z : ow_MS), fr (pf [77, 78, 79] []) z0 z → 1000 ≤ a0 → Fo Prod.snd (pf [77, 78, 79] []) z0 (self a0 a1 z)) : ∀ (k L : Nat) (x2 : Int32) (x3 : Int32) (x4 : Int32) (x5 : Int32) (x6 : Int32) (x7 : Int32) (r1 : Nat) (t0 : Int32) (z : ow_MS), fr (pf [77, 78, 79] []) z0 z → (L = 0 ∨ L = 1 ∨ L = 2 ∨ L = 3 ∨ L = 4 ∨ L = 5 ∨ L = 6 → 1000 ≤ r1) → Fo Prod.snd (pf [77, 78, 79] []) z0 (q_X13_mapsOf K self k L x2 x3 x4 x5 x6 x7 r1 t0 z)
  | 0 => by
    intros
    exact fo_none
  | k + 1 => by
    intro L x2 x3 x4 x5 x6 x7 r1 t0 z hz h9_r1
    show Fo Prod.snd (pf [77, 78, 79] []) z0 (qb_X13_mapsOf K self (q_X13_mapsOf K self k) L x2 x3 x4 x5 x6 x7 r1 t0 z)
    unfold qb_X13_mapsOf
    split
    · exact fb_X13_mapsOf_0 hself (fq_X13_mapsOf hself k) hz (h9_r1 (by decide))
    · exact fb_X13_mapsOf_1 hself (fq_X13_mapsOf hself k) hz (h9_r1 (by decide))
    · exact fb_X13_mapsOf_2 hself (fq_X13_mapsOf hself k) hz (h9_r1 (by decide))
    · exact fb_X13_mapsOf_3 hself (fq_X13_mapsOf hself k) hz (h9_r1 (by decide))
    · exact fb_X13_mapsOf_4 hself (fq_X13_mapsOf hself k) hz (h9_r1 (by decide))
    · exact fb_X13_mapsOf_5 hself (fq_X13_mapsOf hself k) hz (h9_r1 (by decide))
    · exact fb_X13_mapsOf_6 hself (fq_X13_mapsOf hself k) hz (h9_r1 (by decide))
    · exact fo_none
theorem fd_X13_mapsOf {K : Nat} {z0 : ow_MS} : ∀ (d : Nat) (r1 : Nat) (x2 : Int32) (z : ow_MS), fr (pf [77, 78, 79] []) z0 z → 1000 ≤ r1 → Fo Prod.snd (pf [77, 78, 79] []) z0 (qd_X13_mapsOf K d r1 x2 z)
  | 0 => by
    intros
    exact fo_none
  | d + 1 => by
    intro r1 x2 z hz hr1
    exact fq_X13_mapsOf (fd_X13_mapsOf d) K 0 _ _ _ _ _ _ _ _ z hz (fun _ => (by first | omega | decide))
theorem ff_X13_mapsOf {K : Nat} {r1 : Nat} {x2 : Int32} {z : ow_MS} (hr1 : 1000 ≤ r1) : Fo Prod.snd (pf [77, 78, 79] []) z (qe_X13_mapsOf K r1 x2 z) := fd_X13_mapsOf 42 _ _ z fr_rf hr1
theorem fb_X13_maps_0 {K : Nat} {z0 z : ow_MS}  {go : Nat → Int32 → Int32 → Int32 → Int32 → Int32 → Int32 → Int32 → Int32 → ow_MS → Option (Int32 × ow_MS)} {x1 : Int32} {x2 : Int32} {x3 : Int32} {x4 : Int32} {x5 : Int32} {x6 : Int32} {t0 : Int32} {t1 : Int32}  (hgo : ∀ (L : Nat) (x1 : Int32) (x2 : Int32) (x3 : Int32) (x4 : Int32) (x5 : Int32) (x6 : Int32) (t0 : Int32) (t1 : Int32) (z : ow_MS), fr (pf [1, 58, 59, 60, 61, 62, 63, 77, 78, 79, 80] []) z0 z → Fo Prod.snd (pf [1, 58, 59, 60, 61, 62, 63, 77, 78, 79, 80] []) z0 (go L x1 x2 x3 x4 x5 x6 t0 t1 z)) (hz : fr (pf [1, 58, 59, 60, 61, 62, 63, 77, 78, 79, 80] []) z0 z)  : Fo Prod.snd (pf [1, 58, 59, 60, 61, 62, 63, 77, 78, 79, 80] []) z0 (qm_X13_maps_0 K go x1 x2 x3 x4 x5 x6 t0 t1 z) := by
  unfold qm_X13_maps_0
  exact (fo_wrF (Or.inl (by decide)) hz (fun z1 h_z1 => (fo_cs1 (ff_X13_has) (pf_sub (by decide) pf_0) h_z1 (fun v3 z2 h_z2 => (fo_if (fo_cs1 (ff_X13_fails) (pf_sub (by decide) pf_0) h_z2 (fun v10 z9 h_z9 => (fo_some h_z9))) (fo_if (hgo 1 _ _ _ _ _ _ _ _ z2 h_z2) (fo_if (fo_cs0 (ff_X13_open (by first | omega | decide)) (pf_sub (by decide) pf_0) h_z2 (fun z4 h_z4 => (fo_rdF (fun v5 => (fo_if (hgo 2 _ _ _ _ _ _ _ _ z4 h_z4) (fo_rdF (fun v6 => (fo_if (fo_cs0 (ff_X12_split (by first | omega | decide)) (pf_sub (by decide) pf_0) h_z4 (fun z7 h_z7 => (fo_cs0 (ff_X13_makeArcs (by first | omega | decide)) (pf_sub (by decide) pf_0) h_z7 (fun z8 h_z8 => (hgo 3 _ _ _ _ _ _ _ _ z8 h_z8))))) (hgo 2 _ _ _ _ _ _ _ _ z4 h_z4))))))))) (hgo 1 _ _ _ _ _ _ _ _ z2 h_z2))))))))
theorem fb_X13_maps_1 {K : Nat} {z0 z : ow_MS}  {go : Nat → Int32 → Int32 → Int32 → Int32 → Int32 → Int32 → Int32 → Int32 → ow_MS → Option (Int32 × ow_MS)} {x1 : Int32} {x2 : Int32} {x3 : Int32} {x4 : Int32} {x5 : Int32} {x6 : Int32} {t0 : Int32} {t1 : Int32}  (hgo : ∀ (L : Nat) (x1 : Int32) (x2 : Int32) (x3 : Int32) (x4 : Int32) (x5 : Int32) (x6 : Int32) (t0 : Int32) (t1 : Int32) (z : ow_MS), fr (pf [1, 58, 59, 60, 61, 62, 63, 77, 78, 79, 80] []) z0 z → Fo Prod.snd (pf [1, 58, 59, 60, 61, 62, 63, 77, 78, 79, 80] []) z0 (go L x1 x2 x3 x4 x5 x6 t0 t1 z)) (hz : fr (pf [1, 58, 59, 60, 61, 62, 63, 77, 78, 79, 80] []) z0 z)  : Fo Prod.snd (pf [1, 58, 59, 60, 61, 62, 63, 77, 78, 79, 80] []) z0 (qm_X13_maps_1 K go x1 x2 x3 x4 x5 x6 t0 t1 z) := by
  unfold qm_X13_maps_1
  exact (fo_cs1 (ff_X13_fails) (pf_sub (by decide) pf_0) hz (fun v12 z11 h_z11 => (fo_some h_z11)))
theorem fb_X13_maps_2 {K : Nat} {z0 z : ow_MS}  {go : Nat → Int32 → Int32 → Int32 → Int32 → Int32 → Int32 → Int32 → Int32 → ow_MS → Option (Int32 × ow_MS)} {x1 : Int32} {x2 : Int32} {x3 : Int32} {x4 : Int32} {x5 : Int32} {x6 : Int32} {t0 : Int32} {t1 : Int32}  (hgo : ∀ (L : Nat) (x1 : Int32) (x2 : Int32) (x3 : Int32) (x4 : Int32) (x5 : Int32) (x6 : Int32) (t0 : Int32) (t1 : Int32) (z : ow_MS), fr (pf [1, 58, 59, 60, 61, 62, 63, 77, 78, 79, 80] []) z0 z → Fo Prod.snd (pf [1, 58, 59, 60, 61, 62, 63, 77, 78, 79, 80] []) z0 (go L x1 x2 x3 x4 x5 x6 t0 t1 z)) (hz : fr (pf [1, 58, 59, 60, 61, 62, 63, 77, 78, 79, 80] []) z0 z)  : Fo Prod.snd (pf [1, 58, 59, 60, 61, 62, 63, 77, 78, 79, 80] []) z0 (qm_X13_maps_2 K go x1 x2 x3 x4 x5 x6 t0 t1 z) := by
  unfold qm_X13_maps_2
  exact (fo_cs1 (ff_X13_fails) (pf_sub (by decide) pf_0) hz (fun v14 z13 h_z13 => (fo_some h_z13)))
theorem fb_X13_maps_3 {K : Nat} {z0 z : ow_MS}  {go : Nat → Int32 → Int32 → Int32 → Int32 → Int32 → Int32 → Int32 → Int32 → ow_MS → Option (Int32 × ow_MS)} {x1 : Int32} {x2 : Int32} {x3 : Int32} {x4 : Int32} {x5 : Int32} {x6 : Int32} {t0 : Int32} {t1 : Int32}  (hgo : ∀ (L : Nat) (x1 : Int32) (x2 : Int32) (x3 : Int32) (x4 : Int32) (x5 : Int32) (x6 : Int32) (t0 : Int32) (t1 : Int32) (z : ow_MS), fr (pf [1, 58, 59, 60, 61, 62, 63, 77, 78, 79, 80] []) z0 z → Fo Prod.snd (pf [1, 58, 59, 60, 61, 62, 63, 77, 78, 79, 80] []) z0 (go L x1 x2 x3 x4 x5 x6 t0 t1 z)) (hz : fr (pf [1, 58, 59, 60, 61, 62, 63, 77, 78, 79, 80] []) z0 z)  : Fo Prod.snd (pf [1, 58, 59, 60, 61, 62, 63, 77, 78, 79, 80] []) z0 (qm_X13_maps_3 K go x1 x2 x3 x4 x5 x6 t0 t1 z) := by
  unfold qm_X13_maps_3
  exact (fo_rdF (fun v15 => (fo_if (fo_some hz) (hgo 4 _ _ _ _ _ _ _ _ z hz))))
theorem fb_X13_maps_4 {K : Nat} {z0 z : ow_MS}  {go : Nat → Int32 → Int32 → Int32 → Int32 → Int32 → Int32 → Int32 → Int32 → ow_MS → Option (Int32 × ow_MS)} {x1 : Int32} {x2 : Int32} {x3 : Int32} {x4 : Int32} {x5 : Int32} {x6 : Int32} {t0 : Int32} {t1 : Int32}  (hgo : ∀ (L : Nat) (x1 : Int32) (x2 : Int32) (x3 : Int32) (x4 : Int32) (x5 : Int32) (x6 : Int32) (t0 : Int32) (t1 : Int32) (z : ow_MS), fr (pf [1, 58, 59, 60, 61, 62, 63, 77, 78, 79, 80] []) z0 z → Fo Prod.snd (pf [1, 58, 59, 60, 61, 62, 63, 77, 78, 79, 80] []) z0 (go L x1 x2 x3 x4 x5 x6 t0 t1 z)) (hz : fr (pf [1, 58, 59, 60, 61, 62, 63, 77, 78, 79, 80] []) z0 z)  : Fo Prod.snd (pf [1, 58, 59, 60, 61, 62, 63, 77, 78, 79, 80] []) z0 (qm_X13_maps_4 K go x1 x2 x3 x4 x5 x6 t0 t1 z) := by
  unfold qm_X13_maps_4
  exact (fo_if (hgo 5 _ _ _ _ _ _ _ _ z hz) (fo_wrI (Or.inl (by decide)) hz (fun z16 h_z16 => (hgo 4 _ _ _ _ _ _ _ _ z16 h_z16))))
theorem fb_X13_maps_5 {K : Nat} {z0 z : ow_MS}  {go : Nat → Int32 → Int32 → Int32 → Int32 → Int32 → Int32 → Int32 → Int32 → ow_MS → Option (Int32 × ow_MS)} {x1 : Int32} {x2 : Int32} {x3 : Int32} {x4 : Int32} {x5 : Int32} {x6 : Int32} {t0 : Int32} {t1 : Int32}  (hgo : ∀ (L : Nat) (x1 : Int32) (x2 : Int32) (x3 : Int32) (x4 : Int32) (x5 : Int32) (x6 : Int32) (t0 : Int32) (t1 : Int32) (z : ow_MS), fr (pf [1, 58, 59, 60, 61, 62, 63, 77, 78, 79, 80] []) z0 z → Fo Prod.snd (pf [1, 58, 59, 60, 61, 62, 63, 77, 78, 79, 80] []) z0 (go L x1 x2 x3 x4 x5 x6 t0 t1 z)) (hz : fr (pf [1, 58, 59, 60, 61, 62, 63, 77, 78, 79, 80] []) z0 z)  : Fo Prod.snd (pf [1, 58, 59, 60, 61, 62, 63, 77, 78, 79, 80] []) z0 (qm_X13_maps_5 K go x1 x2 x3 x4 x5 x6 t0 t1 z) := by
  unfold qm_X13_maps_5
  exact (fo_rdF (fun v17 => (fo_if (fo_wrF (Or.inl (by decide)) hz (fun z18 h_z18 => (fo_if (fo_rdI (fun v19 => (hgo 7 _ _ _ _ _ _ _ _ z18 h_z18))) (fo_cs1 (ff_X13_mapsOf (by first | omega | decide)) (pf_sub (by decide) pf_0) h_z18 (fun v21 z20 h_z20 => (hgo 7 _ _ _ _ _ _ _ _ z20 h_z20)))))) (fo_rdI (fun v22 => (fo_rdI (fun v23 => (fo_if (hgo 6 _ _ _ _ _ _ _ _ z hz) (hgo 6 _ _ _ _ _ _ _ _ z hz)))))))))
theorem fb_X13_maps_6 {K : Nat} {z0 z : ow_MS}  {go : Nat → Int32 → Int32 → Int32 → Int32 → Int32 → Int32 → Int32 → Int32 → ow_MS → Option (Int32 × ow_MS)} {x1 : Int32} {x2 : Int32} {x3 : Int32} {x4 : Int32} {x5 : Int32} {x6 : Int32} {t0 : Int32} {t1 : Int32}  (hgo : ∀ (L : Nat) (x1 : Int32) (x2 : Int32) (x3 : Int32) (x4 : Int32) (x5 : Int32) (x6 : Int32) (t0 : Int32) (t1 : Int32) (z : ow_MS), fr (pf [1, 58, 59, 60, 61, 62, 63, 77, 78, 79, 80] []) z0 z → Fo Prod.snd (pf [1, 58, 59, 60, 61, 62, 63, 77, 78, 79, 80] []) z0 (go L x1 x2 x3 x4 x5 x6 t0 t1 z)) (hz : fr (pf [1, 58, 59, 60, 61, 62, 63, 77, 78, 79, 80] []) z0 z)  : Fo Prod.snd (pf [1, 58, 59, 60, 61, 62, 63, 77, 78, 79, 80] []) z0 (qm_X13_maps_6 K go x1 x2 x3 x4 x5 x6 t0 t1 z) := by
  unfold qm_X13_maps_6
  exact (fo_rdI (fun v24 => (fo_wrZ (Or.inl (by decide)) hz (fun z25 h_z25 => (hgo 5 _ _ _ _ _ _ _ _ z25 h_z25)))))
theorem fb_X13_maps_7 {K : Nat} {z0 z : ow_MS}  {go : Nat → Int32 → Int32 → Int32 → Int32 → Int32 → Int32 → Int32 → Int32 → ow_MS → Option (Int32 × ow_MS)} {x1 : Int32} {x2 : Int32} {x3 : Int32} {x4 : Int32} {x5 : Int32} {x6 : Int32} {t0 : Int32} {t1 : Int32}  (hgo : ∀ (L : Nat) (x1 : Int32) (x2 : Int32) (x3 : Int32) (x4 : Int32) (x5 : Int32) (x6 : Int32) (t0 : Int32) (t1 : Int32) (z : ow_MS), fr (pf [1, 58, 59, 60, 61, 62, 63, 77, 78, 79, 80] []) z0 z → Fo Prod.snd (pf [1, 58, 59, 60, 61, 62, 63, 77, 78, 79, 80] []) z0 (go L x1 x2 x3 x4 x5 x6 t0 t1 z)) (hz : fr (pf [1, 58, 59, 60, 61, 62, 63, 77, 78, 79, 80] []) z0 z)  : Fo Prod.snd (pf [1, 58, 59, 60, 61, 62, 63, 77, 78, 79, 80] []) z0 (qm_X13_maps_7 K go x1 x2 x3 x4 x5 x6 t0 t1 z) := by
  unfold qm_X13_maps_7
  exact (hgo 3 _ _ _ _ _ _ _ _ z hz)
theorem fq_X13_maps {K : Nat} {z0 : ow_MS}   : ∀ (k L : Nat) (x1 : Int32) (x2 : Int32) (x3 : Int32) (x4 : Int32) (x5 : Int32) (x6 : Int32) (t0 : Int32) (t1 : Int32) (z : ow_MS), fr (pf [1, 58, 59, 60, 61, 62, 63, 77, 78, 79, 80] []) z0 z → Fo Prod.snd (pf [1, 58, 59, 60, 61, 62, 63, 77, 78, 79, 80] []) z0 (q_X13_maps K k L x1 x2 x3 x4 x5 x6 t0 t1 z)
  | 0 => by
    intros
    exact fo_none
  | k + 1 => by
    intro L x1 x2 x3 x4 x5 x6 t0 t1 z hz 
    show Fo Prod.snd (pf [1, 58, 59, 60, 61, 62, 63, 77, 78, 79, 80] []) z0 (qb_X13_maps K (q_X13_maps K k) L x1 x2 x3 x4 x5 x6 t0 t1 z)
    unfold qb_X13_maps
    split
    · exact fb_X13_maps_0 (fq_X13_maps k) hz 
    · exact fb_X13_maps_1 (fq_X13_maps k) hz 
    · exact fb_X13_maps_2 (fq_X13_maps k) hz 
    · exact fb_X13_maps_3 (fq_X13_maps k) hz 
    · exact fb_X13_maps_4 (fq_X13_maps k) hz 
    · exact fb_X13_maps_5 (fq_X13_maps k) hz 
    · exact fb_X13_maps_6 (fq_X13_maps k) hz 
    · exact fb_X13_maps_7 (fq_X13_maps k) hz 
    · exact fo_none
theorem ff_X13_maps {K : Nat} {x1 : Int32} {x2 : Int32} {z : ow_MS}  : Fo Prod.snd (pf [1, 58, 59, 60, 61, 62, 63, 77, 78, 79, 80] []) z (qe_X13_maps K x1 x2 z) := fq_X13_maps K 0 _ _ _ _ _ _ _ _ z fr_rf 
end
section
/-! 99zzzzzzzzzzzzid.fo3 -/
/-! frames of the reference, on -/
theorem fb_X13_isPrime_0 {K : Nat} {z0 z : ow_MS}  {go : Nat → Int32 → Int32 → Int32 → Int32 → ow_MS → Option (Int32 × ow_MS)} {x0 : Int32} {x1 : Int32} {x2 : Int32} {t0 : Int32}  (hgo : ∀ (L : Nat) (x0 : Int32) (x1 : Int32) (x2 : Int32) (t0 : Int32) (z : ow_MS), fr (pf [] []) z0 z → Fo Prod.snd (pf [] []) z0 (go L x0 x1 x2 t0 z)) (hz : fr (pf [] []) z0 z)  : Fo Prod.snd (pf [] []) z0 (qm_X13_isPrime_0 K go x0 x1 x2 t0 z) := by
  unfold qm_X13_isPrime_0
  exact (fo_if (hgo 1 _ _ _ _ z hz) (fo_if (hgo 1 _ _ _ _ z hz) (hgo 2 _ _ _ _ z hz)))
theorem fb_X13_isPrime_1 {K : Nat} {z0 z : ow_MS}  {go : Nat → Int32 → Int32 → Int32 → Int32 → ow_MS → Option (Int32 × ow_MS)} {x0 : Int32} {x1 : Int32} {x2 : Int32} {t0 : Int32}  (hgo : ∀ (L : Nat) (x0 : Int32) (x1 : Int32) (x2 : Int32) (t0 : Int32) (z : ow_MS), fr (pf [] []) z0 z → Fo Prod.snd (pf [] []) z0 (go L x0 x1 x2 t0 z)) (hz : fr (pf [] []) z0 z)  : Fo Prod.snd (pf [] []) z0 (qm_X13_isPrime_1 K go x0 x1 x2 t0 z) := by
  unfold qm_X13_isPrime_1
  exact (hgo 2 _ _ _ _ z hz)
theorem fb_X13_isPrime_2 {K : Nat} {z0 z : ow_MS}  {go : Nat → Int32 → Int32 → Int32 → Int32 → ow_MS → Option (Int32 × ow_MS)} {x0 : Int32} {x1 : Int32} {x2 : Int32} {t0 : Int32}  (hgo : ∀ (L : Nat) (x0 : Int32) (x1 : Int32) (x2 : Int32) (t0 : Int32) (z : ow_MS), fr (pf [] []) z0 z → Fo Prod.snd (pf [] []) z0 (go L x0 x1 x2 t0 z)) (hz : fr (pf [] []) z0 z)  : Fo Prod.snd (pf [] []) z0 (qm_X13_isPrime_2 K go x0 x1 x2 t0 z) := by
  unfold qm_X13_isPrime_2
  exact (hgo 3 _ _ _ _ z hz)
theorem fb_X13_isPrime_3 {K : Nat} {z0 z : ow_MS}  {go : Nat → Int32 → Int32 → Int32 → Int32 → ow_MS → Option (Int32 × ow_MS)} {x0 : Int32} {x1 : Int32} {x2 : Int32} {t0 : Int32}  (hgo : ∀ (L : Nat) (x0 : Int32) (x1 : Int32) (x2 : Int32) (t0 : Int32) (z : ow_MS), fr (pf [] []) z0 z → Fo Prod.snd (pf [] []) z0 (go L x0 x1 x2 t0 z)) (hz : fr (pf [] []) z0 z)  : Fo Prod.snd (pf [] []) z0 (qm_X13_isPrime_3 K go x0 x1 x2 t0 z) := by
  unfold qm_X13_isPrime_3
  exact (fo_if (fo_okZ (fo_some hz)) (fo_if (fo_okZ (fo_some hz)) (fo_nzI (fo_if (hgo 4 _ _ _ _ z hz) (hgo 4 _ _ _ _ z hz)))))
theorem fb_X13_isPrime_4 {K : Nat} {z0 z : ow_MS}  {go : Nat → Int32 → Int32 → Int32 → Int32 → ow_MS → Option (Int32 × ow_MS)} {x0 : Int32} {x1 : Int32} {x2 : Int32} {t0 : Int32}  (hgo : ∀ (L : Nat) (x0 : Int32) (x1 : Int32) (x2 : Int32) (t0 : Int32) (z : ow_MS), fr (pf [] []) z0 z → Fo Prod.snd (pf [] []) z0 (go L x0 x1 x2 t0 z)) (hz : fr (pf [] []) z0 z)  : Fo Prod.snd (pf [] []) z0 (qm_X13_isPrime_4 K go x0 x1 x2 t0 z) := by
  unfold qm_X13_isPrime_4
  exact (hgo 3 _ _ _ _ z hz)
theorem fq_X13_isPrime {K : Nat} {z0 : ow_MS}   : ∀ (k L : Nat) (x0 : Int32) (x1 : Int32) (x2 : Int32) (t0 : Int32) (z : ow_MS), fr (pf [] []) z0 z → Fo Prod.snd (pf [] []) z0 (q_X13_isPrime K k L x0 x1 x2 t0 z)
  | 0 => by
    intros
    exact fo_none
  | k + 1 => by
    intro L x0 x1 x2 t0 z hz 
    show Fo Prod.snd (pf [] []) z0 (qb_X13_isPrime K (q_X13_isPrime K k) L x0 x1 x2 t0 z)
    unfold qb_X13_isPrime
    split
    · exact fb_X13_isPrime_0 (fq_X13_isPrime k) hz 
    · exact fb_X13_isPrime_1 (fq_X13_isPrime k) hz 
    · exact fb_X13_isPrime_2 (fq_X13_isPrime k) hz 
    · exact fb_X13_isPrime_3 (fq_X13_isPrime k) hz 
    · exact fb_X13_isPrime_4 (fq_X13_isPrime k) hz 
    · exact fo_none
theorem ff_X13_isPrime {K : Nat} {x0 : Int32} {z : ow_MS}  : Fo Prod.snd (pf [] []) z (qe_X13_isPrime K x0 z) := fq_X13_isPrime K 0 _ _ _ _ z fr_rf 
theorem fb_X13_makeStates_0 {K : Nat} {z0 z : ow_MS}  {go : Nat → Int32 → Int32 → Int32 → Int32 → Int32 → Int32 → Nat → ow_MS → Option ow_MS} {x2 : Int32} {x3 : Int32} {x4 : Int32} {x5 : Int32} {x6 : Int32} {x7 : Int32} {r1 : Nat}  (hgo : ∀ (L : Nat) (x2 : Int32) (x3 : Int32) (x4 : Int32) (x5 : Int32) (x6 : Int32) (x7 : Int32) (r1 : Nat) (z : ow_MS), fr (pf [47, 81, 82, 83] []) z0 z → (L = 0 ∨ L = 1 ∨ L = 2 ∨ L = 3 ∨ L = 4 → 1000 ≤ r1) → Fo id (pf [47, 81, 82, 83] []) z0 (go L x2 x3 x4 x5 x6 x7 r1 z)) (hz : fr (pf [47, 81, 82, 83] []) z0 z) (hr1 : 1000 ≤ r1) : Fo id (pf [47, 81, 82, 83] []) z0 (qm_X13_makeStates_0 K go x2 x3 x4 x5 x6 x7 r1 z) := by
  unfold qm_X13_makeStates_0
  exact (fo_cs1 (ff_X13_circlesOf (by first | omega | decide)) (pf_sub (by decide) pf_0) hz (fun v2 z1 h_z1 => (fo_rdF (fun v3 => (fo_nzI (hgo 1 _ _ _ _ _ _ _ z1 h_z1 (fun _ => (by first | omega | decide))))))))
theorem fb_X13_makeStates_1 {K : Nat} {z0 z : ow_MS}  {go : Nat → Int32 → Int32 → Int32 → Int32 → Int32 → Int32 → Nat → ow_MS → Option ow_MS} {x2 : Int32} {x3 : Int32} {x4 : Int32} {x5 : Int32} {x6 : Int32} {x7 : Int32} {r1 : Nat}  (hgo : ∀ (L : Nat) (x2 : Int32) (x3 : Int32) (x4 : Int32) (x5 : Int32) (x6 : Int32) (x7 : Int32) (r1 : Nat) (z : ow_MS), fr (pf [47, 81, 82, 83] []) z0 z → (L = 0 ∨ L = 1 ∨ L = 2 ∨ L = 3 ∨ L = 4 → 1000 ≤ r1) → Fo id (pf [47, 81, 82, 83] []) z0 (go L x2 x3 x4 x5 x6 x7 r1 z)) (hz : fr (pf [47, 81, 82, 83] []) z0 z) (hr1 : 1000 ≤ r1) : Fo id (pf [47, 81, 82, 83] []) z0 (qm_X13_makeStates_1 K go x2 x3 x4 x5 x6 x7 r1 z) := by
  unfold qm_X13_makeStates_1
  exact (fo_if (fo_wrI (Or.inl (by decide)) hz (fun z4 h_z4 => (fo_some h_z4))) (fo_cs0 (ff_X13_loops (by first | omega | decide)) (pf_sub (by decide) pf_0) hz (fun z5 h_z5 => (hgo 2 _ _ _ _ _ _ _ z5 h_z5 (fun _ => (by first | omega | decide))))))
theorem fb_X13_makeStates_2 {K : Nat} {z0 z : ow_MS}  {go : Nat → Int32 → Int32 → Int32 → Int32 → Int32 → Int32 → Nat → ow_MS → Option ow_MS} {x2 : Int32} {x3 : Int32} {x4 : Int32} {x5 : Int32} {x6 : Int32} {x7 : Int32} {r1 : Nat}  (hgo : ∀ (L : Nat) (x2 : Int32) (x3 : Int32) (x4 : Int32) (x5 : Int32) (x6 : Int32) (x7 : Int32) (r1 : Nat) (z : ow_MS), fr (pf [47, 81, 82, 83] []) z0 z → (L = 0 ∨ L = 1 ∨ L = 2 ∨ L = 3 ∨ L = 4 → 1000 ≤ r1) → Fo id (pf [47, 81, 82, 83] []) z0 (go L x2 x3 x4 x5 x6 x7 r1 z)) (hz : fr (pf [47, 81, 82, 83] []) z0 z) (hr1 : 1000 ≤ r1) : Fo id (pf [47, 81, 82, 83] []) z0 (qm_X13_makeStates_2 K go x2 x3 x4 x5 x6 x7 r1 z) := by
  unfold qm_X13_makeStates_2
  exact (fo_rdF (fun v6 => (fo_if (hgo 4 _ _ _ _ _ _ _ z hz (fun _ => (by first | omega | decide))) (fo_rdI (fun v7 => (fo_if (fo_wrB (Or.inl (by decide)) hz (fun z8 h_z8 => (hgo 3 _ _ _ _ _ _ _ z8 h_z8 (fun _ => (by first | omega | decide))))) (hgo 3 _ _ _ _ _ _ _ z hz (fun _ => (by first | omega | decide)))))))))
theorem fb_X13_makeStates_3 {K : Nat} {z0 z : ow_MS}  {go : Nat → Int32 → Int32 → Int32 → Int32 → Int32 → Int32 → Nat → ow_MS → Option ow_MS} {x2 : Int32} {x3 : Int32} {x4 : Int32} {x5 : Int32} {x6 : Int32} {x7 : Int32} {r1 : Nat}  (hgo : ∀ (L : Nat) (x2 : Int32) (x3 : Int32) (x4 : Int32) (x5 : Int32) (x6 : Int32) (x7 : Int32) (r1 : Nat) (z : ow_MS), fr (pf [47, 81, 82, 83] []) z0 z → (L = 0 ∨ L = 1 ∨ L = 2 ∨ L = 3 ∨ L = 4 → 1000 ≤ r1) → Fo id (pf [47, 81, 82, 83] []) z0 (go L x2 x3 x4 x5 x6 x7 r1 z)) (hz : fr (pf [47, 81, 82, 83] []) z0 z) (hr1 : 1000 ≤ r1) : Fo id (pf [47, 81, 82, 83] []) z0 (qm_X13_makeStates_3 K go x2 x3 x4 x5 x6 x7 r1 z) := by
  unfold qm_X13_makeStates_3
  exact (hgo 2 _ _ _ _ _ _ _ z hz (fun _ => (by first | omega | decide)))
theorem fb_X13_makeStates_4 {K : Nat} {z0 z : ow_MS}  {go : Nat → Int32 → Int32 → Int32 → Int32 → Int32 → Int32 → Nat → ow_MS → Option ow_MS} {x2 : Int32} {x3 : Int32} {x4 : Int32} {x5 : Int32} {x6 : Int32} {x7 : Int32} {r1 : Nat}  (hgo : ∀ (L : Nat) (x2 : Int32) (x3 : Int32) (x4 : Int32) (x5 : Int32) (x6 : Int32) (x7 : Int32) (r1 : Nat) (z : ow_MS), fr (pf [47, 81, 82, 83] []) z0 z → (L = 0 ∨ L = 1 ∨ L = 2 ∨ L = 3 ∨ L = 4 → 1000 ≤ r1) → Fo id (pf [47, 81, 82, 83] []) z0 (go L x2 x3 x4 x5 x6 x7 r1 z)) (hz : fr (pf [47, 81, 82, 83] []) z0 z) (hr1 : 1000 ≤ r1) : Fo id (pf [47, 81, 82, 83] []) z0 (qm_X13_makeStates_4 K go x2 x3 x4 x5 x6 x7 r1 z) := by
  unfold qm_X13_makeStates_4
  exact (fo_rdF (fun v9 => (fo_if (fo_wrI (Or.inl (by decide)) hz (fun z10 h_z10 => (fo_wrI (Or.inl (by decide)) h_z10 (fun z11 h_z11 => (hgo 1 _ _ _ _ _ _ _ z11 h_z11 (fun _ => (by first | omega | decide))))))) (fo_cs1 (ff_X13_root) (pf_sub (by decide) pf_0) hz (fun v13 z12 h_z12 => (fo_rdI (fun v14 => (fo_wrB (Or.inl (by decide)) h_z12 (fun z15 h_z15 => (hgo 4 _ _ _ _ _ _ _ z15 h_z15 (fun _ => (by first | omega | decide))))))))))))
theorem fq_X13_makeStates {K : Nat} {z0 : ow_MS}   : ∀ (k L : Nat) (x2 : Int32) (x3 : Int32) (x4 : Int32) (x5 : Int32) (x6 : Int32) (x7 : Int32) (r1 : Nat) (z : ow_MS), fr (pf [47, 81, 82, 83] []) z0 z → (L = 0 ∨ L = 1 ∨ L = 2 ∨ L = 3 ∨ L = 4 → 1000 ≤ r1) → Fo id (pf [47, 81, 82, 83] []) z0 (q_X13_makeStates K k L x2 x3 x4 x5 x6 x7 r1 z)
  | 0 => by
    intros
    exact fo_none
  | k + 1 => by
    intro L x2 x3 x4 x5 x6 x7 r1 z hz h9_r1
    show Fo id (pf [47, 81, 82, 83] []) z0 (qb_X13_makeStates K (q_X13_makeStates K k) L x2 x3 x4 x5 x6 x7 r1 z)
    unfold qb_X13_makeStates
    split
    · exact fb_X13_makeStates_0 (fq_X13_makeStates k) hz (h9_r1 (by decide))
    · exact fb_X13_makeStates_1 (fq_X13_makeStates k) hz (h9_r1 (by decide))
    · exact fb_X13_makeStates_2 (fq_X13_makeStates k) hz (h9_r1 (by decide))
    · exact fb_X13_makeStates_3 (fq_X13_makeStates k) hz (h9_r1 (by decide))
    · exact fb_X13_makeStates_4 (fq_X13_makeStates k) hz (h9_r1 (by decide))
    · exact fo_none
theorem ff_X13_makeStates {K : Nat} {r1 : Nat} {z : ow_MS} (hr1 : 1000 ≤ r1) : Fo id (pf [47, 81, 82, 83] []) z (qe_X13_makeStates K r1 z) := fq_X13_makeStates K 0 _ _ _ _ _ _ _ z fr_rf (fun _ => (by first | omega | decide))
theorem ff_X13_qOf {K : Nat} {x1 : Int32} {x2 : Int32} {x3 : Int32} {z : ow_MS}  : Fo Prod.snd (pf [] []) z (qe_X13_qOf K x1 x2 x3 z) := by
  unfold qe_X13_qOf qm_X13_qOf_0
  exact (fo_rdI (fun v2 => (fo_rdF (fun v4 => (fo_some fr_rf)))))
theorem fb_X13_placeAll_0 {K : Nat} {z0 z : ow_MS}  {go : Nat → Int32 → Int32 → Int32 → ow_MS → Option ow_MS} {x1 : Int32} {x2 : Int32} {x3 : Int32}  (hgo : ∀ (L : Nat) (x1 : Int32) (x2 : Int32) (x3 : Int32) (z : ow_MS), fr (pf [84, 85, 86, 87] []) z0 z → Fo id (pf [84, 85, 86, 87] []) z0 (go L x1 x2 x3 z)) (hz : fr (pf [84, 85, 86, 87] []) z0 z)  : Fo id (pf [84, 85, 86, 87] []) z0 (qm_X13_placeAll_0 K go x1 x2 x3 z) := by
  unfold qm_X13_placeAll_0
  exact (hgo 1 _ _ _ z hz)
theorem fb_X13_placeAll_1 {K : Nat} {z0 z : ow_MS}  {go : Nat → Int32 → Int32 → Int32 → ow_MS → Option ow_MS} {x1 : Int32} {x2 : Int32} {x3 : Int32}  (hgo : ∀ (L : Nat) (x1 : Int32) (x2 : Int32) (x3 : Int32) (z : ow_MS), fr (pf [84, 85, 86, 87] []) z0 z → Fo id (pf [84, 85, 86, 87] []) z0 (go L x1 x2 x3 z)) (hz : fr (pf [84, 85, 86, 87] []) z0 z)  : Fo id (pf [84, 85, 86, 87] []) z0 (qm_X13_placeAll_1 K go x1 x2 x3 z) := by
  unfold qm_X13_placeAll_1
  exact (fo_if (hgo 2 _ _ _ z hz) (fo_wrI (Or.inl (by decide)) hz (fun z1 h_z1 => (fo_wrI (Or.inl (by decide)) h_z1 (fun z2 h_z2 => (fo_wrI (Or.inl (by decide)) h_z2 (fun z3 h_z3 => (hgo 1 _ _ _ z3 h_z3))))))))
theorem fb_X13_placeAll_2 {K : Nat} {z0 z : ow_MS}  {go : Nat → Int32 → Int32 → Int32 → ow_MS → Option ow_MS} {x1 : Int32} {x2 : Int32} {x3 : Int32}  (hgo : ∀ (L : Nat) (x1 : Int32) (x2 : Int32) (x3 : Int32) (z : ow_MS), fr (pf [84, 85, 86, 87] []) z0 z → Fo id (pf [84, 85, 86, 87] []) z0 (go L x1 x2 x3 z)) (hz : fr (pf [84, 85, 86, 87] []) z0 z)  : Fo id (pf [84, 85, 86, 87] []) z0 (qm_X13_placeAll_2 K go x1 x2 x3 z) := by
  unfold qm_X13_placeAll_2
  exact (fo_if (fo_some hz) (hgo 3 _ _ _ z hz))
theorem fb_X13_placeAll_3 {K : Nat} {z0 z : ow_MS}  {go : Nat → Int32 → Int32 → Int32 → ow_MS → Option ow_MS} {x1 : Int32} {x2 : Int32} {x3 : Int32}  (hgo : ∀ (L : Nat) (x1 : Int32) (x2 : Int32) (x3 : Int32) (z : ow_MS), fr (pf [84, 85, 86, 87] []) z0 z → Fo id (pf [84, 85, 86, 87] []) z0 (go L x1 x2 x3 z)) (hz : fr (pf [84, 85, 86, 87] []) z0 z)  : Fo id (pf [84, 85, 86, 87] []) z0 (qm_X13_placeAll_3 K go x1 x2 x3 z) := by
  unfold qm_X13_placeAll_3
  exact (fo_rdI (fun v4 => (fo_if (hgo 2 _ _ _ z hz) (fo_rdF (fun v6 => (fo_cs1 (ff_X13_qOf) (pf_sub (by decide) pf_0) hz (fun v8 z7 h_z7 => (fo_rdI (fun v9 => (fo_rdI (fun v10 => (fo_wrI (Or.inl (by decide)) h_z7 (fun z11 h_z11 => (fo_rdI (fun v12 => (fo_wrI (Or.inl (by decide)) h_z11 (fun z13 h_z13 => (hgo 3 _ _ _ z13 h_z13))))))))))))))))))
theorem fq_X13_placeAll {K : Nat} {z0 : ow_MS}   : ∀ (k L : Nat) (x1 : Int32) (x2 : Int32) (x3 : Int32) (z : ow_MS), fr (pf [84, 85, 86, 87] []) z0 z → Fo id (pf [84, 85, 86, 87] []) z0 (q_X13_placeAll K k L x1 x2 x3 z)
  | 0 => by
    intros
    exact fo_none
  | k + 1 => by
    intro L x1 x2 x3 z hz 
    show Fo id (pf [84, 85, 86, 87] []) z0 (qb_X13_placeAll K (q_X13_placeAll K k) L x1 x2 x3 z)
    unfold qb_X13_placeAll
    split
    · exact fb_X13_placeAll_0 (fq_X13_placeAll k) hz 
    · exact fb_X13_placeAll_1 (fq_X13_placeAll k) hz 
    · exact fb_X13_placeAll_2 (fq_X13_placeAll k) hz 
    · exact fb_X13_placeAll_3 (fq_X13_placeAll k) hz 
    · exact fo_none
theorem ff_X13_placeAll {K : Nat} {x1 : Int32} {z : ow_MS}  : Fo id (pf [84, 85, 86, 87] []) z (qe_X13_placeAll K x1 z) := fq_X13_placeAll K 0 _ _ _ z fr_rf 
theorem fb_X13_inverseOf_0 {K : Nat} {z0 z : ow_MS}  {go : Nat → Int32 → Int32 → Int32 → ow_MS → Option (Int32 × ow_MS)} {x0 : Int32} {x1 : Int32} {x2 : Int32}  (hgo : ∀ (L : Nat) (x0 : Int32) (x1 : Int32) (x2 : Int32) (z : ow_MS), fr (pf [] []) z0 z → Fo Prod.snd (pf [] []) z0 (go L x0 x1 x2 z)) (hz : fr (pf [] []) z0 z)  : Fo Prod.snd (pf [] []) z0 (qm_X13_inverseOf_0 K go x0 x1 x2 z) := by
  unfold qm_X13_inverseOf_0
  exact (hgo 1 _ _ _ z hz)
theorem fb_X13_inverseOf_1 {K : Nat} {z0 z : ow_MS}  {go : Nat → Int32 → Int32 → Int32 → ow_MS → Option (Int32 × ow_MS)} {x0 : Int32} {x1 : Int32} {x2 : Int32}  (hgo : ∀ (L : Nat) (x0 : Int32) (x1 : Int32) (x2 : Int32) (z : ow_MS), fr (pf [] []) z0 z → Fo Prod.snd (pf [] []) z0 (go L x0 x1 x2 z)) (hz : fr (pf [] []) z0 z)  : Fo Prod.snd (pf [] []) z0 (qm_X13_inverseOf_1 K go x0 x1 x2 z) := by
  unfold qm_X13_inverseOf_1
  exact (fo_nzI (fo_if (fo_some hz) (hgo 1 _ _ _ z hz)))
theorem fq_X13_inverseOf {K : Nat} {z0 : ow_MS}   : ∀ (k L : Nat) (x0 : Int32) (x1 : Int32) (x2 : Int32) (z : ow_MS), fr (pf [] []) z0 z → Fo Prod.snd (pf [] []) z0 (q_X13_inverseOf K k L x0 x1 x2 z)
  | 0 => by
    intros
    exact fo_none
  | k + 1 => by
    intro L x0 x1 x2 z hz 
    show Fo Prod.snd (pf [] []) z0 (qb_X13_inverseOf K (q_X13_inverseOf K k) L x0 x1 x2 z)
    unfold qb_X13_inverseOf
    split
    · exact fb_X13_inverseOf_0 (fq_X13_inverseOf k) hz 
    · exact fb_X13_inverseOf_1 (fq_X13_inverseOf k) hz 
    · exact fo_none
theorem ff_X13_inverseOf {K : Nat} {x0 : Int32} {x1 : Int32} {z : ow_MS}  : Fo Prod.snd (pf [] []) z (qe_X13_inverseOf K x0 x1 z) := fq_X13_inverseOf K 0 _ _ _ z fr_rf 
theorem fb_X13_reduced_0 {K : Nat} {z0 z : ow_MS}  {go : Nat → Int32 → Int32 → Int32 → Int32 → Int32 → Int32 → Int32 → ow_MS → Option (Int32 × ow_MS)} {x1 : Int32} {x2 : Int32} {x3 : Int32} {x4 : Int32} {x5 : Int32} {x6 : Int32} {x7 : Int32}  (hgo : ∀ (L : Nat) (x1 : Int32) (x2 : Int32) (x3 : Int32) (x4 : Int32) (x5 : Int32) (x6 : Int32) (x7 : Int32) (z : ow_MS), fr (pf [89, 90, 91, 92, 93] []) z0 z → Fo Prod.snd (pf [89, 90, 91, 92, 93] []) z0 (go L x1 x2 x3 x4 x5 x6 x7 z)) (hz : fr (pf [89, 90, 91, 92, 93] []) z0 z)  : Fo Prod.snd (pf [89, 90, 91, 92, 93] []) z0 (qm_X13_reduced_0 K go x1 x2 x3 x4 x5 x6 x7 z) := by
  unfold qm_X13_reduced_0
  exact (hgo 1 _ _ _ _ _ _ _ z hz)
theorem fb_X13_reduced_1 {K : Nat} {z0 z : ow_MS}  {go : Nat → Int32 → Int32 → Int32 → Int32 → Int32 → Int32 → Int32 → ow_MS → Option (Int32 × ow_MS)} {x1 : Int32} {x2 : Int32} {x3 : Int32} {x4 : Int32} {x5 : Int32} {x6 : Int32} {x7 : Int32}  (hgo : ∀ (L : Nat) (x1 : Int32) (x2 : Int32) (x3 : Int32) (x4 : Int32) (x5 : Int32) (x6 : Int32) (x7 : Int32) (z : ow_MS), fr (pf [89, 90, 91, 92, 93] []) z0 z → Fo Prod.snd (pf [89, 90, 91, 92, 93] []) z0 (go L x1 x2 x3 x4 x5 x6 x7 z)) (hz : fr (pf [89, 90, 91, 92, 93] []) z0 z)  : Fo Prod.snd (pf [89, 90, 91, 92, 93] []) z0 (qm_X13_reduced_1 K go x1 x2 x3 x4 x5 x6 x7 z) := by
  unfold qm_X13_reduced_1
  exact (fo_if (fo_okZ (fo_some hz)) (fo_rdI (fun v1 => (fo_nzI (fo_wrI (Or.inl (by decide)) hz (fun z2 h_z2 => (fo_if (hgo 5 _ _ _ _ _ _ _ z2 h_z2) (fo_rdI (fun v3 => (fo_if (fo_cs1 (ff_X13_inverseOf) (pf_sub (by decide) pf_0) h_z2 (fun v6 z5 h_z5 => (fo_rdF (fun v7 => (fo_wrI (Or.inl (by decide)) h_z5 (fun z8 h_z8 => (hgo 2 _ _ _ _ _ _ _ z8 h_z8))))))) (fo_rdI (fun v4 => (hgo 4 _ _ _ _ _ _ _ z2 h_z2)))))))))))))
theorem fb_X13_reduced_2 {K : Nat} {z0 z : ow_MS}  {go : Nat → Int32 → Int32 → Int32 → Int32 → Int32 → Int32 → Int32 → ow_MS → Option (Int32 × ow_MS)} {x1 : Int32} {x2 : Int32} {x3 : Int32} {x4 : Int32} {x5 : Int32} {x6 : Int32} {x7 : Int32}  (hgo : ∀ (L : Nat) (x1 : Int32) (x2 : Int32) (x3 : Int32) (x4 : Int32) (x5 : Int32) (x6 : Int32) (x7 : Int32) (z : ow_MS), fr (pf [89, 90, 91, 92, 93] []) z0 z → Fo Prod.snd (pf [89, 90, 91, 92, 93] []) z0 (go L x1 x2 x3 x4 x5 x6 x7 z)) (hz : fr (pf [89, 90, 91, 92, 93] []) z0 z)  : Fo Prod.snd (pf [89, 90, 91, 92, 93] []) z0 (qm_X13_reduced_2 K go x1 x2 x3 x4 x5 x6 x7 z) := by
  unfold qm_X13_reduced_2
  exact (fo_if (fo_rdF (fun v9 => (fo_wrI (Or.inl (by decide)) hz (fun z10 h_z10 => (fo_okZ (fo_some h_z10)))))) (fo_rdI (fun v11 => (fo_nzI (fo_nzI (fo_if (hgo 3 _ _ _ _ _ _ _ z hz) (fo_rdF (fun v12 => (fo_wrI (Or.inl (by decide)) hz (fun z13 h_z13 => (fo_rdF (fun v14 => (fo_wrF (Or.inl (by decide)) h_z13 (fun z15 h_z15 => (hgo 3 _ _ _ _ _ _ _ z15 h_z15)))))))))))))))
theorem fb_X13_reduced_3 {K : Nat} {z0 z : ow_MS}  {go : Nat → Int32 → Int32 → Int32 → Int32 → Int32 → Int32 → Int32 → ow_MS → Option (Int32 × ow_MS)} {x1 : Int32} {x2 : Int32} {x3 : Int32} {x4 : Int32} {x5 : Int32} {x6 : Int32} {x7 : Int32}  (hgo : ∀ (L : Nat) (x1 : Int32) (x2 : Int32) (x3 : Int32) (x4 : Int32) (x5 : Int32) (x6 : Int32) (x7 : Int32) (z : ow_MS), fr (pf [89, 90, 91, 92, 93] []) z0 z → Fo Prod.snd (pf [89, 90, 91, 92, 93] []) z0 (go L x1 x2 x3 x4 x5 x6 x7 z)) (hz : fr (pf [89, 90, 91, 92, 93] []) z0 z)  : Fo Prod.snd (pf [89, 90, 91, 92, 93] []) z0 (qm_X13_reduced_3 K go x1 x2 x3 x4 x5 x6 x7 z) := by
  unfold qm_X13_reduced_3
  exact (hgo 2 _ _ _ _ _ _ _ z hz)
theorem fb_X13_reduced_4 {K : Nat} {z0 z : ow_MS}  {go : Nat → Int32 → Int32 → Int32 → Int32 → Int32 → Int32 → Int32 → ow_MS → Option (Int32 × ow_MS)} {x1 : Int32} {x2 : Int32} {x3 : Int32} {x4 : Int32} {x5 : Int32} {x6 : Int32} {x7 : Int32}  (hgo : ∀ (L : Nat) (x1 : Int32) (x2 : Int32) (x3 : Int32) (x4 : Int32) (x5 : Int32) (x6 : Int32) (x7 : Int32) (z : ow_MS), fr (pf [89, 90, 91, 92, 93] []) z0 z → Fo Prod.snd (pf [89, 90, 91, 92, 93] []) z0 (go L x1 x2 x3 x4 x5 x6 x7 z)) (hz : fr (pf [89, 90, 91, 92, 93] []) z0 z)  : Fo Prod.snd (pf [89, 90, 91, 92, 93] []) z0 (qm_X13_reduced_4 K go x1 x2 x3 x4 x5 x6 x7 z) := by
  unfold qm_X13_reduced_4
  exact (fo_rdI (fun v16 => (fo_if (hgo 5 _ _ _ _ _ _ _ z hz) (fo_rdI (fun v17 => (fo_rdI (fun v18 => (fo_rdI (fun v19 => (fo_nzI (fo_wrI (Or.inl (by decide)) hz (fun z20 h_z20 => (hgo 4 _ _ _ _ _ _ _ z20 h_z20)))))))))))))
theorem fb_X13_reduced_5 {K : Nat} {z0 z : ow_MS}  {go : Nat → Int32 → Int32 → Int32 → Int32 → Int32 → Int32 → Int32 → ow_MS → Option (Int32 × ow_MS)} {x1 : Int32} {x2 : Int32} {x3 : Int32} {x4 : Int32} {x5 : Int32} {x6 : Int32} {x7 : Int32}  (hgo : ∀ (L : Nat) (x1 : Int32) (x2 : Int32) (x3 : Int32) (x4 : Int32) (x5 : Int32) (x6 : Int32) (x7 : Int32) (z : ow_MS), fr (pf [89, 90, 91, 92, 93] []) z0 z → Fo Prod.snd (pf [89, 90, 91, 92, 93] []) z0 (go L x1 x2 x3 x4 x5 x6 x7 z)) (hz : fr (pf [89, 90, 91, 92, 93] []) z0 z)  : Fo Prod.snd (pf [89, 90, 91, 92, 93] []) z0 (qm_X13_reduced_5 K go x1 x2 x3 x4 x5 x6 x7 z) := by
  unfold qm_X13_reduced_5
  exact (hgo 1 _ _ _ _ _ _ _ z hz)
theorem fq_X13_reduced {K : Nat} {z0 : ow_MS}   : ∀ (k L : Nat) (x1 : Int32) (x2 : Int32) (x3 : Int32) (x4 : Int32) (x5 : Int32) (x6 : Int32) (x7 : Int32) (z : ow_MS), fr (pf [89, 90, 91, 92, 93] []) z0 z → Fo Prod.snd (pf [89, 90, 91, 92, 93] []) z0 (q_X13_reduced K k L x1 x2 x3 x4 x5 x6 x7 z)
  | 0 => by
    intros
    exact fo_none
  | k + 1 => by
    intro L x1 x2 x3 x4 x5 x6 x7 z hz 
    show Fo Prod.snd (pf [89, 90, 91, 92, 93] []) z0 (qb_X13_reduced K (q_X13_reduced K k) L x1 x2 x3 x4 x5 x6 x7 z)
    unfold qb_X13_reduced
    split
    · exact fb_X13_reduced_0 (fq_X13_reduced k) hz 
    · exact fb_X13_reduced_1 (fq_X13_reduced k) hz 
    · exact fb_X13_reduced_2 (fq_X13_reduced k) hz 
    · exact fb_X13_reduced_3 (fq_X13_reduced k) hz 
    · exact fb_X13_reduced_4 (fq_X13_reduced k) hz 
    · exact fb_X13_reduced_5 (fq_X13_reduced k) hz 
    · exact fo_none
theorem ff_X13_reduced {K : Nat} {x1 : Int32} {x2 : Int32} {z : ow_MS}  : Fo Prod.snd (pf [89, 90, 91, 92, 93] []) z (qe_X13_reduced K x1 x2 z) := fq_X13_reduced K 0 _ _ _ _ _ _ _ z fr_rf 
theorem fb_X13_step_0 {K : Nat} {z0 z : ow_MS}  {go : Nat → Int32 → Int32 → Int32 → Int32 → Int32 → Int32 → Int32 → Int32 → Int32 → Int32 → Int32 → Int32 → Int32 → Int32 → Int32 → Int32 → Nat → Int32 → ow_MS → Option ow_MS} {x2 : Int32} {x3 : Int32} {x4 : Int32} {x5 : Int32} {x6 : Int32} {x7 : Int32} {x8 : Int32} {x9 : Int32} {x10 : Int32} {x11 : Int32} {x12 : Int32} {x13 : Int32} {x14 : Int32} {x15 : Int32} {x16 : Int32} {x17 : Int32} {r1 : Nat} {t0 : Int32}  (hgo : ∀ (L : Nat) (x2 : Int32) (x3 : Int32) (x4 : Int32) (x5 : Int32) (x6 : Int32) (x7 : Int32) (x8 : Int32) (x9 : Int32) (x10 : Int32) (x11 : Int32) (x12 : Int32) (x13 : Int32) (x14 : Int32) (x15 : Int32) (x16 : Int32) (x17 : Int32) (r1 : Nat) (t0 : Int32) (z : ow_MS), fr (pf [89] []) z0 z → (L = 0 ∨ L = 1 ∨ L = 2 ∨ L = 3 ∨ L = 4 ∨ L = 5 ∨ L = 6 ∨ L = 7 ∨ L = 8 ∨ L = 9 ∨ L = 10 ∨ L = 11 ∨ L = 12 ∨ L = 13 → 1000 ≤ r1) → Fo id (pf [89] []) z0 (go L x2 x3 x4 x5 x6 x7 x8 x9 x10 x11 x12 x13 x14 x15 x16 x17 r1 t0 z)) (hz : fr (pf [89] []) z0 z) (hr1 : 1000 ≤ r1) : Fo id (pf [89] []) z0 (qm_X13_step_0 K go x2 x3 x4 x5 x6 x7 x8 x9 x10 x11 x12 x13 x14 x15 x16 x17 r1 t0 z) := by
  unfold qm_X13_step_0
  exact (hgo 1 _ _ _ _ _ _ _ _ _ _ _ _ _ _ _ _ _ _ z hz (fun _ => (by first | omega | decide)))
theorem fb_X13_step_1 {K : Nat} {z0 z : ow_MS}  {go : Nat → Int32 → Int32 → Int32 → Int32 → Int32 → Int32 → Int32 → Int32 → Int32 → Int32 → Int32 → Int32 → Int32 → Int32 → Int32 → Int32 → Nat → Int32 → ow_MS → Option ow_MS} {x2 : Int32} {x3 : Int32} {x4 : Int32} {x5 : Int32} {x6 : Int32} {x7 : Int32} {x8 : Int32} {x9 : Int32} {x10 : Int32} {x11 : Int32} {x12 : Int32} {x13 : Int32} {x14 : Int32} {x15 : Int32} {x16 : Int32} {x17 : Int32} {r1 : Nat} {t0 : Int32}  (hgo : ∀ (L : Nat) (x2 : Int32) (x3 : Int32) (x4 : Int32) (x5 : Int32) (x6 : Int32) (x7 : Int32) (x8 : Int32) (x9 : Int32) (x10 : Int32) (x11 : Int32) (x12 : Int32) (x13 : Int32) (x14 : Int32) (x15 : Int32) (x16 : Int32) (x17 : Int32) (r1 : Nat) (t0 : Int32) (z : ow_MS), fr (pf [89] []) z0 z → (L = 0 ∨ L = 1 ∨ L = 2 ∨ L = 3 ∨ L = 4 ∨ L = 5 ∨ L = 6 ∨ L = 7 ∨ L = 8 ∨ L = 9 ∨ L = 10 ∨ L = 11 ∨ L = 12 ∨ L = 13 → 1000 ≤ r1) → Fo id (pf [89] []) z0 (go L x2 x3 x4 x5 x6 x7 x8 x9 x10 x11 x12 x13 x14 x15 x16 x17 r1 t0 z)) (hz : fr (pf [89] []) z0 z) (hr1 : 1000 ≤ r1) : Fo id (pf [89] []) z0 (qm_X13_step_1 K go x2 x3 x4 x5 x6 x7 x8 x9 x10 x11 x12 x13 x14 x15 x16 x17 r1 t0 z) := by
  unfold qm_X13_step_1
  exact (fo_rdI (fun v1 => (fo_if (fo_rdI (fun v2 => (fo_if (hgo 2 _ _ _ _ _ _ _ _ _ _ _ _ _ _ _ _ _ _ z hz (fun _ => (by first | omega | decide))) (hgo 2 _ _ _ _ _ _ _ _ _ _ _ _ _ _ _ _ _ _ z hz (fun _ => (by first | omega | decide)))))) (hgo 1 _ _ _ _ _ _ _ _ _ _ _ _ _ _ _ _ _ _ z hz (fun _ => (by first | omega | decide))))))
theorem fb_X13_step_2 {K : Nat} {z0 z : ow_MS}  {go : Nat → Int32 → Int32 → Int32 → Int32 → Int32 → Int32 → Int32 → Int32 → Int32 → Int32 → Int32 → Int32 → Int32 → Int32 → Int32 → Int32 → Nat → Int32 → ow_MS → Option ow_MS} {x2 : Int32} {x3 : Int32} {x4 : Int32} {x5 : Int32} {x6 : Int32} {x7 : Int32} {x8 : Int32} {x9 : Int32} {x10 : Int32} {x11 : Int32} {x12 : Int32} {x13 : Int32} {x14 : Int32} {x15 : Int32} {x16 : Int32} {x17 : Int32} {r1 : Nat} {t0 : Int32}  (hgo : ∀ (L : Nat) (x2 : Int32) (x3 : Int32) (x4 : Int32) (x5 : Int32) (x6 : Int32) (x7 : Int32) (x8 : Int32) (x9 : Int32) (x10 : Int32) (x11 : Int32) (x12 : Int32) (x13 : Int32) (x14 : Int32) (x15 : Int32) (x16 : Int32) (x17 : Int32) (r1 : Nat) (t0 : Int32) (z : ow_MS), fr (pf [89] []) z0 z → (L = 0 ∨ L = 1 ∨ L = 2 ∨ L = 3 ∨ L = 4 ∨ L = 5 ∨ L = 6 ∨ L = 7 ∨ L = 8 ∨ L = 9 ∨ L = 10 ∨ L = 11 ∨ L = 12 ∨ L = 13 → 1000 ≤ r1) → Fo id (pf [89] []) z0 (go L x2 x3 x4 x5 x6 x7 x8 x9 x10 x11 x12 x13 x14 x15 x16 x17 r1 t0 z)) (hz : fr (pf [89] []) z0 z) (hr1 : 1000 ≤ r1) : Fo id (pf [89] []) z0 (qm_X13_step_2 K go x2 x3 x4 x5 x6 x7 x8 x9 x10 x11 x12 x13 x14 x15 x16 x17 r1 t0 z) := by
  unfold qm_X13_step_2
  exact (fo_rdI (fun v4 => (fo_rdI (fun v5 => (fo_rdI (fun v6 => (fo_if (fo_rdI (fun v7 => (fo_if (fo_rdI (fun v8 => (fo_rdI (fun v9 => (hgo 3 _ _ _ _ _ _ _ _ _ _ _ _ _ _ _ _ _ _ z hz (fun _ => (by first | omega | decide))))))) (fo_rdI (fun v10 => (hgo 3 _ _ _ _ _ _ _ _ _ _ _ _ _ _ _ _ _ _ z hz (fun _ => (by first | omega | decide)))))))) (fo_rdI (fun v11 => (fo_rdI (fun v12 => (hgo 3 _ _ _ _ _ _ _ _ _ _ _ _ _ _ _ _ _ _ z hz (fun _ => (by first | omega | decide))))))))))))))
theorem fb_X13_step_3 {K : Nat} {z0 z : ow_MS}  {go : Nat → Int32 → Int32 → Int32 → Int32 → Int32 → Int32 → Int32 → Int32 → Int32 → Int32 → Int32 → Int32 → Int32 → Int32 → Int32 → Int32 → Nat → Int32 → ow_MS → Option ow_MS} {x2 : Int32} {x3 : Int32} {x4 : Int32} {x5 : Int32} {x6 : Int32} {x7 : Int32} {x8 : Int32} {x9 : Int32} {x10 : Int32} {x11 : Int32} {x12 : Int32} {x13 : Int32} {x14 : Int32} {x15 : Int32} {x16 : Int32} {x17 : Int32} {r1 : Nat} {t0 : Int32}  (hgo : ∀ (L : Nat) (x2 : Int32) (x3 : Int32) (x4 : Int32) (x5 : Int32) (x6 : Int32) (x7 : Int32) (x8 : Int32) (x9 : Int32) (x10 : Int32) (x11 : Int32) (x12 : Int32) (x13 : Int32) (x14 : Int32) (x15 : Int32) (x16 : Int32) (x17 : Int32) (r1 : Nat) (t0 : Int32) (z : ow_MS), fr (pf [89] []) z0 z → (L = 0 ∨ L = 1 ∨ L = 2 ∨ L = 3 ∨ L = 4 ∨ L = 5 ∨ L = 6 ∨ L = 7 ∨ L = 8 ∨ L = 9 ∨ L = 10 ∨ L = 11 ∨ L = 12 ∨ L = 13 → 1000 ≤ r1) → Fo id (pf [89] []) z0 (go L x2 x3 x4 x5 x6 x7 x8 x9 x10 x11 x12 x13 x14 x15 x16 x17 r1 t0 z)) (hz : fr (pf [89] []) z0 z) (hr1 : 1000 ≤ r1) : Fo id (pf [89] []) z0 (qm_X13_step_3 K go x2 x3 x4 x5 x6 x7 x8 x9 x10 x11 x12 x13 x14 x15 x16 x17 r1 t0 z) := by
  unfold qm_X13_step_3
  exact (fo_rdI (fun v13 => (fo_rdI (fun v14 => (fo_rdI (fun v15 => (fo_if (fo_rdI (fun v16 => (fo_if (fo_rdI (fun v17 => (fo_rdI (fun v18 => (hgo 4 _ _ _ _ _ _ _ _ _ _ _ _ _ _ _ _ _ _ z hz (fun _ => (by first | omega | decide))))))) (fo_rdI (fun v19 => (hgo 4 _ _ _ _ _ _ _ _ _ _ _ _ _ _ _ _ _ _ z hz (fun _ => (by first | omega | decide)))))))) (fo_rdI (fun v20 => (fo_rdI (fun v21 => (hgo 4 _ _ _ _ _ _ _ _ _ _ _ _ _ _ _ _ _ _ z hz (fun _ => (by first | omega | decide))))))))))))))
theorem fb_X13_step_4 {K : Nat} {z0 z : ow_MS}  {go : Nat → Int32 → Int32 → Int32 → Int32 → Int32 → Int32 → Int32 → Int32 → Int32 → Int32 → Int32 → Int32 → Int32 → Int32 → Int32 → Int32 → Nat → Int32 → ow_MS → Option ow_MS} {x2 : Int32} {x3 : Int32} {x4 : Int32} {x5 : Int32} {x6 : Int32} {x7 : Int32} {x8 : Int32} {x9 : Int32} {x10 : Int32} {x11 : Int32} {x12 : Int32} {x13 : Int32} {x14 : Int32} {x15 : Int32} {x16 : Int32} {x17 : Int32} {r1 : Nat} {t0 : Int32}  (hgo : ∀ (L : Nat) (x2 : Int32) (x3 : Int32) (x4 : Int32) (x5 : Int32) (x6 : Int32) (x7 : Int32) (x8 : Int32) (x9 : Int32) (x10 : Int32) (x11 : Int32) (x12 : Int32) (x13 : Int32) (x14 : Int32) (x15 : Int32) (x16 : Int32) (x17 : Int32) (r1 : Nat) (t0 : Int32) (z : ow_MS), fr (pf [89] []) z0 z → (L = 0 ∨ L = 1 ∨ L = 2 ∨ L = 3 ∨ L = 4 ∨ L = 5 ∨ L = 6 ∨ L = 7 ∨ L = 8 ∨ L = 9 ∨ L = 10 ∨ L = 11 ∨ L = 12 ∨ L = 13 → 1000 ≤ r1) → Fo id (pf [89] []) z0 (go L x2 x3 x4 x5 x6 x7 x8 x9 x10 x11 x12 x13 x14 x15 x16 x17 r1 t0 z)) (hz : fr (pf [89] []) z0 z) (hr1 : 1000 ≤ r1) : Fo id (pf [89] []) z0 (qm_X13_step_4 K go x2 x3 x4 x5 x6 x7 x8 x9 x10 x11 x12 x13 x14 x15 x16 x17 r1 t0 z) := by
  unfold qm_X13_step_4
  exact (hgo 5 _ _ _ _ _ _ _ _ _ _ _ _ _ _ _ _ _ _ z hz (fun _ => (by first | omega | decide)))
theorem fb_X13_step_5 {K : Nat} {z0 z : ow_MS}  {go : Nat → Int32 → Int32 → Int32 → Int32 → Int32 → Int32 → Int32 → Int32 → Int32 → Int32 → Int32 → Int32 → Int32 → Int32 → Int32 → Int32 → Nat → Int32 → ow_MS → Option ow_MS} {x2 : Int32} {x3 : Int32} {x4 : Int32} {x5 : Int32} {x6 : Int32} {x7 : Int32} {x8 : Int32} {x9 : Int32} {x10 : Int32} {x11 : Int32} {x12 : Int32} {x13 : Int32} {x14 : Int32} {x15 : Int32} {x16 : Int32} {x17 : Int32} {r1 : Nat} {t0 : Int32}  (hgo : ∀ (L : Nat) (x2 : Int32) (x3 : Int32) (x4 : Int32) (x5 : Int32) (x6 : Int32) (x7 : Int32) (x8 : Int32) (x9 : Int32) (x10 : Int32) (x11 : Int32) (x12 : Int32) (x13 : Int32) (x14 : Int32) (x15 : Int32) (x16 : Int32) (x17 : Int32) (r1 : Nat) (t0 : Int32) (z : ow_MS), fr (pf [89] []) z0 z → (L = 0 ∨ L = 1 ∨ L = 2 ∨ L = 3 ∨ L = 4 ∨ L = 5 ∨ L = 6 ∨ L = 7 ∨ L = 8 ∨ L = 9 ∨ L = 10 ∨ L = 11 ∨ L = 12 ∨ L = 13 → 1000 ≤ r1) → Fo id (pf [89] []) z0 (go L x2 x3 x4 x5 x6 x7 x8 x9 x10 x11 x12 x13 x14 x15 x16 x17 r1 t0 z)) (hz : fr (pf [89] []) z0 z) (hr1 : 1000 ≤ r1) : Fo id (pf [89] []) z0 (qm_X13_step_5 K go x2 x3 x4 x5 x6 x7 x8 x9 x10 x11 x12 x13 x14 x15 x16 x17 r1 t0 z) := by
  unfold qm_X13_step_5
  exact (fo_rdF (fun v22 => (fo_if (fo_cs1 (ff_X13_circlesOf (by first | omega | decide)) (pf_sub (by decide) pf_0) hz (fun v24 z23 h_z23 => (hgo 7 _ _ _ _ _ _ _ _ _ _ _ _ _ _ _ _ _ _ z23 h_z23 (fun _ => (by first | omega | decide))))) (fo_rdI (fun v25 => (fo_if (hgo 6 _ _ _ _ _ _ _ _ _ _ _ _ _ _ _ _ _ _ z hz (fun _ => (by first | omega | decide))) (fo_if (hgo 6 _ _ _ _ _ _ _ _ _ _ _ _ _ _ _ _ _ _ z hz (fun _ => (by first | omega | decide))) (fo_if (fo_rdI (fun v26 => (hgo 6 _ _ _ _ _ _ _ _ _ _ _ _ _ _ _ _ _ _ z hz (fun _ => (by first | omega | decide))))) (hgo 6 _ _ _ _ _ _ _ _ _ _ _ _ _ _ _ _ _ _ z hz (fun _ => (by first | omega | decide)))))))))))
theorem fb_X13_step_6 {K : Nat} {z0 z : ow_MS}  {go : Nat → Int32 → Int32 → Int32 → Int32 → Int32 → Int32 → Int32 → Int32 → Int32 → Int32 → Int32 → Int32 → Int32 → Int32 → Int32 → Int32 → Nat → Int32 → ow_MS → Option ow_MS} {x2 : Int32} {x3 : Int32} {x4 : Int32} {x5 : Int32} {x6 : Int32} {x7 : Int32} {x8 : Int32} {x9 : Int32} {x10 : Int32} {x11 : Int32} {x12 : Int32} {x13 : Int32} {x14 : Int32} {x15 : Int32} {x16 : Int32} {x17 : Int32} {r1 : Nat} {t0 : Int32}  (hgo : ∀ (L : Nat) (x2 : Int32) (x3 : Int32) (x4 : Int32) (x5 : Int32) (x6 : Int32) (x7 : Int32) (x8 : Int32) (x9 : Int32) (x10 : Int32) (x11 : Int32) (x12 : Int32) (x13 : Int32) (x14 : Int32) (x15 : Int32) (x16 : Int32) (x17 : Int32) (r1 : Nat) (t0 : Int32) (z : ow_MS), fr (pf [89] []) z0 z → (L = 0 ∨ L = 1 ∨ L = 2 ∨ L = 3 ∨ L = 4 ∨ L = 5 ∨ L = 6 ∨ L = 7 ∨ L = 8 ∨ L = 9 ∨ L = 10 ∨ L = 11 ∨ L = 12 ∨ L = 13 → 1000 ≤ r1) → Fo id (pf [89] []) z0 (go L x2 x3 x4 x5 x6 x7 x8 x9 x10 x11 x12 x13 x14 x15 x16 x17 r1 t0 z)) (hz : fr (pf [89] []) z0 z) (hr1 : 1000 ≤ r1) : Fo id (pf [89] []) z0 (qm_X13_step_6 K go x2 x3 x4 x5 x6 x7 x8 x9 x10 x11 x12 x13 x14 x15 x16 x17 r1 t0 z) := by
  unfold qm_X13_step_6
  exact (hgo 5 _ _ _ _ _ _ _ _ _ _ _ _ _ _ _ _ _ _ z hz (fun _ => (by first | omega | decide)))
theorem fb_X13_step_7 {K : Nat} {z0 z : ow_MS}  {go : Nat → Int32 → Int32 → Int32 → Int32 → Int32 → Int32 → Int32 → Int32 → Int32 → Int32 → Int32 → Int32 → Int32 → Int32 → Int32 → Int32 → Nat → Int32 → ow_MS → Option ow_MS} {x2 : Int32} {x3 : Int32} {x4 : Int32} {x5 : Int32} {x6 : Int32} {x7 : Int32} {x8 : Int32} {x9 : Int32} {x10 : Int32} {x11 : Int32} {x12 : Int32} {x13 : Int32} {x14 : Int32} {x15 : Int32} {x16 : Int32} {x17 : Int32} {r1 : Nat} {t0 : Int32}  (hgo : ∀ (L : Nat) (x2 : Int32) (x3 : Int32) (x4 : Int32) (x5 : Int32) (x6 : Int32) (x7 : Int32) (x8 : Int32) (x9 : Int32) (x10 : Int32) (x11 : Int32) (x12 : Int32) (x13 : Int32) (x14 : Int32) (x15 : Int32) (x16 : Int32) (x17 : Int32) (r1 : Nat) (t0 : Int32) (z : ow_MS), fr (pf [89] []) z0 z → (L = 0 ∨ L = 1 ∨ L = 2 ∨ L = 3 ∨ L = 4 ∨ L = 5 ∨ L = 6 ∨ L = 7 ∨ L = 8 ∨ L = 9 ∨ L = 10 ∨ L = 11 ∨ L = 12 ∨ L = 13 → 1000 ≤ r1) → Fo id (pf [89] []) z0 (go L x2 x3 x4 x5 x6 x7 x8 x9 x10 x11 x12 x13 x14 x15 x16 x17 r1 t0 z)) (hz : fr (pf [89] []) z0 z) (hr1 : 1000 ≤ r1) : Fo id (pf [89] []) z0 (qm_X13_step_7 K go x2 x3 x4 x5 x6 x7 x8 x9 x10 x11 x12 x13 x14 x15 x16 x17 r1 t0 z) := by
  unfold qm_X13_step_7
  exact (fo_if (fo_if (hgo 9 _ _ _ _ _ _ _ _ _ _ _ _ _ _ _ _ _ _ z hz (fun _ => (by first | omega | decide))) (hgo 9 _ _ _ _ _ _ _ _ _ _ _ _ _ _ _ _ _ _ z hz (fun _ => (by first | omega | decide)))) (fo_rdI (fun v27 => (fo_if (fo_rdI (fun v28 => (hgo 8 _ _ _ _ _ _ _ _ _ _ _ _ _ _ _ _ _ _ z hz (fun _ => (by first | omega | decide))))) (hgo 8 _ _ _ _ _ _ _ _ _ _ _ _ _ _ _ _ _ _ z hz (fun _ => (by first | omega | decide)))))))
theorem fb_X13_step_8 {K : Nat} {z0 z : ow_MS}  {go : Nat → Int32 → Int32 → Int32 → Int32 → Int32 → Int32 → Int32 → Int32 → Int32 → Int32 → Int32 → Int32 → Int32 → Int32 → Int32 → Int32 → Nat → Int32 → ow_MS → Option ow_MS} {x2 : Int32} {x3 : Int32} {x4 : Int32} {x5 : Int32} {x6 : Int32} {x7 : Int32} {x8 : Int32} {x9 : Int32} {x10 : Int32} {x11 : Int32} {x12 : Int32} {x13 : Int32} {x14 : Int32} {x15 : Int32} {x16 : Int32} {x17 : Int32} {r1 : Nat} {t0 : Int32}  (hgo : ∀ (L : Nat) (x2 : Int32) (x3 : Int32) (x4 : Int32) (x5 : Int32) (x6 : Int32) (x7 : Int32) (x8 : Int32) (x9 : Int32) (x10 : Int32) (x11 : Int32) (x12 : Int32) (x13 : Int32) (x14 : Int32) (x15 : Int32) (x16 : Int32) (x17 : Int32) (r1 : Nat) (t0 : Int32) (z : ow_MS), fr (pf [89] []) z0 z → (L = 0 ∨ L = 1 ∨ L = 2 ∨ L = 3 ∨ L = 4 ∨ L = 5 ∨ L = 6 ∨ L = 7 ∨ L = 8 ∨ L = 9 ∨ L = 10 ∨ L = 11 ∨ L = 12 ∨ L = 13 → 1000 ≤ r1) → Fo id (pf [89] []) z0 (go L x2 x3 x4 x5 x6 x7 x8 x9 x10 x11 x12 x13 x14 x15 x16 x17 r1 t0 z)) (hz : fr (pf [89] []) z0 z) (hr1 : 1000 ≤ r1) : Fo id (pf [89] []) z0 (qm_X13_step_8 K go x2 x3 x4 x5 x6 x7 x8 x9 x10 x11 x12 x13 x14 x15 x16 x17 r1 t0 z) := by
  unfold qm_X13_step_8
  exact (hgo 7 _ _ _ _ _ _ _ _ _ _ _ _ _ _ _ _ _ _ z hz (fun _ => (by first | omega | decide)))
theorem fb_X13_step_9 {K : Nat} {z0 z : ow_MS}  {go : Nat → Int32 → Int32 → Int32 → Int32 → Int32 → Int32 → Int32 → Int32 → Int32 → Int32 → Int32 → Int32 → Int32 → Int32 → Int32 → Int32 → Nat → Int32 → ow_MS → Option ow_MS} {x2 : Int32} {x3 : Int32} {x4 : Int32} {x5 : Int32} {x6 : Int32} {x7 : Int32} {x8 : Int32} {x9 : Int32} {x10 : Int32} {x11 : Int32} {x12 : Int32} {x13 : Int32} {x14 : Int32} {x15 : Int32} {x16 : Int32} {x17 : Int32} {r1 : Nat} {t0 : Int32}  (hgo : ∀ (L : Nat) (x2 : Int32) (x3 : Int32) (x4 : Int32) (x5 : Int32) (x6 : Int32) (x7 : Int32) (x8 : Int32) (x9 : Int32) (x10 : Int32) (x11 : Int32) (x12 : Int32) (x13 : Int32) (x14 : Int32) (x15 : Int32) (x16 : Int32) (x17 : Int32) (r1 : Nat) (t0 : Int32) (z : ow_MS), fr (pf [89] []) z0 z → (L = 0 ∨ L = 1 ∨ L = 2 ∨ L = 3 ∨ L = 4 ∨ L = 5 ∨ L = 6 ∨ L = 7 ∨ L = 8 ∨ L = 9 ∨ L = 10 ∨ L = 11 ∨ L = 12 ∨ L = 13 → 1000 ≤ r1) → Fo id (pf [89] []) z0 (go L x2 x3 x4 x5 x6 x7 x8 x9 x10 x11 x12 x13 x14 x15 x16 x17 r1 t0 z)) (hz : fr (pf [89] []) z0 z) (hr1 : 1000 ≤ r1) : Fo id (pf [89] []) z0 (qm_X13_step_9 K go x2 x3 x4 x5 x6 x7 x8 x9 x10 x11 x12 x13 x14 x15 x16 x17 r1 t0 z) := by
  unfold qm_X13_step_9
  exact (fo_if (fo_if (fo_rdI (fun v29 => (fo_rdI (fun v30 => (fo_rdI (fun v31 => (fo_wrI (Or.inl (by decide)) hz (fun z32 h_z32 => (fo_some h_z32))))))))) (fo_rdI (fun v33 => (fo_rdI (fun v34 => (fo_rdI (fun v35 => (fo_wrI (Or.inl (by decide)) hz (fun z36 h_z36 => (fo_rdI (fun v37 => (fo_rdI (fun v38 => (fo_rdI (fun v39 => (fo_wrI (Or.inl (by decide)) h_z36 (fun z40 h_z40 => (fo_some h_z40)))))))))))))))))) (fo_if (hgo 10 _ _ _ _ _ _ _ _ _ _ _ _ _ _ _ _ _ _ z hz (fun _ => (by first | omega | decide))) (hgo 10 _ _ _ _ _ _ _ _ _ _ _ _ _ _ _ _ _ _ z hz (fun _ => (by first | omega | decide)))))
theorem fb_X13_step_10 {K : Nat} {z0 z : ow_MS}  {go : Nat → Int32 → Int32 → Int32 → Int32 → Int32 → Int32 → Int32 → Int32 → Int32 → Int32 → Int32 → Int32 → Int32 → Int32 → Int32 → Int32 → Nat → Int32 → ow_MS → Option ow_MS} {x2 : Int32} {x3 : Int32} {x4 : Int32} {x5 : Int32} {x6 : Int32} {x7 : Int32} {x8 : Int32} {x9 : Int32} {x10 : Int32} {x11 : Int32} {x12 : Int32} {x13 : Int32} {x14 : Int32} {x15 : Int32} {x16 : Int32} {x17 : Int32} {r1 : Nat} {t0 : Int32}  (hgo : ∀ (L : Nat) (x2 : Int32) (x3 : Int32) (x4 : Int32) (x5 : Int32) (x6 : Int32) (x7 : Int32) (x8 : Int32) (x9 : Int32) (x10 : Int32) (x11 : Int32) (x12 : Int32) (x13 : Int32) (x14 : Int32) (x15 : Int32) (x16 : Int32) (x17 : Int32) (r1 : Nat) (t0 : Int32) (z : ow_MS), fr (pf [89] []) z0 z → (L = 0 ∨ L = 1 ∨ L = 2 ∨ L = 3 ∨ L = 4 ∨ L = 5 ∨ L = 6 ∨ L = 7 ∨ L = 8 ∨ L = 9 ∨ L = 10 ∨ L = 11 ∨ L = 12 ∨ L = 13 → 1000 ≤ r1) → Fo id (pf [89] []) z0 (go L x2 x3 x4 x5 x6 x7 x8 x9 x10 x11 x12 x13 x14 x15 x16 x17 r1 t0 z)) (hz : fr (pf [89] []) z0 z) (hr1 : 1000 ≤ r1) : Fo id (pf [89] []) z0 (qm_X13_step_10 K go x2 x3 x4 x5 x6 x7 x8 x9 x10 x11 x12 x13 x14 x15 x16 x17 r1 t0 z) := by
  unfold qm_X13_step_10
  exact (fo_if (hgo 11 _ _ _ _ _ _ _ _ _ _ _ _ _ _ _ _ _ _ z hz (fun _ => (by first | omega | decide))) (fo_if (hgo 11 _ _ _ _ _ _ _ _ _ _ _ _ _ _ _ _ _ _ z hz (fun _ => (by first | omega | decide))) (fo_rdI (fun v41 => (fo_rdI (fun v42 => (fo_rdI (fun v43 => (fo_wrI (Or.inl (by decide)) hz (fun z44 h_z44 => (hgo 13 _ _ _ _ _ _ _ _ _ _ _ _ _ _ _ _ _ _ z44 h_z44 (fun _ => (by first | omega | decide)))))))))))))
theorem fb_X13_step_11 {K : Nat} {z0 z : ow_MS}  {go : Nat → Int32 → Int32 → Int32 → Int32 → Int32 → Int32 → Int32 → Int32 → Int32 → Int32 → Int32 → Int32 → Int32 → Int32 → Int32 → Int32 → Nat → Int32 → ow_MS → Option ow_MS} {x2 : Int32} {x3 : Int32} {x4 : Int32} {x5 : Int32} {x6 : Int32} {x7 : Int32} {x8 : Int32} {x9 : Int32} {x10 : Int32} {x11 : Int32} {x12 : Int32} {x13 : Int32} {x14 : Int32} {x15 : Int32} {x16 : Int32} {x17 : Int32} {r1 : Nat} {t0 : Int32}  (hgo : ∀ (L : Nat) (x2 : Int32) (x3 : Int32) (x4 : Int32) (x5 : Int32) (x6 : Int32) (x7 : Int32) (x8 : Int32) (x9 : Int32) (x10 : Int32) (x11 : Int32) (x12 : Int32) (x13 : Int32) (x14 : Int32) (x15 : Int32) (x16 : Int32) (x17 : Int32) (r1 : Nat) (t0 : Int32) (z : ow_MS), fr (pf [89] []) z0 z → (L = 0 ∨ L = 1 ∨ L = 2 ∨ L = 3 ∨ L = 4 ∨ L = 5 ∨ L = 6 ∨ L = 7 ∨ L = 8 ∨ L = 9 ∨ L = 10 ∨ L = 11 ∨ L = 12 ∨ L = 13 → 1000 ≤ r1) → Fo id (pf [89] []) z0 (go L x2 x3 x4 x5 x6 x7 x8 x9 x10 x11 x12 x13 x14 x15 x16 x17 r1 t0 z)) (hz : fr (pf [89] []) z0 z) (hr1 : 1000 ≤ r1) : Fo id (pf [89] []) z0 (qm_X13_step_11 K go x2 x3 x4 x5 x6 x7 x8 x9 x10 x11 x12 x13 x14 x15 x16 x17 r1 t0 z) := by
  unfold qm_X13_step_11
  exact (fo_if (fo_if (hgo 13 _ _ _ _ _ _ _ _ _ _ _ _ _ _ _ _ _ _ z hz (fun _ => (by first | omega | decide))) (hgo 12 _ _ _ _ _ _ _ _ _ _ _ _ _ _ _ _ _ _ z hz (fun _ => (by first | omega | decide)))) (hgo 12 _ _ _ _ _ _ _ _ _ _ _ _ _ _ _ _ _ _ z hz (fun _ => (by first | omega | decide))))
theorem fb_X13_step_12 {K : Nat} {z0 z : ow_MS}  {go : Nat → Int32 → Int32 → Int32 → Int32 → Int32 → Int32 → Int32 → Int32 → Int32 → Int32 → Int32 → Int32 → Int32 → Int32 → Int32 → Int32 → Nat → Int32 → ow_MS → Option ow_MS} {x2 : Int32} {x3 : Int32} {x4 : Int32} {x5 : Int32} {x6 : Int32} {x7 : Int32} {x8 : Int32} {x9 : Int32} {x10 : Int32} {x11 : Int32} {x12 : Int32} {x13 : Int32} {x14 : Int32} {x15 : Int32} {x16 : Int32} {x17 : Int32} {r1 : Nat} {t0 : Int32}  (hgo : ∀ (L : Nat) (x2 : Int32) (x3 : Int32) (x4 : Int32) (x5 : Int32) (x6 : Int32) (x7 : Int32) (x8 : Int32) (x9 : Int32) (x10 : Int32) (x11 : Int32) (x12 : Int32) (x13 : Int32) (x14 : Int32) (x15 : Int32) (x16 : Int32) (x17 : Int32) (r1 : Nat) (t0 : Int32) (z : ow_MS), fr (pf [89] []) z0 z → (L = 0 ∨ L = 1 ∨ L = 2 ∨ L = 3 ∨ L = 4 ∨ L = 5 ∨ L = 6 ∨ L = 7 ∨ L = 8 ∨ L = 9 ∨ L = 10 ∨ L = 11 ∨ L = 12 ∨ L = 13 → 1000 ≤ r1) → Fo id (pf [89] []) z0 (go L x2 x3 x4 x5 x6 x7 x8 x9 x10 x11 x12 x13 x14 x15 x16 x17 r1 t0 z)) (hz : fr (pf [89] []) z0 z) (hr1 : 1000 ≤ r1) : Fo id (pf [89] []) z0 (qm_X13_step_12 K go x2 x3 x4 x5 x6 x7 x8 x9 x10 x11 x12 x13 x14 x15 x16 x17 r1 t0 z) := by
  unfold qm_X13_step_12
  exact (fo_rdI (fun v45 => (fo_rdI (fun v46 => (fo_rdI (fun v47 => (fo_wrI (Or.inl (by decide)) hz (fun z48 h_z48 => (hgo 13 _ _ _ _ _ _ _ _ _ _ _ _ _ _ _ _ _ _ z48 h_z48 (fun _ => (by first | omega | decide)))))))))))
theorem fb_X13_step_13 {K : Nat} {z0 z : ow_MS}  {go : Nat → Int32 → Int32 → Int32 → Int32 → Int32 → Int32 → Int32 → Int32 → Int32 → Int32 → Int32 → Int32 → Int32 → Int32 → Int32 → Int32 → Nat → Int32 → ow_MS → Option ow_MS} {x2 : Int32} {x3 : Int32} {x4 : Int32} {x5 : Int32} {x6 : Int32} {x7 : Int32} {x8 : Int32} {x9 : Int32} {x10 : Int32} {x11 : Int32} {x12 : Int32} {x13 : Int32} {x14 : Int32} {x15 : Int32} {x16 : Int32} {x17 : Int32} {r1 : Nat} {t0 : Int32}  (hgo : ∀ (L : Nat) (x2 : Int32) (x3 : Int32) (x4 : Int32) (x5 : Int32) (x6 : Int32) (x7 : Int32) (x8 : Int32) (x9 : Int32) (x10 : Int32) (x11 : Int32) (x12 : Int32) (x13 : Int32) (x14 : Int32) (x15 : Int32) (x16 : Int32) (x17 : Int32) (r1 : Nat) (t0 : Int32) (z : ow_MS), fr (pf [89] []) z0 z → (L = 0 ∨ L = 1 ∨ L = 2 ∨ L = 3 ∨ L = 4 ∨ L = 5 ∨ L = 6 ∨ L = 7 ∨ L = 8 ∨ L = 9 ∨ L = 10 ∨ L = 11 ∨ L = 12 ∨ L = 13 → 1000 ≤ r1) → Fo id (pf [89] []) z0 (go L x2 x3 x4 x5 x6 x7 x8 x9 x10 x11 x12 x13 x14 x15 x16 x17 r1 t0 z)) (hz : fr (pf [89] []) z0 z) (hr1 : 1000 ≤ r1) : Fo id (pf [89] []) z0 (qm_X13_step_13 K go x2 x3 x4 x5 x6 x7 x8 x9 x10 x11 x12 x13 x14 x15 x16 x17 r1 t0 z) := by
  unfold qm_X13_step_13
  exact (fo_some hz)
theorem fq_X13_step {K : Nat} {z0 : ow_MS}   : ∀ (k L : Nat) (x2 : Int32) (x3 : Int32) (x4 : Int32) (x5 : Int32) (x6 : Int32) (x7 : Int32) (x8 : Int32) (x9 : Int32) (x10 : Int32) (x11 : Int32) (x12 : Int32) (x13 : Int32) (x14 : Int32) (x15 : Int32) (x16 : Int32) (x17 : Int32) (r1 : Nat) (t0 : Int32) (z : ow_MS), fr (pf [89] []) z0 z → (L = 0 ∨ L = 1 ∨ L = 2 ∨ L = 3 ∨ L = 4 ∨ L = 5 ∨ L = 6 ∨ L = 7 ∨ L = 8 ∨ L = 9 ∨ L = 10 ∨ L = 11 ∨ L = 12 ∨ L = 13 → 1000 ≤ r1) → Fo id (pf [89] []) z0 (q_X13_step K k L x2 x3 x4 x5 x6 x7 x8 x9 x10 x11 x12 x13 x14 x15 x16 x17 r1 t0 z)
  | 0 => by
    intros
    exact fo_none
  | k + 1 => by
    intro L x2 x3 x4 x5 x6 x7 x8 x9 x10 x11 x12 x13 x14 x15 x16 x17 r1 t0 z hz h9_r1
    show Fo id (pf [89] []) z0 (qb_X13_step K (q_X13_step K k) L x2 x3 x4 x5 x6 x7 x8 x9 x10 x11 x12 x13 x14 x15 x16 x17 r1 t0 z)
    unfold qb_X13_step
    split
    · exact fb_X13_step_0 (fq_X13_step k) hz (h9_r1 (by decide))
    · exact fb_X13_step_1 (fq_X13_step k) hz (h9_r1 (by decide))
    · exact fb_X13_step_2 (fq_X13_step k) hz (h9_r1 (by decide))
    · exact fb_X13_step_3 (fq_X13_step k) hz (h9_r1 (by decide))
    · exact fb_X13_step_4 (fq_X13_step k) hz (h9_r1 (by decide))
    · exact fb_X13_step_5 (fq_X13_step k) hz (h9_r1 (by decide))
    · exact fb_X13_step_6 (fq_X13_step k) hz (h9_r1 (by decide))
    · exact fb_X13_step_7 (fq_X13_step k) hz (h9_r1 (by decide))
    · exact fb_X13_step_8 (fq_X13_step k) hz (h9_r1 (by decide))
    · exact fb_X13_step_9 (fq_X13_step k) hz (h9_r1 (by decide))
    · exact fb_X13_step_10 (fq_X13_step k) hz (h9_r1 (by decide))
    · exact fb_X13_step_11 (fq_X13_step k) hz (h9_r1 (by decide))
    · exact fb_X13_step_12 (fq_X13_step k) hz (h9_r1 (by decide))
    · exact fb_X13_step_13 (fq_X13_step k) hz (h9_r1 (by decide))
    · exact fo_none
theorem ff_X13_step {K : Nat} {r1 : Nat} {x2 : Int32} {x3 : Int32} {x4 : Int32} {x5 : Int32} {z : ow_MS} (hr1 : 1000 ≤ r1) : Fo id (pf [89] []) z (qe_X13_step K r1 x2 x3 x4 x5 z) := fq_X13_step K 0 _ _ _ _ _ _ _ _ _ _ _ _ _ _ _ _ _ _ z fr_rf (fun _ => (by first | omega | decide))
theorem fb_X13_rankOf_0 {K : Nat} {z0 z : ow_MS}  {go : Nat → Int32 → Int32 → Int32 → Int32 → Int32 → Int32 → Int32 → Int32 → Int32 → Nat → Int32 → Int32 → ow_MS → Option (Int32 × ow_MS)} {x2 : Int32} {x3 : Int32} {x4 : Int32} {x5 : Int32} {x6 : Int32} {x7 : Int32} {x8 : Int32} {x9 : Int32} {x10 : Int32} {r1 : Nat} {t0 : Int32} {t1 : Int32}  (hgo : ∀ (L : Nat) (x2 : Int32) (x3 : Int32) (x4 : Int32) (x5 : Int32) (x6 : Int32) (x7 : Int32) (x8 : Int32) (x9 : Int32) (x10 : Int32) (r1 : Nat) (t0 : Int32) (t1 : Int32) (z : ow_MS), fr (pf [89, 90, 91, 92, 93] []) z0 z → (L = 0 ∨ L = 1 ∨ L = 2 ∨ L = 3 ∨ L = 4 ∨ L = 5 ∨ L = 6 ∨ L = 7 ∨ L = 8 ∨ L = 9 → 1000 ≤ r1) → Fo Prod.snd (pf [89, 90, 91, 92, 93] []) z0 (go L x2 x3 x4 x5 x6 x7 x8 x9 x10 r1 t0 t1 z)) (hz : fr (pf [89, 90, 91, 92, 93] []) z0 z) (hr1 : 1000 ≤ r1) : Fo Prod.snd (pf [89, 90, 91, 92, 93] []) z0 (qm_X13_rankOf_0 K go x2 x3 x4 x5 x6 x7 x8 x9 x10 r1 t0 t1 z) := by
  unfold qm_X13_rankOf_0
  exact (fo_rdI (fun v1 => (fo_if (fo_some hz) (fo_rdI (fun v2 => (fo_if (fo_some hz) (fo_rdF (fun v3 => (fo_nzI (hgo 1 _ _ _ _ _ _ _ _ _ _ _ _ z hz (fun _ => (by first | omega | decide))))))))))))
theorem fb_X13_rankOf_1 {K : Nat} {z0 z : ow_MS}  {go : Nat → Int32 → Int32 → Int32 → Int32 → Int32 → Int32 → Int32 → Int32 → Int32 → Nat → Int32 → Int32 → ow_MS → Option (Int32 × ow_MS)} {x2 : Int32} {x3 : Int32} {x4 : Int32} {x5 : Int32} {x6 : Int32} {x7 : Int32} {x8 : Int32} {x9 : Int32} {x10 : Int32} {r1 : Nat} {t0 : Int32} {t1 : Int32}  (hgo : ∀ (L : Nat) (x2 : Int32) (x3 : Int32) (x4 : Int32) (x5 : Int32) (x6 : Int32) (x7 : Int32) (x8 : Int32) (x9 : Int32) (x10 : Int32) (r1 : Nat) (t0 : Int32) (t1 : Int32) (z : ow_MS), fr (pf [89, 90, 91, 92, 93] []) z0 z → (L = 0 ∨ L = 1 ∨ L = 2 ∨ L = 3 ∨ L = 4 ∨ L = 5 ∨ L = 6 ∨ L = 7 ∨ L = 8 ∨ L = 9 → 1000 ≤ r1) → Fo Prod.snd (pf [89, 90, 91, 92, 93] []) z0 (go L x2 x3 x4 x5 x6 x7 x8 x9 x10 r1 t0 t1 z)) (hz : fr (pf [89, 90, 91, 92, 93] []) z0 z) (hr1 : 1000 ≤ r1) : Fo Prod.snd (pf [89, 90, 91, 92, 93] []) z0 (qm_X13_rankOf_1 K go x2 x3 x4 x5 x6 x7 x8 x9 x10 r1 t0 t1 z) := by
  unfold qm_X13_rankOf_1
  exact (fo_if (fo_wrF (Or.inl (by decide)) hz (fun z4 h_z4 => (hgo 2 _ _ _ _ _ _ _ _ _ _ _ _ z4 h_z4 (fun _ => (by first | omega | decide))))) (fo_wrI (Or.inl (by decide)) hz (fun z5 h_z5 => (hgo 1 _ _ _ _ _ _ _ _ _ _ _ _ z5 h_z5 (fun _ => (by first | omega | decide))))))
theorem fb_X13_rankOf_2 {K : Nat} {z0 z : ow_MS}  {go : Nat → Int32 → Int32 → Int32 → Int32 → Int32 → Int32 → Int32 → Int32 → Int32 → Nat → Int32 → Int32 → ow_MS → Option (Int32 × ow_MS)} {x2 : Int32} {x3 : Int32} {x4 : Int32} {x5 : Int32} {x6 : Int32} {x7 : Int32} {x8 : Int32} {x9 : Int32} {x10 : Int32} {r1 : Nat} {t0 : Int32} {t1 : Int32}  (hgo : ∀ (L : Nat) (x2 : Int32) (x3 : Int32) (x4 : Int32) (x5 : Int32) (x6 : Int32) (x7 : Int32) (x8 : Int32) (x9 : Int32) (x10 : Int32) (r1 : Nat) (t0 : Int32) (t1 : Int32) (z : ow_MS), fr (pf [89, 90, 91, 92, 93] []) z0 z → (L = 0 ∨ L = 1 ∨ L = 2 ∨ L = 3 ∨ L = 4 ∨ L = 5 ∨ L = 6 ∨ L = 7 ∨ L = 8 ∨ L = 9 → 1000 ≤ r1) → Fo Prod.snd (pf [89, 90, 91, 92, 93] []) z0 (go L x2 x3 x4 x5 x6 x7 x8 x9 x10 r1 t0 t1 z)) (hz : fr (pf [89, 90, 91, 92, 93] []) z0 z) (hr1 : 1000 ≤ r1) : Fo Prod.snd (pf [89, 90, 91, 92, 93] []) z0 (qm_X13_rankOf_2 K go x2 x3 x4 x5 x6 x7 x8 x9 x10 r1 t0 t1 z) := by
  unfold qm_X13_rankOf_2
  exact (fo_if (fo_some hz) (hgo 3 _ _ _ _ _ _ _ _ _ _ _ _ z hz (fun _ => (by first | omega | decide))))
theorem fb_X13_rankOf_3 {K : Nat} {z0 z : ow_MS}  {go : Nat → Int32 → Int32 → Int32 → Int32 → Int32 → Int32 → Int32 → Int32 → Int32 → Nat → Int32 → Int32 → ow_MS → Option (Int32 × ow_MS)} {x2 : Int32} {x3 : Int32} {x4 : Int32} {x5 : Int32} {x6 : Int32} {x7 : Int32} {x8 : Int32} {x9 : Int32} {x10 : Int32} {r1 : Nat} {t0 : Int32} {t1 : Int32}  (hgo : ∀ (L : Nat) (x2 : Int32) (x3 : Int32) (x4 : Int32) (x5 : Int32) (x6 : Int32) (x7 : Int32) (x8 : Int32) (x9 : Int32) (x10 : Int32) (r1 : Nat) (t0 : Int32) (t1 : Int32) (z : ow_MS), fr (pf [89, 90, 91, 92, 93] []) z0 z → (L = 0 ∨ L = 1 ∨ L = 2 ∨ L = 3 ∨ L = 4 ∨ L = 5 ∨ L = 6 ∨ L = 7 ∨ L = 8 ∨ L = 9 → 1000 ≤ r1) → Fo Prod.snd (pf [89, 90, 91, 92, 93] []) z0 (go L x2 x3 x4 x5 x6 x7 x8 x9 x10 r1 t0 t1 z)) (hz : fr (pf [89, 90, 91, 92, 93] []) z0 z) (hr1 : 1000 ≤ r1) : Fo Prod.snd (pf [89, 90, 91, 92, 93] []) z0 (qm_X13_rankOf_3 K go x2 x3 x4 x5 x6 x7 x8 x9 x10 r1 t0 t1 z) := by
  unfold qm_X13_rankOf_3
  exact (fo_if (fo_rdI (fun v7 => (fo_if (hgo 9 _ _ _ _ _ _ _ _ _ _ _ _ z hz (fun _ => (by first | omega | decide))) (fo_rdF (fun v8 => (fo_cs1 (ff_X13_qOf) (pf_sub (by decide) pf_0) hz (fun v10 z9 h_z9 => (fo_if (hgo 4 _ _ _ _ _ _ _ _ _ _ _ _ z9 h_z9 (fun _ => (by first | omega | decide))) (hgo 8 _ _ _ _ _ _ _ _ _ _ _ _ z9 h_z9 (fun _ => (by first | omega | decide))))))))))) (hgo 9 _ _ _ _ _ _ _ _ _ _ _ _ z hz (fun _ => (by first | omega | decide))))
theorem fb_X13_rankOf_4 {K : Nat} {z0 z : ow_MS}  {go : Nat → Int32 → Int32 → Int32 → Int32 → Int32 → Int32 → Int32 → Int32 → Int32 → Nat → Int32 → Int32 → ow_MS → Option (Int32 × ow_MS)} {x2 : Int32} {x3 : Int32} {x4 : Int32} {x5 : Int32} {x6 : Int32} {x7 : Int32} {x8 : Int32} {x9 : Int32} {x10 : Int32} {r1 : Nat} {t0 : Int32} {t1 : Int32}  (hgo : ∀ (L : Nat) (x2 : Int32) (x3 : Int32) (x4 : Int32) (x5 : Int32) (x6 : Int32) (x7 : Int32) (x8 : Int32) (x9 : Int32) (x10 : Int32) (r1 : Nat) (t0 : Int32) (t1 : Int32) (z : ow_MS), fr (pf [89, 90, 91, 92, 93] []) z0 z → (L = 0 ∨ L = 1 ∨ L = 2 ∨ L = 3 ∨ L = 4 ∨ L = 5 ∨ L = 6 ∨ L = 7 ∨ L = 8 ∨ L = 9 → 1000 ≤ r1) → Fo Prod.snd (pf [89, 90, 91, 92, 93] []) z0 (go L x2 x3 x4 x5 x6 x7 x8 x9 x10 r1 t0 t1 z)) (hz : fr (pf [89, 90, 91, 92, 93] []) z0 z) (hr1 : 1000 ≤ r1) : Fo Prod.snd (pf [89, 90, 91, 92, 93] []) z0 (qm_X13_rankOf_4 K go x2 x3 x4 x5 x6 x7 x8 x9 x10 r1 t0 t1 z) := by
  unfold qm_X13_rankOf_4
  exact (fo_if (hgo 5 _ _ _ _ _ _ _ _ _ _ _ _ z hz (fun _ => (by first | omega | decide))) (fo_wrI (Or.inl (by decide)) hz (fun z11 h_z11 => (hgo 4 _ _ _ _ _ _ _ _ _ _ _ _ z11 h_z11 (fun _ => (by first | omega | decide))))))
theorem fb_X13_rankOf_5 {K : Nat} {z0 z : ow_MS}  {go : Nat → Int32 → Int32 → Int32 → Int32 → Int32 → Int32 → Int32 → Int32 → Int32 → Nat → Int32 → Int32 → ow_MS → Option (Int32 × ow_MS)} {x2 : Int32} {x3 : Int32} {x4 : Int32} {x5 : Int32} {x6 : Int32} {x7 : Int32} {x8 : Int32} {x9 : Int32} {x10 : Int32} {r1 : Nat} {t0 : Int32} {t1 : Int32}  (hgo : ∀ (L : Nat) (x2 : Int32) (x3 : Int32) (x4 : Int32) (x5 : Int32) (x6 : Int32) (x7 : Int32) (x8 : Int32) (x9 : Int32) (x10 : Int32) (r1 : Nat) (t0 : Int32) (t1 : Int32) (z : ow_MS), fr (pf [89, 90, 91, 92, 93] []) z0 z → (L = 0 ∨ L = 1 ∨ L = 2 ∨ L = 3 ∨ L = 4 ∨ L = 5 ∨ L = 6 ∨ L = 7 ∨ L = 8 ∨ L = 9 → 1000 ≤ r1) → Fo Prod.snd (pf [89, 90, 91, 92, 93] []) z0 (go L x2 x3 x4 x5 x6 x7 x8 x9 x10 r1 t0 t1 z)) (hz : fr (pf [89, 90, 91, 92, 93] []) z0 z) (hr1 : 1000 ≤ r1) : Fo Prod.snd (pf [89, 90, 91, 92, 93] []) z0 (qm_X13_rankOf_5 K go x2 x3 x4 x5 x6 x7 x8 x9 x10 r1 t0 t1 z) := by
  unfold qm_X13_rankOf_5
  exact (fo_if (fo_cs1 (ff_X13_reduced) (pf_sub (by decide) pf_0) hz (fun v13 z12 h_z12 => (fo_if (hgo 7 _ _ _ _ _ _ _ _ _ _ _ _ z12 h_z12 (fun _ => (by first | omega | decide))) (hgo 7 _ _ _ _ _ _ _ _ _ _ _ _ z12 h_z12 (fun _ => (by first | omega | decide)))))) (fo_if (fo_cs0 (ff_X13_step (by first | omega | decide)) (pf_sub (by decide) pf_0) hz (fun z14 h_z14 => (hgo 6 _ _ _ _ _ _ _ _ _ _ _ _ z14 h_z14 (fun _ => (by first | omega | decide))))) (hgo 6 _ _ _ _ _ _ _ _ _ _ _ _ z hz (fun _ => (by first | omega | decide)))))
theorem fb_X13_rankOf_6 {K : Nat} {z0 z : ow_MS}  {go : Nat → Int32 → Int32 → Int32 → Int32 → Int32 → Int32 → Int32 → Int32 → Int32 → Nat → Int32 → Int32 → ow_MS → Option (Int32 × ow_MS)} {x2 : Int32} {x3 : Int32} {x4 : Int32} {x5 : Int32} {x6 : Int32} {x7 : Int32} {x8 : Int32} {x9 : Int32} {x10 : Int32} {r1 : Nat} {t0 : Int32} {t1 : Int32}  (hgo : ∀ (L : Nat) (x2 : Int32) (x3 : Int32) (x4 : Int32) (x5 : Int32) (x6 : Int32) (x7 : Int32) (x8 : Int32) (x9 : Int32) (x10 : Int32) (r1 : Nat) (t0 : Int32) (t1 : Int32) (z : ow_MS), fr (pf [89, 90, 91, 92, 93] []) z0 z → (L = 0 ∨ L = 1 ∨ L = 2 ∨ L = 3 ∨ L = 4 ∨ L = 5 ∨ L = 6 ∨ L = 7 ∨ L = 8 ∨ L = 9 → 1000 ≤ r1) → Fo Prod.snd (pf [89, 90, 91, 92, 93] []) z0 (go L x2 x3 x4 x5 x6 x7 x8 x9 x10 r1 t0 t1 z)) (hz : fr (pf [89, 90, 91, 92, 93] []) z0 z) (hr1 : 1000 ≤ r1) : Fo Prod.snd (pf [89, 90, 91, 92, 93] []) z0 (qm_X13_rankOf_6 K go x2 x3 x4 x5 x6 x7 x8 x9 x10 r1 t0 t1 z) := by
  unfold qm_X13_rankOf_6
  exact (hgo 5 _ _ _ _ _ _ _ _ _ _ _ _ z hz (fun _ => (by first | omega | decide)))
theorem fb_X13_rankOf_7 {K : Nat} {z0 z : ow_MS}  {go : Nat → Int32 → Int32 → Int32 → Int32 → Int32 → Int32 → Int32 → Int32 → Int32 → Nat → Int32 → Int32 → ow_MS → Option (Int32 × ow_MS)} {x2 : Int32} {x3 : Int32} {x4 : Int32} {x5 : Int32} {x6 : Int32} {x7 : Int32} {x8 : Int32} {x9 : Int32} {x10 : Int32} {r1 : Nat} {t0 : Int32} {t1 : Int32}  (hgo : ∀ (L : Nat) (x2 : Int32) (x3 : Int32) (x4 : Int32) (x5 : Int32) (x6 : Int32) (x7 : Int32) (x8 : Int32) (x9 : Int32) (x10 : Int32) (r1 : Nat) (t0 : Int32) (t1 : Int32) (z : ow_MS), fr (pf [89, 90, 91, 92, 93] []) z0 z → (L = 0 ∨ L = 1 ∨ L = 2 ∨ L = 3 ∨ L = 4 ∨ L = 5 ∨ L = 6 ∨ L = 7 ∨ L = 8 ∨ L = 9 → 1000 ≤ r1) → Fo Prod.snd (pf [89, 90, 91, 92, 93] []) z0 (go L x2 x3 x4 x5 x6 x7 x8 x9 x10 r1 t0 t1 z)) (hz : fr (pf [89, 90, 91, 92, 93] []) z0 z) (hr1 : 1000 ≤ r1) : Fo Prod.snd (pf [89, 90, 91, 92, 93] []) z0 (qm_X13_rankOf_7 K go x2 x3 x4 x5 x6 x7 x8 x9 x10 r1 t0 t1 z) := by
  unfold qm_X13_rankOf_7
  exact (hgo 8 _ _ _ _ _ _ _ _ _ _ _ _ z hz (fun _ => (by first | omega | decide)))
theorem fb_X13_rankOf_8 {K : Nat} {z0 z : ow_MS}  {go : Nat → Int32 → Int32 → Int32 → Int32 → Int32 → Int32 → Int32 → Int32 → Int32 → Nat → Int32 → Int32 → ow_MS → Option (Int32 × ow_MS)} {x2 : Int32} {x3 : Int32} {x4 : Int32} {x5 : Int32} {x6 : Int32} {x7 : Int32} {x8 : Int32} {x9 : Int32} {x10 : Int32} {r1 : Nat} {t0 : Int32} {t1 : Int32}  (hgo : ∀ (L : Nat) (x2 : Int32) (x3 : Int32) (x4 : Int32) (x5 : Int32) (x6 : Int32) (x7 : Int32) (x8 : Int32) (x9 : Int32) (x10 : Int32) (r1 : Nat) (t0 : Int32) (t1 : Int32) (z : ow_MS), fr (pf [89, 90, 91, 92, 93] []) z0 z → (L = 0 ∨ L = 1 ∨ L = 2 ∨ L = 3 ∨ L = 4 ∨ L = 5 ∨ L = 6 ∨ L = 7 ∨ L = 8 ∨ L = 9 → 1000 ≤ r1) → Fo Prod.snd (pf [89, 90, 91, 92, 93] []) z0 (go L x2 x3 x4 x5 x6 x7 x8 x9 x10 r1 t0 t1 z)) (hz : fr (pf [89, 90, 91, 92, 93] []) z0 z) (hr1 : 1000 ≤ r1) : Fo Prod.snd (pf [89, 90, 91, 92, 93] []) z0 (qm_X13_rankOf_8 K go x2 x3 x4 x5 x6 x7 x8 x9 x10 r1 t0 t1 z) := by
  unfold qm_X13_rankOf_8
  exact (hgo 3 _ _ _ _ _ _ _ _ _ _ _ _ z hz (fun _ => (by first | omega | decide)))
theorem fb_X13_rankOf_9 {K : Nat} {z0 z : ow_MS}  {go : Nat → Int32 → Int32 → Int32 → Int32 → Int32 → Int32 → Int32 → Int32 → Int32 → Nat → Int32 → Int32 → ow_MS → Option (Int32 × ow_MS)} {x2 : Int32} {x3 : Int32} {x4 : Int32} {x5 : Int32} {x6 : Int32} {x7 : Int32} {x8 : Int32} {x9 : Int32} {x10 : Int32} {r1 : Nat} {t0 : Int32} {t1 : Int32}  (hgo : ∀ (L : Nat) (x2 : Int32) (x3 : Int32) (x4 : Int32) (x5 : Int32) (x6 : Int32) (x7 : Int32) (x8 : Int32) (x9 : Int32) (x10 : Int32) (r1 : Nat) (t0 : Int32) (t1 : Int32) (z : ow_MS), fr (pf [89, 90, 91, 92, 93] []) z0 z → (L = 0 ∨ L = 1 ∨ L = 2 ∨ L = 3 ∨ L = 4 ∨ L = 5 ∨ L = 6 ∨ L = 7 ∨ L = 8 ∨ L = 9 → 1000 ≤ r1) → Fo Prod.snd (pf [89, 90, 91, 92, 93] []) z0 (go L x2 x3 x4 x5 x6 x7 x8 x9 x10 r1 t0 t1 z)) (hz : fr (pf [89, 90, 91, 92, 93] []) z0 z) (hr1 : 1000 ≤ r1) : Fo Prod.snd (pf [89, 90, 91, 92, 93] []) z0 (qm_X13_rankOf_9 K go x2 x3 x4 x5 x6 x7 x8 x9 x10 r1 t0 t1 z) := by
  unfold qm_X13_rankOf_9
  exact (hgo 2 _ _ _ _ _ _ _ _ _ _ _ _ z hz (fun _ => (by first | omega | decide)))
theorem fq_X13_rankOf {K : Nat} {z0 : ow_MS}   : ∀ (k L : Nat) (x2 : Int32) (x3 : Int32) (x4 : Int32) (x5 : Int32) (x6 : Int32) (x7 : Int32) (x8 : Int32) (x9 : Int32) (x10 : Int32) (r1 : Nat) (t0 : Int32) (t1 : Int32) (z : ow_MS), fr (pf [89, 90, 91, 92, 93] []) z0 z → (L = 0 ∨ L = 1 ∨ L = 2 ∨ L = 3 ∨ L = 4 ∨ L = 5 ∨ L = 6 ∨ L = 7 ∨ L = 8 ∨ L = 9 → 1000 ≤ r1) → Fo Prod.snd (pf [89, 90, 91, 92, 93] []) z0 (q_X13_rankOf K k L x2 x3 x4 x5 x6 x7 x8 x9 x10 r1 t0 t1 z)
  | 0 => by
    intros
    exact fo_none
  | k + 1 => by
    intro L x2 x3 x4 x5 x6 x7 x8 x9 x10 r1 t0 t1 z hz h9_r1
    show Fo Prod.snd (pf [89, 90, 91, 92, 93] []) z0 (qb_X13_rankOf K (q_X13_rankOf K k) L x2 x3 x4 x5 x6 x7 x8 x9 x10 r1 t0 t1 z)
    unfold qb_X13_rankOf
    split
    · exact fb_X13_rankOf_0 (fq_X13_rankOf k) hz (h9_r1 (by decide))
    · exact fb_X13_rankOf_1 (fq_X13_rankOf k) hz (h9_r1 (by decide))
    · exact fb_X13_rankOf_2 (fq_X13_rankOf k) hz (h9_r1 (by decide))
    · exact fb_X13_rankOf_3 (fq_X13_rankOf k) hz (h9_r1 (by decide))
    · exact fb_X13_rankOf_4 (fq_X13_rankOf k) hz (h9_r1 (by decide))
    · exact fb_X13_rankOf_5 (fq_X13_rankOf k) hz (h9_r1 (by decide))
    · exact fb_X13_rankOf_6 (fq_X13_rankOf k) hz (h9_r1 (by decide))
    · exact fb_X13_rankOf_7 (fq_X13_rankOf k) hz (h9_r1 (by decide))
    · exact fb_X13_rankOf_8 (fq_X13_rankOf k) hz (h9_r1 (by decide))
    · exact fb_X13_rankOf_9 (fq_X13_rankOf k) hz (h9_r1 (by decide))
    · exact fo_none
theorem ff_X13_rankOf {K : Nat} {r1 : Nat} {x2 : Int32} {x3 : Int32} {x4 : Int32} {z : ow_MS} (hr1 : 1000 ≤ r1) : Fo Prod.snd (pf [89, 90, 91, 92, 93] []) z (qe_X13_rankOf K r1 x2 x3 x4 z) := fq_X13_rankOf K 0 _ _ _ _ _ _ _ _ _ _ _ _ z fr_rf (fun _ => (by first | omega | decide))
theorem fb_X13_chain_0 {K : Nat} {z0 z : ow_MS}  {go : Nat → Int32 → Int32 → Int32 → Int32 → Int32 → Int32 → Int32 → Int32 → ow_MS → Option (Int32 × ow_MS)} {x1 : Int32} {x2 : Int32} {x3 : Int32} {x4 : Int32} {x5 : Int32} {x6 : Int32} {t0 : Int32} {t1 : Int32}  (hgo : ∀ (L : Nat) (x1 : Int32) (x2 : Int32) (x3 : Int32) (x4 : Int32) (x5 : Int32) (x6 : Int32) (t0 : Int32) (t1 : Int32) (z : ow_MS), fr (pf [1, 47, 81, 82, 83, 84, 85, 86, 87, 88, 89, 90, 91, 92, 93] []) z0 z → Fo Prod.snd (pf [1, 47, 81, 82, 83, 84, 85, 86, 87, 88, 89, 90, 91, 92, 93] []) z0 (go L x1 x2 x3 x4 x5 x6 t0 t1 z)) (hz : fr (pf [1, 47, 81, 82, 83, 84, 85, 86, 87, 88, 89, 90, 91, 92, 93] []) z0 z)  : Fo Prod.snd (pf [1, 47, 81, 82, 83, 84, 85, 86, 87, 88, 89, 90, 91, 92, 93] []) z0 (qm_X13_chain_0 K go x1 x2 x3 x4 x5 x6 t0 t1 z) := by
  unfold qm_X13_chain_0
  exact (fo_wrF (Or.inl (by decide)) hz (fun z1 h_z1 => (fo_cs1 (ff_X13_has) (pf_sub (by decide) pf_0) h_z1 (fun v3 z2 h_z2 => (fo_if (fo_cs1 (ff_X13_fails) (pf_sub (by decide) pf_0) h_z2 (fun v20 z19 h_z19 => (fo_some h_z19))) (fo_cs1 (ff_X13_isPrime) (pf_sub (by decide) pf_0) h_z2 (fun v5 z4 h_z4 => (fo_if (fo_cs1 (ff_X13_fails) (pf_sub (by decide) pf_0) h_z4 (fun v18 z17 h_z17 => (fo_some h_z17))) (fo_cs0 (ff_X13_open (by first | omega | decide)) (pf_sub (by decide) pf_0) h_z4 (fun z6 h_z6 => (fo_cs0 (ff_X12_split (by first | omega | decide)) (pf_sub (by decide) pf_0) h_z6 (fun z7 h_z7 => (fo_rdF (fun v8 => (fo_nzI (fo_rdF (fun v9 => (fo_if (fo_cs1 (ff_X13_writheOf (by first | omega | decide)) (pf_sub (by decide) pf_0) h_z7 (fun v11 z10 h_z10 => (fo_nzI (fo_wrF (Or.inl (by decide)) h_z10 (fun z12 h_z12 => (fo_cs0 (ff_X13_makeStates (by first | omega | decide)) (pf_sub (by decide) pf_0) h_z12 (fun z13 h_z13 => (fo_cs0 (ff_X13_placeAll) (pf_sub (by decide) pf_0) h_z13 (fun z14 h_z14 => (hgo 1 _ _ _ _ _ _ _ _ z14 h_z14)))))))))) (fo_cs1 (ff_X13_fails) (pf_sub (by decide) pf_0) h_z7 (fun v16 z15 h_z15 => (fo_some h_z15)))))))))))))))))))))
theorem fb_X13_chain_1 {K : Nat} {z0 z : ow_MS}  {go : Nat → Int32 → Int32 → Int32 → Int32 → Int32 → Int32 → Int32 → Int32 → ow_MS → Option (Int32 × ow_MS)} {x1 : Int32} {x2 : Int32} {x3 : Int32} {x4 : Int32} {x5 : Int32} {x6 : Int32} {t0 : Int32} {t1 : Int32}  (hgo : ∀ (L : Nat) (x1 : Int32) (x2 : Int32) (x3 : Int32) (x4 : Int32) (x5 : Int32) (x6 : Int32) (t0 : Int32) (t1 : Int32) (z : ow_MS), fr (pf [1, 47, 81, 82, 83, 84, 85, 86, 87, 88, 89, 90, 91, 92, 93] []) z0 z → Fo Prod.snd (pf [1, 47, 81, 82, 83, 84, 85, 86, 87, 88, 89, 90, 91, 92, 93] []) z0 (go L x1 x2 x3 x4 x5 x6 t0 t1 z)) (hz : fr (pf [1, 47, 81, 82, 83, 84, 85, 86, 87, 88, 89, 90, 91, 92, 93] []) z0 z)  : Fo Prod.snd (pf [1, 47, 81, 82, 83, 84, 85, 86, 87, 88, 89, 90, 91, 92, 93] []) z0 (qm_X13_chain_1 K go x1 x2 x3 x4 x5 x6 t0 t1 z) := by
  unfold qm_X13_chain_1
  exact (fo_if (fo_some hz) (hgo 2 _ _ _ _ _ _ _ _ z hz))
theorem fb_X13_chain_2 {K : Nat} {z0 z : ow_MS}  {go : Nat → Int32 → Int32 → Int32 → Int32 → Int32 → Int32 → Int32 → Int32 → ow_MS → Option (Int32 × ow_MS)} {x1 : Int32} {x2 : Int32} {x3 : Int32} {x4 : Int32} {x5 : Int32} {x6 : Int32} {t0 : Int32} {t1 : Int32}  (hgo : ∀ (L : Nat) (x1 : Int32) (x2 : Int32) (x3 : Int32) (x4 : Int32) (x5 : Int32) (x6 : Int32) (t0 : Int32) (t1 : Int32) (z : ow_MS), fr (pf [1, 47, 81, 82, 83, 84, 85, 86, 87, 88, 89, 90, 91, 92, 93] []) z0 z → Fo Prod.snd (pf [1, 47, 81, 82, 83, 84, 85, 86, 87, 88, 89, 90, 91, 92, 93] []) z0 (go L x1 x2 x3 x4 x5 x6 t0 t1 z)) (hz : fr (pf [1, 47, 81, 82, 83, 84, 85, 86, 87, 88, 89, 90, 91, 92, 93] []) z0 z)  : Fo Prod.snd (pf [1, 47, 81, 82, 83, 84, 85, 86, 87, 88, 89, 90, 91, 92, 93] []) z0 (qm_X13_chain_2 K go x1 x2 x3 x4 x5 x6 t0 t1 z) := by
  unfold qm_X13_chain_2
  exact (fo_if (hgo 3 _ _ _ _ _ _ _ _ z hz) (fo_cs1 (ff_X13_rankOf (by first | omega | decide)) (pf_sub (by decide) pf_0) hz (fun v22 z21 h_z21 => (fo_wrI (Or.inl (by decide)) h_z21 (fun z23 h_z23 => (hgo 2 _ _ _ _ _ _ _ _ z23 h_z23))))))
theorem fb_X13_chain_3 {K : Nat} {z0 z : ow_MS}  {go : Nat → Int32 → Int32 → Int32 → Int32 → Int32 → Int32 → Int32 → Int32 → ow_MS → Option (Int32 × ow_MS)} {x1 : Int32} {x2 : Int32} {x3 : Int32} {x4 : Int32} {x5 : Int32} {x6 : Int32} {t0 : Int32} {t1 : Int32}  (hgo : ∀ (L : Nat) (x1 : Int32) (x2 : Int32) (x3 : Int32) (x4 : Int32) (x5 : Int32) (x6 : Int32) (t0 : Int32) (t1 : Int32) (z : ow_MS), fr (pf [1, 47, 81, 82, 83, 84, 85, 86, 87, 88, 89, 90, 91, 92, 93] []) z0 z → Fo Prod.snd (pf [1, 47, 81, 82, 83, 84, 85, 86, 87, 88, 89, 90, 91, 92, 93] []) z0 (go L x1 x2 x3 x4 x5 x6 t0 t1 z)) (hz : fr (pf [1, 47, 81, 82, 83, 84, 85, 86, 87, 88, 89, 90, 91, 92, 93] []) z0 z)  : Fo Prod.snd (pf [1, 47, 81, 82, 83, 84, 85, 86, 87, 88, 89, 90, 91, 92, 93] []) z0 (qm_X13_chain_3 K go x1 x2 x3 x4 x5 x6 t0 t1 z) := by
  unfold qm_X13_chain_3
  exact (fo_if (hgo 1 _ _ _ _ _ _ _ _ z hz) (fo_rdI (fun v24 => (fo_rdI (fun v25 => (fo_if (hgo 4 _ _ _ _ _ _ _ _ z hz) (fo_rdI (fun v26 => (hgo 4 _ _ _ _ _ _ _ _ z hz)))))))))
theorem fb_X13_chain_4 {K : Nat} {z0 z : ow_MS}  {go : Nat → Int32 → Int32 → Int32 → Int32 → Int32 → Int32 → Int32 → Int32 → ow_MS → Option (Int32 × ow_MS)} {x1 : Int32} {x2 : Int32} {x3 : Int32} {x4 : Int32} {x5 : Int32} {x6 : Int32} {t0 : Int32} {t1 : Int32}  (hgo : ∀ (L : Nat) (x1 : Int32) (x2 : Int32) (x3 : Int32) (x4 : Int32) (x5 : Int32) (x6 : Int32) (t0 : Int32) (t1 : Int32) (z : ow_MS), fr (pf [1, 47, 81, 82, 83, 84, 85, 86, 87, 88, 89, 90, 91, 92, 93] []) z0 z → Fo Prod.snd (pf [1, 47, 81, 82, 83, 84, 85, 86, 87, 88, 89, 90, 91, 92, 93] []) z0 (go L x1 x2 x3 x4 x5 x6 t0 t1 z)) (hz : fr (pf [1, 47, 81, 82, 83, 84, 85, 86, 87, 88, 89, 90, 91, 92, 93] []) z0 z)  : Fo Prod.snd (pf [1, 47, 81, 82, 83, 84, 85, 86, 87, 88, 89, 90, 91, 92, 93] []) z0 (qm_X13_chain_4 K go x1 x2 x3 x4 x5 x6 t0 t1 z) := by
  unfold qm_X13_chain_4
  exact (fo_wrI (Or.inl (by decide)) hz (fun z27 h_z27 => (hgo 3 _ _ _ _ _ _ _ _ z27 h_z27)))
theorem fq_X13_chain {K : Nat} {z0 : ow_MS}   : ∀ (k L : Nat) (x1 : Int32) (x2 : Int32) (x3 : Int32) (x4 : Int32) (x5 : Int32) (x6 : Int32) (t0 : Int32) (t1 : Int32) (z : ow_MS), fr (pf [1, 47, 81, 82, 83, 84, 85, 86, 87, 88, 89, 90, 91, 92, 93] []) z0 z → Fo Prod.snd (pf [1, 47, 81, 82, 83, 84, 85, 86, 87, 88, 89, 90, 91, 92, 93] []) z0 (q_X13_chain K k L x1 x2 x3 x4 x5 x6 t0 t1 z)
  | 0 => by
    intros
    exact fo_none
  | k + 1 => by
    intro L x1 x2 x3 x4 x5 x6 t0 t1 z hz 
    show Fo Prod.snd (pf [1, 47, 81, 82, 83, 84, 85, 86, 87, 88, 89, 90, 91, 92, 93] []) z0 (qb_X13_chain K (q_X13_chain K k) L x1 x2 x3 x4 x5 x6 t0 t1 z)
    unfold qb_X13_chain
    split
    · exact fb_X13_chain_0 (fq_X13_chain k) hz 
    · exact fb_X13_chain_1 (fq_X13_chain k) hz 
    · exact fb_X13_chain_2 (fq_X13_chain k) hz 
    · exact fb_X13_chain_3 (fq_X13_chain k) hz 
    · exact fb_X13_chain_4 (fq_X13_chain k) hz 
    · exact fo_none
theorem ff_X13_chain {K : Nat} {x1 : Int32} {x2 : Int32} {z : ow_MS}  : Fo Prod.snd (pf [1, 47, 81, 82, 83, 84, 85, 86, 87, 88, 89, 90, 91, 92, 93] []) z (qe_X13_chain K x1 x2 z) := fq_X13_chain K 0 _ _ _ _ _ _ _ _ z fr_rf 
theorem fb_X13_rank_0 {K : Nat} {z0 z : ow_MS}  {go : Nat → Int32 → Int32 → Int64 → ow_MS → Option (Int32 × ow_MS)} {x1 : Int32} {x2 : Int32} {w3 : Int64}  (hgo : ∀ (L : Nat) (x1 : Int32) (x2 : Int32) (w3 : Int64) (z : ow_MS), fr (pf [1] []) z0 z → Fo Prod.snd (pf [1] []) z0 (go L x1 x2 w3 z)) (hz : fr (pf [1] []) z0 z)  : Fo Prod.snd (pf [1] []) z0 (qm_X13_rank_0 K go x1 x2 w3 z) := by
  unfold qm_X13_rank_0
  exact (fo_wrF (Or.inl (by decide)) hz (fun z1 h_z1 => (fo_rdF (fun v2 => (fo_if (hgo 1 _ _ _ z1 h_z1) (fo_if (hgo 1 _ _ _ z1 h_z1) (fo_if (hgo 1 _ _ _ z1 h_z1) (fo_if (fo_rdI (fun v3 => (fo_some h_z1))) (hgo 1 _ _ _ z1 h_z1)))))))))
theorem fb_X13_rank_1 {K : Nat} {z0 z : ow_MS}  {go : Nat → Int32 → Int32 → Int64 → ow_MS → Option (Int32 × ow_MS)} {x1 : Int32} {x2 : Int32} {w3 : Int64}  (hgo : ∀ (L : Nat) (x1 : Int32) (x2 : Int32) (w3 : Int64) (z : ow_MS), fr (pf [1] []) z0 z → Fo Prod.snd (pf [1] []) z0 (go L x1 x2 w3 z)) (hz : fr (pf [1] []) z0 z)  : Fo Prod.snd (pf [1] []) z0 (qm_X13_rank_1 K go x1 x2 w3 z) := by
  unfold qm_X13_rank_1
  exact (fo_some hz)
theorem fq_X13_rank {K : Nat} {z0 : ow_MS}   : ∀ (k L : Nat) (x1 : Int32) (x2 : Int32) (w3 : Int64) (z : ow_MS), fr (pf [1] []) z0 z → Fo Prod.snd (pf [1] []) z0 (q_X13_rank K k L x1 x2 w3 z)
  | 0 => by
    intros
    exact fo_none
  | k + 1 => by
    intro L x1 x2 w3 z hz 
    show Fo Prod.snd (pf [1] []) z0 (qb_X13_rank K (q_X13_rank K k) L x1 x2 w3 z)
    unfold qb_X13_rank
    split
    · exact fb_X13_rank_0 (fq_X13_rank k) hz 
    · exact fb_X13_rank_1 (fq_X13_rank k) hz 
    · exact fo_none
theorem ff_X13_rank {K : Nat} {x1 : Int32} {x2 : Int32} {z : ow_MS}  : Fo Prod.snd (pf [1] []) z (qe_X13_rank K x1 x2 z) := fq_X13_rank K 0 _ _ _ z fr_rf 
theorem fb_X13_run_0 {K : Nat} {z0 z : ow_MS}  {go : Nat → Int32 → Int32 → Int32 → Int32 → Int32 → Int32 → Int32 → Int32 → Int32 → ow_MS → Option (Int32 × ow_MS)} {x1 : Int32} {x2 : Int32} {x3 : Int32} {x4 : Int32} {x5 : Int32} {x6 : Int32} {t0 : Int32} {t1 : Int32} {t2 : Int32}  (hgo : ∀ (L : Nat) (x1 : Int32) (x2 : Int32) (x3 : Int32) (x4 : Int32) (x5 : Int32) (x6 : Int32) (t0 : Int32) (t1 : Int32) (t2 : Int32) (z : ow_MS), fr (pf [] []) z0 z → Fo Prod.snd (pf [] []) z0 (go L x1 x2 x3 x4 x5 x6 t0 t1 t2 z)) (hz : fr (pf [] []) z0 z)  : Fo Prod.snd (pf [] []) z0 (qm_X13_run_0 K go x1 x2 x3 x4 x5 x6 t0 t1 t2 z) := by
  unfold qm_X13_run_0
  exact (hgo 1 _ _ _ _ _ _ _ _ _ z hz)
theorem fb_X13_run_1 {K : Nat} {z0 z : ow_MS}  {go : Nat → Int32 → Int32 → Int32 → Int32 → Int32 → Int32 → Int32 → Int32 → Int32 → ow_MS → Option (Int32 × ow_MS)} {x1 : Int32} {x2 : Int32} {x3 : Int32} {x4 : Int32} {x5 : Int32} {x6 : Int32} {t0 : Int32} {t1 : Int32} {t2 : Int32}  (hgo : ∀ (L : Nat) (x1 : Int32) (x2 : Int32) (x3 : Int32) (x4 : Int32) (x5 : Int32) (x6 : Int32) (t0 : Int32) (t1 : Int32) (t2 : Int32) (z : ow_MS), fr (pf [] []) z0 z → Fo Prod.snd (pf [] []) z0 (go L x1 x2 x3 x4 x5 x6 t0 t1 t2 z)) (hz : fr (pf [] []) z0 z)  : Fo Prod.snd (pf [] []) z0 (qm_X13_run_1 K go x1 x2 x3 x4 x5 x6 t0 t1 t2 z) := by
  unfold qm_X13_run_1
  exact (fo_rdI (fun v1 => (fo_if (fo_some hz) (fo_rdI (fun v2 => (fo_if (hgo 2 _ _ _ _ _ _ _ _ _ z hz) (fo_if (hgo 2 _ _ _ _ _ _ _ _ _ z hz) (hgo 7 _ _ _ _ _ _ _ _ _ z hz))))))))
theorem fb_X13_run_2 {K : Nat} {z0 z : ow_MS}  {go : Nat → Int32 → Int32 → Int32 → Int32 → Int32 → Int32 → Int32 → Int32 → Int32 → ow_MS → Option (Int32 × ow_MS)} {x1 : Int32} {x2 : Int32} {x3 : Int32} {x4 : Int32} {x5 : Int32} {x6 : Int32} {t0 : Int32} {t1 : Int32} {t2 : Int32}  (hgo : ∀ (L : Nat) (x1 : Int32) (x2 : Int32) (x3 : Int32) (x4 : Int32) (x5 : Int32) (x6 : Int32) (t0 : Int32) (t1 : Int32) (t2 : Int32) (z : ow_MS), fr (pf [] []) z0 z → Fo Prod.snd (pf [] []) z0 (go L x1 x2 x3 x4 x5 x6 t0 t1 t2 z)) (hz : fr (pf [] []) z0 z)  : Fo Prod.snd (pf [] []) z0 (qm_X13_run_2 K go x1 x2 x3 x4 x5 x6 t0 t1 t2 z) := by
  unfold qm_X13_run_2
  exact (fo_if (hgo 3 _ _ _ _ _ _ _ _ _ z hz) (hgo 3 _ _ _ _ _ _ _ _ _ z hz))
theorem fb_X13_run_3 {K : Nat} {z0 z : ow_MS}  {go : Nat → Int32 → Int32 → Int32 → Int32 → Int32 → Int32 → Int32 → Int32 → Int32 → ow_MS → Option (Int32 × ow_MS)} {x1 : Int32} {x2 : Int32} {x3 : Int32} {x4 : Int32} {x5 : Int32} {x6 : Int32} {t0 : Int32} {t1 : Int32} {t2 : Int32}  (hgo : ∀ (L : Nat) (x1 : Int32) (x2 : Int32) (x3 : Int32) (x4 : Int32) (x5 : Int32) (x6 : Int32) (t0 : Int32) (t1 : Int32) (t2 : Int32) (z : ow_MS), fr (pf [] []) z0 z → Fo Prod.snd (pf [] []) z0 (go L x1 x2 x3 x4 x5 x6 t0 t1 t2 z)) (hz : fr (pf [] []) z0 z)  : Fo Prod.snd (pf [] []) z0 (qm_X13_run_3 K go x1 x2 x3 x4 x5 x6 t0 t1 t2 z) := by
  unfold qm_X13_run_3
  exact (fo_if (hgo 4 _ _ _ _ _ _ _ _ _ z hz) (hgo 4 _ _ _ _ _ _ _ _ _ z hz))
theorem fb_X13_run_4 {K : Nat} {z0 z : ow_MS}  {go : Nat → Int32 → Int32 → Int32 → Int32 → Int32 → Int32 → Int32 → Int32 → Int32 → ow_MS → Option (Int32 × ow_MS)} {x1 : Int32} {x2 : Int32} {x3 : Int32} {x4 : Int32} {x5 : Int32} {x6 : Int32} {t0 : Int32} {t1 : Int32} {t2 : Int32}  (hgo : ∀ (L : Nat) (x1 : Int32) (x2 : Int32) (x3 : Int32) (x4 : Int32) (x5 : Int32) (x6 : Int32) (t0 : Int32) (t1 : Int32) (t2 : Int32) (z : ow_MS), fr (pf [] []) z0 z → Fo Prod.snd (pf [] []) z0 (go L x1 x2 x3 x4 x5 x6 t0 t1 t2 z)) (hz : fr (pf [] []) z0 z)  : Fo Prod.snd (pf [] []) z0 (qm_X13_run_4 K go x1 x2 x3 x4 x5 x6 t0 t1 t2 z) := by
  unfold qm_X13_run_4
  exact (fo_if (hgo 5 _ _ _ _ _ _ _ _ _ z hz) (hgo 5 _ _ _ _ _ _ _ _ _ z hz))
theorem fb_X13_run_5 {K : Nat} {z0 z : ow_MS}  {go : Nat → Int32 → Int32 → Int32 → Int32 → Int32 → Int32 → Int32 → Int32 → Int32 → ow_MS → Option (Int32 × ow_MS)} {x1 : Int32} {x2 : Int32} {x3 : Int32} {x4 : Int32} {x5 : Int32} {x6 : Int32} {t0 : Int32} {t1 : Int32} {t2 : Int32}  (hgo : ∀ (L : Nat) (x1 : Int32) (x2 : Int32) (x3 : Int32) (x4 : Int32) (x5 : Int32) (x6 : Int32) (t0 : Int32) (t1 : Int32) (t2 : Int32) (z : ow_MS), fr (pf [] []) z0 z → Fo Prod.snd (pf [] []) z0 (go L x1 x2 x3 x4 x5 x6 t0 t1 t2 z)) (hz : fr (pf [] []) z0 z)  : Fo Prod.snd (pf [] []) z0 (qm_X13_run_5 K go x1 x2 x3 x4 x5 x6 t0 t1 t2 z) := by
  unfold qm_X13_run_5
  exact (fo_cs0 (ff_X12_add (by first | omega | decide)) (pf_sub (by decide) pf_0) hz (fun z3 h_z3 => (fo_if (hgo 6 _ _ _ _ _ _ _ _ _ z3 h_z3) (hgo 6 _ _ _ _ _ _ _ _ _ z3 h_z3))))
theorem fb_X13_run_6 {K : Nat} {z0 z : ow_MS}  {go : Nat → Int32 → Int32 → Int32 → Int32 → Int32 → Int32 → Int32 → Int32 → Int32 → ow_MS → Option (Int32 × ow_MS)} {x1 : Int32} {x2 : Int32} {x3 : Int32} {x4 : Int32} {x5 : Int32} {x6 : Int32} {t0 : Int32} {t1 : Int32} {t2 : Int32}  (hgo : ∀ (L : Nat) (x1 : Int32) (x2 : Int32) (x3 : Int32) (x4 : Int32) (x5 : Int32) (x6 : Int32) (t0 : Int32) (t1 : Int32) (t2 : Int32) (z : ow_MS), fr (pf [] []) z0 z → Fo Prod.snd (pf [] []) z0 (go L x1 x2 x3 x4 x5 x6 t0 t1 t2 z)) (hz : fr (pf [] []) z0 z)  : Fo Prod.snd (pf [] []) z0 (qm_X13_run_6 K go x1 x2 x3 x4 x5 x6 t0 t1 t2 z) := by
  unfold qm_X13_run_6
  exact (fo_wrI (Or.inr (Or.inr (by decide))) hz (fun z4 h_z4 => (hgo 7 _ _ _ _ _ _ _ _ _ z4 h_z4)))
theorem fb_X13_run_7 {K : Nat} {z0 z : ow_MS}  {go : Nat → Int32 → Int32 → Int32 → Int32 → Int32 → Int32 → Int32 → Int32 → Int32 → ow_MS → Option (Int32 × ow_MS)} {x1 : Int32} {x2 : Int32} {x3 : Int32} {x4 : Int32} {x5 : Int32} {x6 : Int32} {t0 : Int32} {t1 : Int32} {t2 : Int32}  (hgo : ∀ (L : Nat) (x1 : Int32) (x2 : Int32) (x3 : Int32) (x4 : Int32) (x5 : Int32) (x6 : Int32) (t0 : Int32) (t1 : Int32) (t2 : Int32) (z : ow_MS), fr (pf [] []) z0 z → Fo Prod.snd (pf [] []) z0 (go L x1 x2 x3 x4 x5 x6 t0 t1 t2 z)) (hz : fr (pf [] []) z0 z)  : Fo Prod.snd (pf [] []) z0 (qm_X13_run_7 K go x1 x2 x3 x4 x5 x6 t0 t1 t2 z) := by
  unfold qm_X13_run_7
  exact (hgo 1 _ _ _ _ _ _ _ _ _ z hz)
theorem fq_X13_run {K : Nat} {z0 : ow_MS}   : ∀ (k L : Nat) (x1 : Int32) (x2 : Int32) (x3 : Int32) (x4 : Int32) (x5 : Int32) (x6 : Int32) (t0 : Int32) (t1 : Int32) (t2 : Int32) (z : ow_MS), fr (pf [] []) z0 z → Fo Prod.snd (pf [] []) z0 (q_X13_run K k L x1 x2 x3 x4 x5 x6 t0 t1 t2 z)
  | 0 => by
    intros
    exact fo_none
  | k + 1 => by
    intro L x1 x2 x3 x4 x5 x6 t0 t1 t2 z hz 
    show Fo Prod.snd (pf [] []) z0 (qb_X13_run K (q_X13_run K k) L x1 x2 x3 x4 x5 x6 t0 t1 t2 z)
    unfold qb_X13_run
    split
    · exact fb_X13_run_0 (fq_X13_run k) hz 
    · exact fb_X13_run_1 (fq_X13_run k) hz 
    · exact fb_X13_run_2 (fq_X13_run k) hz 
    · exact fb_X13_run_3 (fq_X13_run k) hz 
    · exact fb_X13_run_4 (fq_X13_run k) hz 
    · exact fb_X13_run_5 (fq_X13_run k) hz 
    · exact fb_X13_run_6 (fq_X13_run k) hz 
    · exact fb_X13_run_7 (fq_X13_run k) hz 
    · exact fo_none
theorem ff_X13_run {K : Nat} {x1 : Int32} {x2 : Int32} {z : ow_MS}  : Fo Prod.snd (pf [] []) z (qe_X13_run K x1 x2 z) := fq_X13_run K 0 _ _ _ _ _ _ _ _ _ z fr_rf 
theorem fb_X13_close_0 {K : Nat} {z0 z : ow_MS}  {go : Nat → Int32 → Int32 → Int32 → ow_MS → Option ow_MS} {x1 : Int32} {x2 : Int32} {x3 : Int32}  (hgo : ∀ (L : Nat) (x1 : Int32) (x2 : Int32) (x3 : Int32) (z : ow_MS), fr (pf [120] []) z0 z → Fo id (pf [120] []) z0 (go L x1 x2 x3 z)) (hz : fr (pf [120] []) z0 z)  : Fo id (pf [120] []) z0 (qm_X13_close_0 K go x1 x2 x3 z) := by
  unfold qm_X13_close_0
  exact (fo_cs0 (ff_X12_clear (by first | omega | decide)) (pf_sub (by decide) pf_0) hz (fun z1 h_z1 => (hgo 1 _ _ _ z1 h_z1)))
theorem fb_X13_close_1 {K : Nat} {z0 z : ow_MS}  {go : Nat → Int32 → Int32 → Int32 → ow_MS → Option ow_MS} {x1 : Int32} {x2 : Int32} {x3 : Int32}  (hgo : ∀ (L : Nat) (x1 : Int32) (x2 : Int32) (x3 : Int32) (z : ow_MS), fr (pf [120] []) z0 z → Fo id (pf [120] []) z0 (go L x1 x2 x3 z)) (hz : fr (pf [120] []) z0 z)  : Fo id (pf [120] []) z0 (qm_X13_close_1 K go x1 x2 x3 z) := by
  unfold qm_X13_close_1
  exact (fo_if (hgo 2 _ _ _ z hz) (fo_wrZ (Or.inl (by decide)) hz (fun z2 h_z2 => (hgo 1 _ _ _ z2 h_z2))))
theorem fb_X13_close_2 {K : Nat} {z0 z : ow_MS}  {go : Nat → Int32 → Int32 → Int32 → ow_MS → Option ow_MS} {x1 : Int32} {x2 : Int32} {x3 : Int32}  (hgo : ∀ (L : Nat) (x1 : Int32) (x2 : Int32) (x3 : Int32) (z : ow_MS), fr (pf [120] []) z0 z → Fo id (pf [120] []) z0 (go L x1 x2 x3 z)) (hz : fr (pf [120] []) z0 z)  : Fo id (pf [120] []) z0 (qm_X13_close_2 K go x1 x2 x3 z) := by
  unfold qm_X13_close_2
  exact (fo_rdI (fun v3 => (fo_if (fo_some hz) (fo_rdI (fun v4 => (fo_if (hgo 3 _ _ _ z hz) (hgo 4 _ _ _ z hz)))))))
theorem fb_X13_close_3 {K : Nat} {z0 z : ow_MS}  {go : Nat → Int32 → Int32 → Int32 → ow_MS → Option ow_MS} {x1 : Int32} {x2 : Int32} {x3 : Int32}  (hgo : ∀ (L : Nat) (x1 : Int32) (x2 : Int32) (x3 : Int32) (z : ow_MS), fr (pf [120] []) z0 z → Fo id (pf [120] []) z0 (go L x1 x2 x3 z)) (hz : fr (pf [120] []) z0 z)  : Fo id (pf [120] []) z0 (qm_X13_close_3 K go x1 x2 x3 z) := by
  unfold qm_X13_close_3
  exact (fo_wrZ (Or.inl (by decide)) hz (fun z5 h_z5 => (fo_cs1 (ff_X13_run) (pf_sub (by decide) pf_0) h_z5 (fun v7 z6 h_z6 => (fo_if (fo_cs0 (ff_X12_end (by first | omega | decide)) (pf_sub (by decide) pf_0) h_z6 (fun z8 h_z8 => (hgo 4 _ _ _ z8 h_z8))) (hgo 3 _ _ _ z6 h_z6))))))
theorem fb_X13_close_4 {K : Nat} {z0 z : ow_MS}  {go : Nat → Int32 → Int32 → Int32 → ow_MS → Option ow_MS} {x1 : Int32} {x2 : Int32} {x3 : Int32}  (hgo : ∀ (L : Nat) (x1 : Int32) (x2 : Int32) (x3 : Int32) (z : ow_MS), fr (pf [120] []) z0 z → Fo id (pf [120] []) z0 (go L x1 x2 x3 z)) (hz : fr (pf [120] []) z0 z)  : Fo id (pf [120] []) z0 (qm_X13_close_4 K go x1 x2 x3 z) := by
  unfold qm_X13_close_4
  exact (hgo 2 _ _ _ z hz)
theorem fq_X13_close {K : Nat} {z0 : ow_MS}   : ∀ (k L : Nat) (x1 : Int32) (x2 : Int32) (x3 : Int32) (z : ow_MS), fr (pf [120] []) z0 z → Fo id (pf [120] []) z0 (q_X13_close K k L x1 x2 x3 z)
  | 0 => by
    intros
    exact fo_none
  | k + 1 => by
    intro L x1 x2 x3 z hz 
    show Fo id (pf [120] []) z0 (qb_X13_close K (q_X13_close K k) L x1 x2 x3 z)
    unfold qb_X13_close
    split
    · exact fb_X13_close_0 (fq_X13_close k) hz 
    · exact fb_X13_close_1 (fq_X13_close k) hz 
    · exact fb_X13_close_2 (fq_X13_close k) hz 
    · exact fb_X13_close_3 (fq_X13_close k) hz 
    · exact fb_X13_close_4 (fq_X13_close k) hz 
    · exact fo_none
theorem ff_X13_close {K : Nat} {x1 : Int32} {z : ow_MS}  : Fo id (pf [120] []) z (qe_X13_close K x1 z) := fq_X13_close K 0 _ _ _ z fr_rf 
theorem ff_X13_closure {K : Nat} {x1 : Int32} {z : ow_MS}  : Fo Prod.snd (pf [1, 2, 3, 4, 5, 6, 7, 8, 9, 12, 120] []) z (qe_X13_closure K x1 z) := by
  unfold qe_X13_closure qm_X13_closure_0
  exact (fo_wrF (Or.inl (by decide)) fr_rf (fun z1 h_z1 => (fo_cs1 (ff_X13_hasBraid) (pf_sub (by decide) pf_0) h_z1 (fun v3 z2 h_z2 => (fo_if (fo_cs1 (ff_X13_fails) (pf_sub (by decide) pf_0) h_z2 (fun v15 z14 h_z14 => (fo_some h_z14))) (fo_rdI (fun v4 => (fo_if (fo_cs1 (ff_X13_free) (pf_sub (by decide) pf_0) h_z2 (fun v6 z5 h_z5 => (fo_if (fo_cs1 (ff_X13_fails) (pf_sub (by decide) pf_0) h_z5 (fun v11 z10 h_z10 => (fo_some h_z10))) (fo_cs0 (ff_X13_close) (pf_sub (by decide) pf_0) h_z5 (fun z7 h_z7 => (fo_cs1 (ff_X13_keep) (pf_sub (by decide) pf_0) h_z7 (fun v9 z8 h_z8 => (fo_some h_z8)))))))) (fo_cs1 (ff_X13_fails) (pf_sub (by decide) pf_0) h_z2 (fun v13 z12 h_z12 => (fo_some h_z12)))))))))))
theorem fb_X13_product_0 {K : Nat} {z0 z : ow_MS}  {go : Nat → Int32 → Int32 → Int32 → Int32 → Int32 → Int32 → ow_MS → Option (Int32 × ow_MS)} {x1 : Int32} {x2 : Int32} {x3 : Int32} {x4 : Int32} {t0 : Int32} {t1 : Int32}  (hgo : ∀ (L : Nat) (x1 : Int32) (x2 : Int32) (x3 : Int32) (x4 : Int32) (t0 : Int32) (t1 : Int32) (z : ow_MS), fr (pf [1, 94, 95, 96] []) z0 z → Fo Prod.snd (pf [1, 94, 95, 96] []) z0 (go L x1 x2 x3 x4 t0 t1 z)) (hz : fr (pf [1, 94, 95, 96] []) z0 z)  : Fo Prod.snd (pf [1, 94, 95, 96] []) z0 (qm_X13_product_0 K go x1 x2 x3 x4 t0 t1 z) := by
  unfold qm_X13_product_0
  exact (fo_wrF (Or.inl (by decide)) hz (fun z1 h_z1 => (fo_cs1 (ff_X13_hasBraid) (pf_sub (by decide) pf_0) h_z1 (fun v3 z2 h_z2 => (fo_if (hgo 1 _ _ _ _ _ _ z2 h_z2) (fo_cs1 (ff_X13_hasBraid) (pf_sub (by decide) pf_0) h_z2 (fun v5 z4 h_z4 => (fo_if (hgo 1 _ _ _ _ _ _ z4 h_z4) (fo_rdI (fun v6 => (fo_rdI (fun v7 => (fo_if (fo_rdI (fun v8 => (fo_rdI (fun v9 => (fo_if (fo_cs1 (ff_X13_freeBraid) (pf_sub (by decide) pf_0) h_z4 (fun v11 z10 h_z10 => (fo_if (fo_cs1 (ff_X13_fails) (pf_sub (by decide) pf_0) h_z10 (fun v13 z12 h_z12 => (fo_some h_z12))) (hgo 2 _ _ _ _ _ _ z10 h_z10)))) (fo_cs1 (ff_X13_fails) (pf_sub (by decide) pf_0) h_z4 (fun v15 z14 h_z14 => (fo_some h_z14)))))))) (fo_cs1 (ff_X13_fails) (pf_sub (by decide) pf_0) h_z4 (fun v17 z16 h_z16 => (fo_some h_z16))))))))))))))))
theorem fb_X13_product_1 {K : Nat} {z0 z : ow_MS}  {go : Nat → Int32 → Int32 → Int32 → Int32 → Int32 → Int32 → ow_MS → Option (Int32 × ow_MS)} {x1 : Int32} {x2 : Int32} {x3 : Int32} {x4 : Int32} {t0 : Int32} {t1 : Int32}  (hgo : ∀ (L : Nat) (x1 : Int32) (x2 : Int32) (x3 : Int32) (x4 : Int32) (t0 : Int32) (t1 : Int32) (z : ow_MS), fr (pf [1, 94, 95, 96] []) z0 z → Fo Prod.snd (pf [1, 94, 95, 96] []) z0 (go L x1 x2 x3 x4 t0 t1 z)) (hz : fr (pf [1, 94, 95, 96] []) z0 z)  : Fo Prod.snd (pf [1, 94, 95, 96] []) z0 (qm_X13_product_1 K go x1 x2 x3 x4 t0 t1 z) := by
  unfold qm_X13_product_1
  exact (fo_cs1 (ff_X13_fails) (pf_sub (by decide) pf_0) hz (fun v19 z18 h_z18 => (fo_some h_z18)))
theorem fb_X13_product_2 {K : Nat} {z0 z : ow_MS}  {go : Nat → Int32 → Int32 → Int32 → Int32 → Int32 → Int32 → ow_MS → Option (Int32 × ow_MS)} {x1 : Int32} {x2 : Int32} {x3 : Int32} {x4 : Int32} {t0 : Int32} {t1 : Int32}  (hgo : ∀ (L : Nat) (x1 : Int32) (x2 : Int32) (x3 : Int32) (x4 : Int32) (t0 : Int32) (t1 : Int32) (z : ow_MS), fr (pf [1, 94, 95, 96] []) z0 z → Fo Prod.snd (pf [1, 94, 95, 96] []) z0 (go L x1 x2 x3 x4 t0 t1 z)) (hz : fr (pf [1, 94, 95, 96] []) z0 z)  : Fo Prod.snd (pf [1, 94, 95, 96] []) z0 (qm_X13_product_2 K go x1 x2 x3 x4 t0 t1 z) := by
  unfold qm_X13_product_2
  exact (fo_rdI (fun v20 => (fo_rdI (fun v21 => (fo_if (fo_rdI (fun v22 => (fo_rdI (fun v23 => (fo_wrI (Or.inl (by decide)) hz (fun z24 h_z24 => (fo_rdI (fun v25 => (fo_wrI (Or.inl (by decide)) h_z24 (fun z26 h_z26 => (fo_some h_z26))))))))))) (fo_rdI (fun v27 => (fo_if (fo_rdI (fun v28 => (fo_rdI (fun v29 => (hgo 3 _ _ _ _ _ _ z hz))))) (fo_rdI (fun v30 => (hgo 3 _ _ _ _ _ _ z hz)))))))))))
theorem fb_X13_product_3 {K : Nat} {z0 z : ow_MS}  {go : Nat → Int32 → Int32 → Int32 → Int32 → Int32 → Int32 → ow_MS → Option (Int32 × ow_MS)} {x1 : Int32} {x2 : Int32} {x3 : Int32} {x4 : Int32} {t0 : Int32} {t1 : Int32}  (hgo : ∀ (L : Nat) (x1 : Int32) (x2 : Int32) (x3 : Int32) (x4 : Int32) (t0 : Int32) (t1 : Int32) (z : ow_MS), fr (pf [1, 94, 95, 96] []) z0 z → Fo Prod.snd (pf [1, 94, 95, 96] []) z0 (go L x1 x2 x3 x4 t0 t1 z)) (hz : fr (pf [1, 94, 95, 96] []) z0 z)  : Fo Prod.snd (pf [1, 94, 95, 96] []) z0 (qm_X13_product_3 K go x1 x2 x3 x4 t0 t1 z) := by
  unfold qm_X13_product_3
  exact (fo_wrI (Or.inl (by decide)) hz (fun z31 h_z31 => (hgo 2 _ _ _ _ _ _ z31 h_z31)))
theorem fq_X13_product {K : Nat} {z0 : ow_MS}   : ∀ (k L : Nat) (x1 : Int32) (x2 : Int32) (x3 : Int32) (x4 : Int32) (t0 : Int32) (t1 : Int32) (z : ow_MS), fr (pf [1, 94, 95, 96] []) z0 z → Fo Prod.snd (pf [1, 94, 95, 96] []) z0 (q_X13_product K k L x1 x2 x3 x4 t0 t1 z)
  | 0 => by
    intros
    exact fo_none
  | k + 1 => by
    intro L x1 x2 x3 x4 t0 t1 z hz 
    show Fo Prod.snd (pf [1, 94, 95, 96] []) z0 (qb_X13_product K (q_X13_product K k) L x1 x2 x3 x4 t0 t1 z)
    unfold qb_X13_product
    split
    · exact fb_X13_product_0 (fq_X13_product k) hz 
    · exact fb_X13_product_1 (fq_X13_product k) hz 
    · exact fb_X13_product_2 (fq_X13_product k) hz 
    · exact fb_X13_product_3 (fq_X13_product k) hz 
    · exact fo_none
theorem ff_X13_product {K : Nat} {x1 : Int32} {x2 : Int32} {z : ow_MS}  : Fo Prod.snd (pf [1, 94, 95, 96] []) z (qe_X13_product K x1 x2 z) := fq_X13_product K 0 _ _ _ _ _ _ z fr_rf 
theorem fb_X13_inverse_0 {K : Nat} {z0 z : ow_MS}  {go : Nat → Int32 → Int32 → Int32 → ow_MS → Option (Int32 × ow_MS)} {x1 : Int32} {x2 : Int32} {x3 : Int32}  (hgo : ∀ (L : Nat) (x1 : Int32) (x2 : Int32) (x3 : Int32) (z : ow_MS), fr (pf [1, 94, 95, 96] []) z0 z → Fo Prod.snd (pf [1, 94, 95, 96] []) z0 (go L x1 x2 x3 z)) (hz : fr (pf [1, 94, 95, 96] []) z0 z)  : Fo Prod.snd (pf [1, 94, 95, 96] []) z0 (qm_X13_inverse_0 K go x1 x2 x3 z) := by
  unfold qm_X13_inverse_0
  exact (fo_wrF (Or.inl (by decide)) hz (fun z1 h_z1 => (fo_cs1 (ff_X13_hasBraid) (pf_sub (by decide) pf_0) h_z1 (fun v3 z2 h_z2 => (fo_if (fo_cs1 (ff_X13_fails) (pf_sub (by decide) pf_0) h_z2 (fun v9 z8 h_z8 => (fo_some h_z8))) (fo_cs1 (ff_X13_freeBraid) (pf_sub (by decide) pf_0) h_z2 (fun v5 z4 h_z4 => (fo_if (fo_cs1 (ff_X13_fails) (pf_sub (by decide) pf_0) h_z4 (fun v7 z6 h_z6 => (fo_some h_z6))) (hgo 1 _ _ _ z4 h_z4)))))))))
theorem fb_X13_inverse_1 {K : Nat} {z0 z : ow_MS}  {go : Nat → Int32 → Int32 → Int32 → ow_MS → Option (Int32 × ow_MS)} {x1 : Int32} {x2 : Int32} {x3 : Int32}  (hgo : ∀ (L : Nat) (x1 : Int32) (x2 : Int32) (x3 : Int32) (z : ow_MS), fr (pf [1, 94, 95, 96] []) z0 z → Fo Prod.snd (pf [1, 94, 95, 96] []) z0 (go L x1 x2 x3 z)) (hz : fr (pf [1, 94, 95, 96] []) z0 z)  : Fo Prod.snd (pf [1, 94, 95, 96] []) z0 (qm_X13_inverse_1 K go x1 x2 x3 z) := by
  unfold qm_X13_inverse_1
  exact (fo_rdI (fun v10 => (fo_if (fo_rdI (fun v11 => (fo_wrI (Or.inl (by decide)) hz (fun z12 h_z12 => (fo_rdI (fun v13 => (fo_wrI (Or.inl (by decide)) h_z12 (fun z14 h_z14 => (fo_some h_z14))))))))) (fo_rdI (fun v15 => (fo_rdI (fun v16 => (fo_wrI (Or.inl (by decide)) hz (fun z17 h_z17 => (hgo 1 _ _ _ z17 h_z17))))))))))
theorem fq_X13_inverse {K : Nat} {z0 : ow_MS}   : ∀ (k L : Nat) (x1 : Int32) (x2 : Int32) (x3 : Int32) (z : ow_MS), fr (pf [1, 94, 95, 96] []) z0 z → Fo Prod.snd (pf [1, 94, 95, 96] []) z0 (q_X13_inverse K k L x1 x2 x3 z)
  | 0 => by
    intros
    exact fo_none
  | k + 1 => by
    intro L x1 x2 x3 z hz 
    show Fo Prod.snd (pf [1, 94, 95, 96] []) z0 (qb_X13_inverse K (q_X13_inverse K k) L x1 x2 x3 z)
    unfold qb_X13_inverse
    split
    · exact fb_X13_inverse_0 (fq_X13_inverse k) hz 
    · exact fb_X13_inverse_1 (fq_X13_inverse k) hz 
    · exact fo_none
theorem ff_X13_inverse {K : Nat} {x1 : Int32} {z : ow_MS}  : Fo Prod.snd (pf [1, 94, 95, 96] []) z (qe_X13_inverse K x1 z) := fq_X13_inverse K 0 _ _ _ z fr_rf 
theorem fb_X13_begins_0 {K : Nat} {z0 z : ow_MS}  {go : Nat → Int32 → Int32 → Int32 → Int32 → Int32 → Int32 → Int32 → ow_MS → Option (Int32 × ow_MS)} {x1 : Int32} {x2 : Int32} {x3 : Int32} {x4 : Int32} {x5 : Int32} {x6 : Int32} {x7 : Int32}  (hgo : ∀ (L : Nat) (x1 : Int32) (x2 : Int32) (x3 : Int32) (x4 : Int32) (x5 : Int32) (x6 : Int32) (x7 : Int32) (z : ow_MS), fr (pf [110, 111] []) z0 z → Fo Prod.snd (pf [110, 111] []) z0 (go L x1 x2 x3 x4 x5 x6 x7 z)) (hz : fr (pf [110, 111] []) z0 z)  : Fo Prod.snd (pf [110, 111] []) z0 (qm_X13_begins_0 K go x1 x2 x3 x4 x5 x6 x7 z) := by
  unfold qm_X13_begins_0
  exact (fo_rdI (fun v1 => (fo_wrF (Or.inl (by decide)) hz (fun z2 h_z2 => (hgo 1 _ _ _ _ _ _ _ z2 h_z2)))))
theorem fb_X13_begins_1 {K : Nat} {z0 z : ow_MS}  {go : Nat → Int32 → Int32 → Int32 → Int32 → Int32 → Int32 → Int32 → ow_MS → Option (Int32 × ow_MS)} {x1 : Int32} {x2 : Int32} {x3 : Int32} {x4 : Int32} {x5 : Int32} {x6 : Int32} {x7 : Int32}  (hgo : ∀ (L : Nat) (x1 : Int32) (x2 : Int32) (x3 : Int32) (x4 : Int32) (x5 : Int32) (x6 : Int32) (x7 : Int32) (z : ow_MS), fr (pf [110, 111] []) z0 z → Fo Prod.snd (pf [110, 111] []) z0 (go L x1 x2 x3 x4 x5 x6 x7 z)) (hz : fr (pf [110, 111] []) z0 z)  : Fo Prod.snd (pf [110, 111] []) z0 (qm_X13_begins_1 K go x1 x2 x3 x4 x5 x6 x7 z) := by
  unfold qm_X13_begins_1
  exact (fo_rdF (fun v3 => (fo_if (fo_if (fo_okZ (fo_some hz)) (fo_okZ (fo_some hz))) (fo_if (fo_rdF (fun v6 => (fo_rdI (fun v7 => (fo_wrI (Or.inl (by decide)) hz (fun z8 h_z8 => (fo_rdF (fun v9 => (fo_wrF (Or.inl (by decide)) h_z8 (fun z10 h_z10 => (hgo 3 _ _ _ _ _ _ _ z10 h_z10))))))))))) (fo_rdI (fun v4 => (fo_rdI (fun v5 => (hgo 2 _ _ _ _ _ _ _ z hz)))))))))
theorem fb_X13_begins_2 {K : Nat} {z0 z : ow_MS}  {go : Nat → Int32 → Int32 → Int32 → Int32 → Int32 → Int32 → Int32 → ow_MS → Option (Int32 × ow_MS)} {x1 : Int32} {x2 : Int32} {x3 : Int32} {x4 : Int32} {x5 : Int32} {x6 : Int32} {x7 : Int32}  (hgo : ∀ (L : Nat) (x1 : Int32) (x2 : Int32) (x3 : Int32) (x4 : Int32) (x5 : Int32) (x6 : Int32) (x7 : Int32) (z : ow_MS), fr (pf [110, 111] []) z0 z → Fo Prod.snd (pf [110, 111] []) z0 (go L x1 x2 x3 x4 x5 x6 x7 z)) (hz : fr (pf [110, 111] []) z0 z)  : Fo Prod.snd (pf [110, 111] []) z0 (qm_X13_begins_2 K go x1 x2 x3 x4 x5 x6 x7 z) := by
  unfold qm_X13_begins_2
  exact (fo_rdI (fun v11 => (fo_if (fo_rdI (fun v12 => (hgo 3 _ _ _ _ _ _ _ z hz))) (fo_rdF (fun v13 => (fo_rdI (fun v14 => (fo_wrI (Or.inl (by decide)) hz (fun z15 h_z15 => (fo_rdF (fun v16 => (fo_wrF (Or.inl (by decide)) h_z15 (fun z17 h_z17 => (hgo 2 _ _ _ _ _ _ _ z17 h_z17))))))))))))))
theorem fb_X13_begins_3 {K : Nat} {z0 z : ow_MS}  {go : Nat → Int32 → Int32 → Int32 → Int32 → Int32 → Int32 → Int32 → ow_MS → Option (Int32 × ow_MS)} {x1 : Int32} {x2 : Int32} {x3 : Int32} {x4 : Int32} {x5 : Int32} {x6 : Int32} {x7 : Int32}  (hgo : ∀ (L : Nat) (x1 : Int32) (x2 : Int32) (x3 : Int32) (x4 : Int32) (x5 : Int32) (x6 : Int32) (x7 : Int32) (z : ow_MS), fr (pf [110, 111] []) z0 z → Fo Prod.snd (pf [110, 111] []) z0 (go L x1 x2 x3 x4 x5 x6 x7 z)) (hz : fr (pf [110, 111] []) z0 z)  : Fo Prod.snd (pf [110, 111] []) z0 (qm_X13_begins_3 K go x1 x2 x3 x4 x5 x6 x7 z) := by
  unfold qm_X13_begins_3
  exact (hgo 1 _ _ _ _ _ _ _ z hz)
theorem fq_X13_begins {K : Nat} {z0 : ow_MS}   : ∀ (k L : Nat) (x1 : Int32) (x2 : Int32) (x3 : Int32) (x4 : Int32) (x5 : Int32) (x6 : Int32) (x7 : Int32) (z : ow_MS), fr (pf [110, 111] []) z0 z → Fo Prod.snd (pf [110, 111] []) z0 (q_X13_begins K k L x1 x2 x3 x4 x5 x6 x7 z)
  | 0 => by
    intros
    exact fo_none
  | k + 1 => by
    intro L x1 x2 x3 x4 x5 x6 x7 z hz 
    show Fo Prod.snd (pf [110, 111] []) z0 (qb_X13_begins K (q_X13_begins K k) L x1 x2 x3 x4 x5 x6 x7 z)
    unfold qb_X13_begins
    split
    · exact fb_X13_begins_0 (fq_X13_begins k) hz 
    · exact fb_X13_begins_1 (fq_X13_begins k) hz 
    · exact fb_X13_begins_2 (fq_X13_begins k) hz 
    · exact fb_X13_begins_3 (fq_X13_begins k) hz 
    · exact fo_none
theorem ff_X13_begins {K : Nat} {x1 : Int32} {x2 : Int32} {z : ow_MS}  : Fo Prod.snd (pf [110, 111] []) z (qe_X13_begins K x1 x2 z) := fq_X13_begins K 0 _ _ _ _ _ _ _ z fr_rf 
theorem fb_X13_normalise_0 {K : Nat} {z0 z : ow_MS}  {go : Nat → Int32 → Int32 → Int32 → Int32 → Int32 → Int32 → Int32 → Int32 → ow_MS → Option ow_MS} {x1 : Int32} {x2 : Int32} {x3 : Int32} {x4 : Int32} {x5 : Int32} {x6 : Int32} {x7 : Int32} {x8 : Int32}  (hgo : ∀ (L : Nat) (x1 : Int32) (x2 : Int32) (x3 : Int32) (x4 : Int32) (x5 : Int32) (x6 : Int32) (x7 : Int32) (x8 : Int32) (z : ow_MS), fr (pf [108, 109, 110, 111, 112, 113, 114] []) z0 z → Fo id (pf [108, 109, 110, 111, 112, 113, 114] []) z0 (go L x1 x2 x3 x4 x5 x6 x7 x8 z)) (hz : fr (pf [108, 109, 110, 111, 112, 113, 114] []) z0 z)  : Fo id (pf [108, 109, 110, 111, 112, 113, 114] []) z0 (qm_X13_normalise_0 K go x1 x2 x3 x4 x5 x6 x7 x8 z) := by
  unfold qm_X13_normalise_0
  exact (fo_wrF (Or.inl (by decide)) hz (fun z1 h_z1 => (fo_wrF (Or.inl (by decide)) h_z1 (fun z2 h_z2 => (fo_rdI (fun v3 => (hgo 1 _ _ _ _ _ _ _ _ z2 h_z2)))))))
theorem fb_X13_normalise_1 {K : Nat} {z0 z : ow_MS}  {go : Nat → Int32 → Int32 → Int32 → Int32 → Int32 → Int32 → Int32 → Int32 → ow_MS → Option ow_MS} {x1 : Int32} {x2 : Int32} {x3 : Int32} {x4 : Int32} {x5 : Int32} {x6 : Int32} {x7 : Int32} {x8 : Int32}  (hgo : ∀ (L : Nat) (x1 : Int32) (x2 : Int32) (x3 : Int32) (x4 : Int32) (x5 : Int32) (x6 : Int32) (x7 : Int32) (x8 : Int32) (z : ow_MS), fr (pf [108, 109, 110, 111, 112, 113, 114] []) z0 z → Fo id (pf [108, 109, 110, 111, 112, 113, 114] []) z0 (go L x1 x2 x3 x4 x5 x6 x7 x8 z)) (hz : fr (pf [108, 109, 110, 111, 112, 113, 114] []) z0 z)  : Fo id (pf [108, 109, 110, 111, 112, 113, 114] []) z0 (qm_X13_normalise_1 K go x1 x2 x3 x4 x5 x6 x7 x8 z) := by
  unfold qm_X13_normalise_1
  exact (fo_rdF (fun v4 => (fo_if (fo_some hz) (hgo 2 _ _ _ _ _ _ _ _ z hz))))
theorem fb_X13_normalise_2 {K : Nat} {z0 z : ow_MS}  {go : Nat → Int32 → Int32 → Int32 → Int32 → Int32 → Int32 → Int32 → Int32 → ow_MS → Option ow_MS} {x1 : Int32} {x2 : Int32} {x3 : Int32} {x4 : Int32} {x5 : Int32} {x6 : Int32} {x7 : Int32} {x8 : Int32}  (hgo : ∀ (L : Nat) (x1 : Int32) (x2 : Int32) (x3 : Int32) (x4 : Int32) (x5 : Int32) (x6 : Int32) (x7 : Int32) (x8 : Int32) (z : ow_MS), fr (pf [108, 109, 110, 111, 112, 113, 114] []) z0 z → Fo id (pf [108, 109, 110, 111, 112, 113, 114] []) z0 (go L x1 x2 x3 x4 x5 x6 x7 x8 z)) (hz : fr (pf [108, 109, 110, 111, 112, 113, 114] []) z0 z)  : Fo id (pf [108, 109, 110, 111, 112, 113, 114] []) z0 (qm_X13_normalise_2 K go x1 x2 x3 x4 x5 x6 x7 x8 z) := by
  unfold qm_X13_normalise_2
  exact (fo_if (fo_if (fo_rdF (fun v9 => (fo_wrF (Or.inl (by decide)) hz (fun z10 h_z10 => (hgo 7 _ _ _ _ _ _ _ _ z10 h_z10))))) (fo_rdF (fun v5 => (fo_wrI (Or.inl (by decide)) hz (fun z6 h_z6 => (fo_rdF (fun v7 => (fo_wrF (Or.inl (by decide)) h_z6 (fun z8 h_z8 => (hgo 7 _ _ _ _ _ _ _ _ z8 h_z8)))))))))) (hgo 3 _ _ _ _ _ _ _ _ z hz))
theorem fb_X13_normalise_3 {K : Nat} {z0 z : ow_MS}  {go : Nat → Int32 → Int32 → Int32 → Int32 → Int32 → Int32 → Int32 → Int32 → ow_MS → Option ow_MS} {x1 : Int32} {x2 : Int32} {x3 : Int32} {x4 : Int32} {x5 : Int32} {x6 : Int32} {x7 : Int32} {x8 : Int32}  (hgo : ∀ (L : Nat) (x1 : Int32) (x2 : Int32) (x3 : Int32) (x4 : Int32) (x5 : Int32) (x6 : Int32) (x7 : Int32) (x8 : Int32) (z : ow_MS), fr (pf [108, 109, 110, 111, 112, 113, 114] []) z0 z → Fo id (pf [108, 109, 110, 111, 112, 113, 114] []) z0 (go L x1 x2 x3 x4 x5 x6 x7 x8 z)) (hz : fr (pf [108, 109, 110, 111, 112, 113, 114] []) z0 z)  : Fo id (pf [108, 109, 110, 111, 112, 113, 114] []) z0 (qm_X13_normalise_3 K go x1 x2 x3 x4 x5 x6 x7 x8 z) := by
  unfold qm_X13_normalise_3
  exact (fo_if (hgo 6 _ _ _ _ _ _ _ _ z hz) (fo_if (fo_rdI (fun v11 => (fo_if (hgo 5 _ _ _ _ _ _ _ _ z hz) (fo_rdF (fun v12 => (fo_if (hgo 5 _ _ _ _ _ _ _ _ z hz) (fo_cs1 (ff_X13_begins) (pf_sub (by decide) pf_0) hz (fun v14 z13 h_z13 => (fo_if (hgo 5 _ _ _ _ _ _ _ _ z13 h_z13) (fo_rdF (fun v15 => (fo_wrF (Or.inl (by decide)) h_z13 (fun z16 h_z16 => (hgo 4 _ _ _ _ _ _ _ _ z16 h_z16)))))))))))))) (hgo 6 _ _ _ _ _ _ _ _ z hz)))
theorem fb_X13_normalise_4 {K : Nat} {z0 z : ow_MS}  {go : Nat → Int32 → Int32 → Int32 → Int32 → Int32 → Int32 → Int32 → Int32 → ow_MS → Option ow_MS} {x1 : Int32} {x2 : Int32} {x3 : Int32} {x4 : Int32} {x5 : Int32} {x6 : Int32} {x7 : Int32} {x8 : Int32}  (hgo : ∀ (L : Nat) (x1 : Int32) (x2 : Int32) (x3 : Int32) (x4 : Int32) (x5 : Int32) (x6 : Int32) (x7 : Int32) (x8 : Int32) (z : ow_MS), fr (pf [108, 109, 110, 111, 112, 113, 114] []) z0 z → Fo id (pf [108, 109, 110, 111, 112, 113, 114] []) z0 (go L x1 x2 x3 x4 x5 x6 x7 x8 z)) (hz : fr (pf [108, 109, 110, 111, 112, 113, 114] []) z0 z)  : Fo id (pf [108, 109, 110, 111, 112, 113, 114] []) z0 (qm_X13_normalise_4 K go x1 x2 x3 x4 x5 x6 x7 x8 z) := by
  unfold qm_X13_normalise_4
  exact (fo_rdF (fun v17 => (fo_if (hgo 5 _ _ _ _ _ _ _ _ z hz) (fo_rdI (fun v18 => (fo_wrI (Or.inl (by decide)) hz (fun z19 h_z19 => (hgo 4 _ _ _ _ _ _ _ _ z19 h_z19))))))))
theorem fb_X13_normalise_5 {K : Nat} {z0 z : ow_MS}  {go : Nat → Int32 → Int32 → Int32 → Int32 → Int32 → Int32 → Int32 → Int32 → ow_MS → Option ow_MS} {x1 : Int32} {x2 : Int32} {x3 : Int32} {x4 : Int32} {x5 : Int32} {x6 : Int32} {x7 : Int32} {x8 : Int32}  (hgo : ∀ (L : Nat) (x1 : Int32) (x2 : Int32) (x3 : Int32) (x4 : Int32) (x5 : Int32) (x6 : Int32) (x7 : Int32) (x8 : Int32) (z : ow_MS), fr (pf [108, 109, 110, 111, 112, 113, 114] []) z0 z → Fo id (pf [108, 109, 110, 111, 112, 113, 114] []) z0 (go L x1 x2 x3 x4 x5 x6 x7 x8 z)) (hz : fr (pf [108, 109, 110, 111, 112, 113, 114] []) z0 z)  : Fo id (pf [108, 109, 110, 111, 112, 113, 114] []) z0 (qm_X13_normalise_5 K go x1 x2 x3 x4 x5 x6 x7 x8 z) := by
  unfold qm_X13_normalise_5
  exact (hgo 3 _ _ _ _ _ _ _ _ z hz)
theorem fb_X13_normalise_6 {K : Nat} {z0 z : ow_MS}  {go : Nat → Int32 → Int32 → Int32 → Int32 → Int32 → Int32 → Int32 → Int32 → ow_MS → Option ow_MS} {x1 : Int32} {x2 : Int32} {x3 : Int32} {x4 : Int32} {x5 : Int32} {x6 : Int32} {x7 : Int32} {x8 : Int32}  (hgo : ∀ (L : Nat) (x1 : Int32) (x2 : Int32) (x3 : Int32) (x4 : Int32) (x5 : Int32) (x6 : Int32) (x7 : Int32) (x8 : Int32) (z : ow_MS), fr (pf [108, 109, 110, 111, 112, 113, 114] []) z0 z → Fo id (pf [108, 109, 110, 111, 112, 113, 114] []) z0 (go L x1 x2 x3 x4 x5 x6 x7 x8 z)) (hz : fr (pf [108, 109, 110, 111, 112, 113, 114] []) z0 z)  : Fo id (pf [108, 109, 110, 111, 112, 113, 114] []) z0 (qm_X13_normalise_6 K go x1 x2 x3 x4 x5 x6 x7 x8 z) := by
  unfold qm_X13_normalise_6
  exact (hgo 2 _ _ _ _ _ _ _ _ z hz)
theorem fb_X13_normalise_7 {K : Nat} {z0 z : ow_MS}  {go : Nat → Int32 → Int32 → Int32 → Int32 → Int32 → Int32 → Int32 → Int32 → ow_MS → Option ow_MS} {x1 : Int32} {x2 : Int32} {x3 : Int32} {x4 : Int32} {x5 : Int32} {x6 : Int32} {x7 : Int32} {x8 : Int32}  (hgo : ∀ (L : Nat) (x1 : Int32) (x2 : Int32) (x3 : Int32) (x4 : Int32) (x5 : Int32) (x6 : Int32) (x7 : Int32) (x8 : Int32) (z : ow_MS), fr (pf [108, 109, 110, 111, 112, 113, 114] []) z0 z → Fo id (pf [108, 109, 110, 111, 112, 113, 114] []) z0 (go L x1 x2 x3 x4 x5 x6 x7 x8 z)) (hz : fr (pf [108, 109, 110, 111, 112, 113, 114] []) z0 z)  : Fo id (pf [108, 109, 110, 111, 112, 113, 114] []) z0 (qm_X13_normalise_7 K go x1 x2 x3 x4 x5 x6 x7 x8 z) := by
  unfold qm_X13_normalise_7
  exact (hgo 1 _ _ _ _ _ _ _ _ z hz)
theorem fq_X13_normalise {K : Nat} {z0 : ow_MS}   : ∀ (k L : Nat) (x1 : Int32) (x2 : Int32) (x3 : Int32) (x4 : Int32) (x5 : Int32) (x6 : Int32) (x7 : Int32) (x8 : Int32) (z : ow_MS), fr (pf [108, 109, 110, 111, 112, 113, 114] []) z0 z → Fo id (pf [108, 109, 110, 111, 112, 113, 114] []) z0 (q_X13_normalise K k L x1 x2 x3 x4 x5 x6 x7 x8 z)
  | 0 => by
    intros
    exact fo_none
  | k + 1 => by
    intro L x1 x2 x3 x4 x5 x6 x7 x8 z hz 
    show Fo id (pf [108, 109, 110, 111, 112, 113, 114] []) z0 (qb_X13_normalise K (q_X13_normalise K k) L x1 x2 x3 x4 x5 x6 x7 x8 z)
    unfold qb_X13_normalise
    split
    · exact fb_X13_normalise_0 (fq_X13_normalise k) hz 
    · exact fb_X13_normalise_1 (fq_X13_normalise k) hz 
    · exact fb_X13_normalise_2 (fq_X13_normalise k) hz 
    · exact fb_X13_normalise_3 (fq_X13_normalise k) hz 
    · exact fb_X13_normalise_4 (fq_X13_normalise k) hz 
    · exact fb_X13_normalise_5 (fq_X13_normalise k) hz 
    · exact fb_X13_normalise_6 (fq_X13_normalise k) hz 
    · exact fb_X13_normalise_7 (fq_X13_normalise k) hz 
    · exact fo_none
theorem ff_X13_normalise {K : Nat} {x1 : Int32} {x2 : Int32} {z : ow_MS}  : Fo id (pf [108, 109, 110, 111, 112, 113, 114] []) z (qe_X13_normalise K x1 x2 z) := fq_X13_normalise K 0 _ _ _ _ _ _ _ _ z fr_rf 
theorem fb_X13_append_0 {K : Nat} {z0 z : ow_MS}  {go : Nat → Int32 → Int32 → Int32 → Int32 → ow_MS → Option ow_MS} {x1 : Int32} {x2 : Int32} {x3 : Int32} {x4 : Int32}  (hgo : ∀ (L : Nat) (x1 : Int32) (x2 : Int32) (x3 : Int32) (x4 : Int32) (z : ow_MS), fr (pf [108, 109] []) z0 z → Fo id (pf [108, 109] []) z0 (go L x1 x2 x3 x4 z)) (hz : fr (pf [108, 109] []) z0 z)  : Fo id (pf [108, 109] []) z0 (qm_X13_append_0 K go x1 x2 x3 x4 z) := by
  unfold qm_X13_append_0
  exact (hgo 1 _ _ _ _ z hz)
theorem fb_X13_append_1 {K : Nat} {z0 z : ow_MS}  {go : Nat → Int32 → Int32 → Int32 → Int32 → ow_MS → Option ow_MS} {x1 : Int32} {x2 : Int32} {x3 : Int32} {x4 : Int32}  (hgo : ∀ (L : Nat) (x1 : Int32) (x2 : Int32) (x3 : Int32) (x4 : Int32) (z : ow_MS), fr (pf [108, 109] []) z0 z → Fo id (pf [108, 109] []) z0 (go L x1 x2 x3 x4 z)) (hz : fr (pf [108, 109] []) z0 z)  : Fo id (pf [108, 109] []) z0 (qm_X13_append_1 K go x1 x2 x3 x4 z) := by
  unfold qm_X13_append_1
  exact (fo_rdI (fun v1 => (fo_if (fo_some hz) (fo_rdF (fun v2 => (fo_rdI (fun v3 => (fo_wrI (Or.inl (by decide)) hz (fun z4 h_z4 => (fo_rdF (fun v5 => (fo_wrF (Or.inl (by decide)) h_z4 (fun z6 h_z6 => (hgo 1 _ _ _ _ z6 h_z6))))))))))))))
theorem fq_X13_append {K : Nat} {z0 : ow_MS}   : ∀ (k L : Nat) (x1 : Int32) (x2 : Int32) (x3 : Int32) (x4 : Int32) (z : ow_MS), fr (pf [108, 109] []) z0 z → Fo id (pf [108, 109] []) z0 (q_X13_append K k L x1 x2 x3 x4 z)
  | 0 => by
    intros
    exact fo_none
  | k + 1 => by
    intro L x1 x2 x3 x4 z hz 
    show Fo id (pf [108, 109] []) z0 (qb_X13_append K (q_X13_append K k) L x1 x2 x3 x4 z)
    unfold qb_X13_append
    split
    · exact fb_X13_append_0 (fq_X13_append k) hz 
    · exact fb_X13_append_1 (fq_X13_append k) hz 
    · exact fo_none
theorem ff_X13_append {K : Nat} {x1 : Int32} {x2 : Int32} {z : ow_MS}  : Fo id (pf [108, 109] []) z (qe_X13_append K x1 x2 z) := fq_X13_append K 0 _ _ _ _ z fr_rf 
theorem fb_X13_formOf_0 {K : Nat} {z0 z : ow_MS}  {go : Nat → Int32 → Int32 → Int32 → Int32 → Int32 → Int32 → ow_MS → Option ow_MS} {x1 : Int32} {x2 : Int32} {x3 : Int32} {x4 : Int32} {x5 : Int32} {x6 : Int32}  (hgo : ∀ (L : Nat) (x1 : Int32) (x2 : Int32) (x3 : Int32) (x4 : Int32) (x5 : Int32) (x6 : Int32) (z : ow_MS), fr (pf [108, 109, 110, 111, 112, 113, 114] []) z0 z → Fo id (pf [108, 109, 110, 111, 112, 113, 114] []) z0 (go L x1 x2 x3 x4 x5 x6 z)) (hz : fr (pf [108, 109, 110, 111, 112, 113, 114] []) z0 z)  : Fo id (pf [108, 109, 110, 111, 112, 113, 114] []) z0 (qm_X13_formOf_0 K go x1 x2 x3 x4 x5 x6 z) := by
  unfold qm_X13_formOf_0
  exact (fo_rdI (fun v1 => (fo_wrF (Or.inl (by decide)) hz (fun z2 h_z2 => (hgo 1 _ _ _ _ _ _ z2 h_z2)))))
theorem fb_X13_formOf_1 {K : Nat} {z0 z : ow_MS}  {go : Nat → Int32 → Int32 → Int32 → Int32 → Int32 → Int32 → ow_MS → Option ow_MS} {x1 : Int32} {x2 : Int32} {x3 : Int32} {x4 : Int32} {x5 : Int32} {x6 : Int32}  (hgo : ∀ (L : Nat) (x1 : Int32) (x2 : Int32) (x3 : Int32) (x4 : Int32) (x5 : Int32) (x6 : Int32) (z : ow_MS), fr (pf [108, 109, 110, 111, 112, 113, 114] []) z0 z → Fo id (pf [108, 109, 110, 111, 112, 113, 114] []) z0 (go L x1 x2 x3 x4 x5 x6 z)) (hz : fr (pf [108, 109, 110, 111, 112, 113, 114] []) z0 z)  : Fo id (pf [108, 109, 110, 111, 112, 113, 114] []) z0 (qm_X13_formOf_1 K go x1 x2 x3 x4 x5 x6 z) := by
  unfold qm_X13_formOf_1
  exact (fo_rdI (fun v3 => (fo_if (fo_cs0 (ff_X13_normalise) (pf_sub (by decide) pf_0) hz (fun z4 h_z4 => (fo_some h_z4))) (fo_rdI (fun v5 => (fo_if (hgo 2 _ _ _ _ _ _ z hz) (fo_rdF (fun v6 => (fo_wrI (Or.inl (by decide)) hz (fun z7 h_z7 => (fo_rdF (fun v8 => (fo_wrF (Or.inl (by decide)) h_z7 (fun z9 h_z9 => (hgo 3 _ _ _ _ _ _ z9 h_z9)))))))))))))))
theorem fb_X13_formOf_2 {K : Nat} {z0 z : ow_MS}  {go : Nat → Int32 → Int32 → Int32 → Int32 → Int32 → Int32 → ow_MS → Option ow_MS} {x1 : Int32} {x2 : Int32} {x3 : Int32} {x4 : Int32} {x5 : Int32} {x6 : Int32}  (hgo : ∀ (L : Nat) (x1 : Int32) (x2 : Int32) (x3 : Int32) (x4 : Int32) (x5 : Int32) (x6 : Int32) (z : ow_MS), fr (pf [108, 109, 110, 111, 112, 113, 114] []) z0 z → Fo id (pf [108, 109, 110, 111, 112, 113, 114] []) z0 (go L x1 x2 x3 x4 x5 x6 z)) (hz : fr (pf [108, 109, 110, 111, 112, 113, 114] []) z0 z)  : Fo id (pf [108, 109, 110, 111, 112, 113, 114] []) z0 (qm_X13_formOf_2 K go x1 x2 x3 x4 x5 x6 z) := by
  unfold qm_X13_formOf_2
  exact (fo_rdF (fun v10 => (fo_if (fo_rdI (fun v11 => (fo_rdI (fun v12 => (fo_cs0 (ff_X13_append) (pf_sub (by decide) pf_0) hz (fun z13 h_z13 => (hgo 3 _ _ _ _ _ _ z13 h_z13))))))) (fo_rdI (fun v14 => (fo_wrI (Or.inl (by decide)) hz (fun z15 h_z15 => (hgo 2 _ _ _ _ _ _ z15 h_z15))))))))
theorem fb_X13_formOf_3 {K : Nat} {z0 z : ow_MS}  {go : Nat → Int32 → Int32 → Int32 → Int32 → Int32 → Int32 → ow_MS → Option ow_MS} {x1 : Int32} {x2 : Int32} {x3 : Int32} {x4 : Int32} {x5 : Int32} {x6 : Int32}  (hgo : ∀ (L : Nat) (x1 : Int32) (x2 : Int32) (x3 : Int32) (x4 : Int32) (x5 : Int32) (x6 : Int32) (z : ow_MS), fr (pf [108, 109, 110, 111, 112, 113, 114] []) z0 z → Fo id (pf [108, 109, 110, 111, 112, 113, 114] []) z0 (go L x1 x2 x3 x4 x5 x6 z)) (hz : fr (pf [108, 109, 110, 111, 112, 113, 114] []) z0 z)  : Fo id (pf [108, 109, 110, 111, 112, 113, 114] []) z0 (qm_X13_formOf_3 K go x1 x2 x3 x4 x5 x6 z) := by
  unfold qm_X13_formOf_3
  exact (hgo 1 _ _ _ _ _ _ z hz)
theorem fq_X13_formOf {K : Nat} {z0 : ow_MS}   : ∀ (k L : Nat) (x1 : Int32) (x2 : Int32) (x3 : Int32) (x4 : Int32) (x5 : Int32) (x6 : Int32) (z : ow_MS), fr (pf [108, 109, 110, 111, 112, 113, 114] []) z0 z → Fo id (pf [108, 109, 110, 111, 112, 113, 114] []) z0 (q_X13_formOf K k L x1 x2 x3 x4 x5 x6 z)
  | 0 => by
    intros
    exact fo_none
  | k + 1 => by
    intro L x1 x2 x3 x4 x5 x6 z hz 
    show Fo id (pf [108, 109, 110, 111, 112, 113, 114] []) z0 (qb_X13_formOf K (q_X13_formOf K k) L x1 x2 x3 x4 x5 x6 z)
    unfold qb_X13_formOf
    split
    · exact fb_X13_formOf_0 (fq_X13_formOf k) hz 
    · exact fb_X13_formOf_1 (fq_X13_formOf k) hz 
    · exact fb_X13_formOf_2 (fq_X13_formOf k) hz 
    · exact fb_X13_formOf_3 (fq_X13_formOf k) hz 
    · exact fo_none
theorem ff_X13_formOf {K : Nat} {x1 : Int32} {z : ow_MS}  : Fo id (pf [108, 109, 110, 111, 112, 113, 114] []) z (qe_X13_formOf K x1 z) := fq_X13_formOf K 0 _ _ _ _ _ _ z fr_rf 
theorem fb_X13_normal_0 {K : Nat} {z0 z : ow_MS}  {go : Nat → Int32 → Int32 → ow_MS → Option (Int32 × ow_MS)} {x1 : Int32} {x2 : Int32}  (hgo : ∀ (L : Nat) (x1 : Int32) (x2 : Int32) (z : ow_MS), fr (pf [1, 108, 109, 110, 111, 112, 113, 114] []) z0 z → Fo Prod.snd (pf [1, 108, 109, 110, 111, 112, 113, 114] []) z0 (go L x1 x2 z)) (hz : fr (pf [1, 108, 109, 110, 111, 112, 113, 114] []) z0 z)  : Fo Prod.snd (pf [1, 108, 109, 110, 111, 112, 113, 114] []) z0 (qm_X13_normal_0 K go x1 x2 z) := by
  unfold qm_X13_normal_0
  exact (fo_wrF (Or.inl (by decide)) hz (fun z1 h_z1 => (fo_cs1 (ff_X13_hasBraid) (pf_sub (by decide) pf_0) h_z1 (fun v3 z2 h_z2 => (fo_if (fo_cs1 (ff_X13_fails) (pf_sub (by decide) pf_0) h_z2 (fun v10 z9 h_z9 => (fo_some h_z9))) (fo_if (hgo 1 _ _ z2 h_z2) (fo_if (fo_if (fo_rdI (fun v8 => (fo_some h_z2))) (fo_if (fo_rdI (fun v7 => (fo_some h_z2))) (fo_cs0 (ff_X13_formOf) (pf_sub (by decide) pf_0) h_z2 (fun z4 h_z4 => (fo_if (fo_rdF (fun v6 => (fo_some h_z4))) (fo_rdF (fun v5 => (fo_some h_z4)))))))) (hgo 1 _ _ z2 h_z2))))))))
theorem fb_X13_normal_1 {K : Nat} {z0 z : ow_MS}  {go : Nat → Int32 → Int32 → ow_MS → Option (Int32 × ow_MS)} {x1 : Int32} {x2 : Int32}  (hgo : ∀ (L : Nat) (x1 : Int32) (x2 : Int32) (z : ow_MS), fr (pf [1, 108, 109, 110, 111, 112, 113, 114] []) z0 z → Fo Prod.snd (pf [1, 108, 109, 110, 111, 112, 113, 114] []) z0 (go L x1 x2 z)) (hz : fr (pf [1, 108, 109, 110, 111, 112, 113, 114] []) z0 z)  : Fo Prod.snd (pf [1, 108, 109, 110, 111, 112, 113, 114] []) z0 (qm_X13_normal_1 K go x1 x2 z) := by
  unfold qm_X13_normal_1
  exact (fo_cs1 (ff_X13_fails) (pf_sub (by decide) pf_0) hz (fun v12 z11 h_z11 => (fo_some h_z11)))
theorem fq_X13_normal {K : Nat} {z0 : ow_MS}   : ∀ (k L : Nat) (x1 : Int32) (x2 : Int32) (z : ow_MS), fr (pf [1, 108, 109, 110, 111, 112, 113, 114] []) z0 z → Fo Prod.snd (pf [1, 108, 109, 110, 111, 112, 113, 114] []) z0 (q_X13_normal K k L x1 x2 z)
  | 0 => by
    intros
    exact fo_none
  | k + 1 => by
    intro L x1 x2 z hz 
    show Fo Prod.snd (pf [1, 108, 109, 110, 111, 112, 113, 114] []) z0 (qb_X13_normal K (q_X13_normal K k) L x1 x2 z)
    unfold qb_X13_normal
    split
    · exact fb_X13_normal_0 (fq_X13_normal k) hz 
    · exact fb_X13_normal_1 (fq_X13_normal k) hz 
    · exact fo_none
theorem ff_X13_normal {K : Nat} {x1 : Int32} {x2 : Int32} {z : ow_MS}  : Fo Prod.snd (pf [1, 108, 109, 110, 111, 112, 113, 114] []) z (qe_X13_normal K x1 x2 z) := fq_X13_normal K 0 _ _ z fr_rf 
theorem fb_X13_factor_0 {K : Nat} {z0 z : ow_MS}  {go : Nat → Int32 → Int32 → Int32 → ow_MS → Option (Int32 × ow_MS)} {x1 : Int32} {x2 : Int32} {x3 : Int32}  (hgo : ∀ (L : Nat) (x1 : Int32) (x2 : Int32) (x3 : Int32) (z : ow_MS), fr (pf [1, 108, 109, 110, 111, 112, 113, 114] []) z0 z → Fo Prod.snd (pf [1, 108, 109, 110, 111, 112, 113, 114] []) z0 (go L x1 x2 x3 z)) (hz : fr (pf [1, 108, 109, 110, 111, 112, 113, 114] []) z0 z)  : Fo Prod.snd (pf [1, 108, 109, 110, 111, 112, 113, 114] []) z0 (qm_X13_factor_0 K go x1 x2 x3 z) := by
  unfold qm_X13_factor_0
  exact (fo_wrF (Or.inl (by decide)) hz (fun z1 h_z1 => (fo_cs1 (ff_X13_hasBraid) (pf_sub (by decide) pf_0) h_z1 (fun v3 z2 h_z2 => (fo_if (fo_cs1 (ff_X13_fails) (pf_sub (by decide) pf_0) h_z2 (fun v11 z10 h_z10 => (fo_some h_z10))) (fo_cs0 (ff_X13_formOf) (pf_sub (by decide) pf_0) h_z2 (fun z4 h_z4 => (fo_if (hgo 1 _ _ _ z4 h_z4) (fo_rdF (fun v5 => (fo_if (hgo 1 _ _ _ z4 h_z4) (fo_if (hgo 1 _ _ _ z4 h_z4) (fo_rdI (fun v6 => (fo_if (fo_rdI (fun v7 => (fo_rdI (fun v8 => (fo_rdI (fun v9 => (fo_some h_z4))))))) (hgo 1 _ _ _ z4 h_z4))))))))))))))))
theorem fb_X13_factor_1 {K : Nat} {z0 z : ow_MS}  {go : Nat → Int32 → Int32 → Int32 → ow_MS → Option (Int32 × ow_MS)} {x1 : Int32} {x2 : Int32} {x3 : Int32}  (hgo : ∀ (L : Nat) (x1 : Int32) (x2 : Int32) (x3 : Int32) (z : ow_MS), fr (pf [1, 108, 109, 110, 111, 112, 113, 114] []) z0 z → Fo Prod.snd (pf [1, 108, 109, 110, 111, 112, 113, 114] []) z0 (go L x1 x2 x3 z)) (hz : fr (pf [1, 108, 109, 110, 111, 112, 113, 114] []) z0 z)  : Fo Prod.snd (pf [1, 108, 109, 110, 111, 112, 113, 114] []) z0 (qm_X13_factor_1 K go x1 x2 x3 z) := by
  unfold qm_X13_factor_1
  exact (fo_some hz)
theorem fq_X13_factor {K : Nat} {z0 : ow_MS}   : ∀ (k L : Nat) (x1 : Int32) (x2 : Int32) (x3 : Int32) (z : ow_MS), fr (pf [1, 108, 109, 110, 111, 112, 113, 114] []) z0 z → Fo Prod.snd (pf [1, 108, 109, 110, 111, 112, 113, 114] []) z0 (q_X13_factor K k L x1 x2 x3 z)
  | 0 => by
    intros
    exact fo_none
  | k + 1 => by
    intro L x1 x2 x3 z hz 
    show Fo Prod.snd (pf [1, 108, 109, 110, 111, 112, 113, 114] []) z0 (qb_X13_factor K (q_X13_factor K k) L x1 x2 x3 z)
    unfold qb_X13_factor
    split
    · exact fb_X13_factor_0 (fq_X13_factor k) hz 
    · exact fb_X13_factor_1 (fq_X13_factor k) hz 
    · exact fo_none
theorem ff_X13_factor {K : Nat} {x1 : Int32} {x2 : Int32} {x3 : Int32} {z : ow_MS}  : Fo Prod.snd (pf [1, 108, 109, 110, 111, 112, 113, 114] []) z (qe_X13_factor K x1 x2 x3 z) := fq_X13_factor K 0 _ _ _ z fr_rf 
theorem fb_X13_formTo_0 {K : Nat} {z0 z : ow_MS} {pr1 : Nat} {go : Nat → Int32 → Int32 → Nat → ow_MS → Option ow_MS} {x2 : Int32} {x3 : Int32} {r1 : Nat}  (hgo : ∀ (L : Nat) (x2 : Int32) (x3 : Int32) (r1 : Nat) (z : ow_MS), fr (pf [] [pr1]) z0 z → (L = 0 ∨ L = 1 → r1 = pr1) → Fo id (pf [] [pr1]) z0 (go L x2 x3 r1 z)) (hz : fr (pf [] [pr1]) z0 z) (e_r1 : r1 = pr1) : Fo id (pf [] [pr1]) z0 (qm_X13_formTo_0 K go x2 x3 r1 z) := by
  unfold qm_X13_formTo_0
  exact (fo_rdF (fun v1 => (fo_wrI (Or.inr (Or.inl (by rw [e_r1]; simp))) hz (fun z2 h_z2 => (fo_rdF (fun v3 => (fo_wrI (Or.inr (Or.inl (by rw [e_r1]; simp))) h_z2 (fun z4 h_z4 => (hgo 1 _ _ _ z4 h_z4 (fun _ => e_r1))))))))))
theorem fb_X13_formTo_1 {K : Nat} {z0 z : ow_MS} {pr1 : Nat} {go : Nat → Int32 → Int32 → Nat → ow_MS → Option ow_MS} {x2 : Int32} {x3 : Int32} {r1 : Nat}  (hgo : ∀ (L : Nat) (x2 : Int32) (x3 : Int32) (r1 : Nat) (z : ow_MS), fr (pf [] [pr1]) z0 z → (L = 0 ∨ L = 1 → r1 = pr1) → Fo id (pf [] [pr1]) z0 (go L x2 x3 r1 z)) (hz : fr (pf [] [pr1]) z0 z) (e_r1 : r1 = pr1) : Fo id (pf [] [pr1]) z0 (qm_X13_formTo_1 K go x2 x3 r1 z) := by
  unfold qm_X13_formTo_1
  exact (fo_rdF (fun v5 => (fo_if (fo_some hz) (fo_rdI (fun v6 => (fo_wrI (Or.inr (Or.inl (by rw [e_r1]; simp))) hz (fun z7 h_z7 => (hgo 1 _ _ _ z7 h_z7 (fun _ => e_r1)))))))))
theorem fq_X13_formTo {K : Nat} {z0 : ow_MS} {pr1 : Nat}  : ∀ (k L : Nat) (x2 : Int32) (x3 : Int32) (r1 : Nat) (z : ow_MS), fr (pf [] [pr1]) z0 z → (L = 0 ∨ L = 1 → r1 = pr1) → Fo id (pf [] [pr1]) z0 (q_X13_formTo K k L x2 x3 r1 z)
  | 0 => by
    intros
    exact fo_none
  | k + 1 => by
    intro L x2 x3 r1 z hz h9_r1
    show Fo id (pf [] [pr1]) z0 (qb_X13_formTo K (q_X13_formTo K k) L x2 x3 r1 z)
    unfold qb_X13_formTo
    split
    · exact fb_X13_formTo_0 (fq_X13_formTo k) hz (h9_r1 (by decide))
    · exact fb_X13_formTo_1 (fq_X13_formTo k) hz (h9_r1 (by decide))
    · exact fo_none
theorem ff_X13_formTo {K : Nat} {r1 : Nat} {x2 : Int32} {z : ow_MS}  : Fo id (pf [] [r1]) z (qe_X13_formTo K r1 x2 z) := fq_X13_formTo (pr1 := r1) K 0 _ _ _ z fr_rf (fun _ => rfl)
theorem fb_X13_isForm_0 {K : Nat} {z0 z : ow_MS}  {go : Nat → Int32 → Int32 → Int32 → Int32 → Nat → Nat → Int32 → ow_MS → Option (Int32 × ow_MS)} {x1 : Int32} {x3 : Int32} {x4 : Int32} {x5 : Int32} {r0 : Nat} {r2 : Nat} {t0 : Int32}  (hgo : ∀ (L : Nat) (x1 : Int32) (x3 : Int32) (x4 : Int32) (x5 : Int32) (r0 : Nat) (r2 : Nat) (t0 : Int32) (z : ow_MS), fr (pf [] []) z0 z → Fo Prod.snd (pf [] []) z0 (go L x1 x3 x4 x5 r0 r2 t0 z)) (hz : fr (pf [] []) z0 z)  : Fo Prod.snd (pf [] []) z0 (qm_X13_isForm_0 K go x1 x3 x4 x5 r0 r2 t0 z) := by
  unfold qm_X13_isForm_0
  exact (fo_rdI (fun v1 => (fo_rdI (fun v2 => (fo_if (fo_rdI (fun v3 => (fo_rdI (fun v4 => (fo_if (hgo 2 _ _ _ _ _ _ _ z hz) (hgo 1 _ _ _ _ _ _ _ z hz)))))) (hgo 1 _ _ _ _ _ _ _ z hz))))))
theorem fb_X13_isForm_1 {K : Nat} {z0 z : ow_MS}  {go : Nat → Int32 → Int32 → Int32 → Int32 → Nat → Nat → Int32 → ow_MS → Option (Int32 × ow_MS)} {x1 : Int32} {x3 : Int32} {x4 : Int32} {x5 : Int32} {r0 : Nat} {r2 : Nat} {t0 : Int32}  (hgo : ∀ (L : Nat) (x1 : Int32) (x3 : Int32) (x4 : Int32) (x5 : Int32) (r0 : Nat) (r2 : Nat) (t0 : Int32) (z : ow_MS), fr (pf [] []) z0 z → Fo Prod.snd (pf [] []) z0 (go L x1 x3 x4 x5 r0 r2 t0 z)) (hz : fr (pf [] []) z0 z)  : Fo Prod.snd (pf [] []) z0 (qm_X13_isForm_1 K go x1 x3 x4 x5 r0 r2 t0 z) := by
  unfold qm_X13_isForm_1
  exact (hgo 2 _ _ _ _ _ _ _ z hz)
theorem fb_X13_isForm_2 {K : Nat} {z0 z : ow_MS}  {go : Nat → Int32 → Int32 → Int32 → Int32 → Nat → Nat → Int32 → ow_MS → Option (Int32 × ow_MS)} {x1 : Int32} {x3 : Int32} {x4 : Int32} {x5 : Int32} {r0 : Nat} {r2 : Nat} {t0 : Int32}  (hgo : ∀ (L : Nat) (x1 : Int32) (x3 : Int32) (x4 : Int32) (x5 : Int32) (r0 : Nat) (r2 : Nat) (t0 : Int32) (z : ow_MS), fr (pf [] []) z0 z → Fo Prod.snd (pf [] []) z0 (go L x1 x3 x4 x5 r0 r2 t0 z)) (hz : fr (pf [] []) z0 z)  : Fo Prod.snd (pf [] []) z0 (qm_X13_isForm_2 K go x1 x3 x4 x5 r0 r2 t0 z) := by
  unfold qm_X13_isForm_2
  exact (hgo 3 _ _ _ _ _ _ _ z hz)
theorem fb_X13_isForm_3 {K : Nat} {z0 z : ow_MS}  {go : Nat → Int32 → Int32 → Int32 → Int32 → Nat → Nat → Int32 → ow_MS → Option (Int32 × ow_MS)} {x1 : Int32} {x3 : Int32} {x4 : Int32} {x5 : Int32} {r0 : Nat} {r2 : Nat} {t0 : Int32}  (hgo : ∀ (L : Nat) (x1 : Int32) (x3 : Int32) (x4 : Int32) (x5 : Int32) (r0 : Nat) (r2 : Nat) (t0 : Int32) (z : ow_MS), fr (pf [] []) z0 z → Fo Prod.snd (pf [] []) z0 (go L x1 x3 x4 x5 r0 r2 t0 z)) (hz : fr (pf [] []) z0 z)  : Fo Prod.snd (pf [] []) z0 (qm_X13_isForm_3 K go x1 x3 x4 x5 r0 r2 t0 z) := by
  unfold qm_X13_isForm_3
  exact (fo_if (fo_okZ (fo_some hz)) (fo_rdI (fun v5 => (fo_if (fo_okZ (fo_some hz)) (fo_rdI (fun v6 => (fo_rdI (fun v7 => (fo_if (hgo 4 _ _ _ _ _ _ _ z hz) (hgo 4 _ _ _ _ _ _ _ z hz))))))))))
theorem fb_X13_isForm_4 {K : Nat} {z0 z : ow_MS}  {go : Nat → Int32 → Int32 → Int32 → Int32 → Nat → Nat → Int32 → ow_MS → Option (Int32 × ow_MS)} {x1 : Int32} {x3 : Int32} {x4 : Int32} {x5 : Int32} {r0 : Nat} {r2 : Nat} {t0 : Int32}  (hgo : ∀ (L : Nat) (x1 : Int32) (x3 : Int32) (x4 : Int32) (x5 : Int32) (r0 : Nat) (r2 : Nat) (t0 : Int32) (z : ow_MS), fr (pf [] []) z0 z → Fo Prod.snd (pf [] []) z0 (go L x1 x3 x4 x5 r0 r2 t0 z)) (hz : fr (pf [] []) z0 z)  : Fo Prod.snd (pf [] []) z0 (qm_X13_isForm_4 K go x1 x3 x4 x5 r0 r2 t0 z) := by
  unfold qm_X13_isForm_4
  exact (hgo 3 _ _ _ _ _ _ _ z hz)
theorem fq_X13_isForm {K : Nat} {z0 : ow_MS}   : ∀ (k L : Nat) (x1 : Int32) (x3 : Int32) (x4 : Int32) (x5 : Int32) (r0 : Nat) (r2 : Nat) (t0 : Int32) (z : ow_MS), fr (pf [] []) z0 z → Fo Prod.snd (pf [] []) z0 (q_X13_isForm K k L x1 x3 x4 x5 r0 r2 t0 z)
  | 0 => by
    intros
    exact fo_none
  | k + 1 => by
    intro L x1 x3 x4 x5 r0 r2 t0 z hz 
    show Fo Prod.snd (pf [] []) z0 (qb_X13_isForm K (q_X13_isForm K k) L x1 x3 x4 x5 r0 r2 t0 z)
    unfold qb_X13_isForm
    split
    · exact fb_X13_isForm_0 (fq_X13_isForm k) hz 
    · exact fb_X13_isForm_1 (fq_X13_isForm k) hz 
    · exact fb_X13_isForm_2 (fq_X13_isForm k) hz 
    · exact fb_X13_isForm_3 (fq_X13_isForm k) hz 
    · exact fb_X13_isForm_4 (fq_X13_isForm k) hz 
    · exact fo_none
theorem ff_X13_isForm {K : Nat} {r0 : Nat} {x1 : Int32} {r2 : Nat} {x3 : Int32} {z : ow_MS}  : Fo Prod.snd (pf [] []) z (qe_X13_isForm K r0 x1 r2 x3 z) := fq_X13_isForm K 0 _ _ _ _ _ _ _ z fr_rf 
theorem ff_X13_equal {K : Nat} {x1 : Int32} {x2 : Int32} {z : ow_MS}  : Fo Prod.snd (pf [1, 108, 109, 110, 111, 112, 113, 114, 117, 118] []) z (qe_X13_equal K x1 x2 z) := by
  unfold qe_X13_equal qm_X13_equal_0
  exact (fo_wrF (Or.inl (by decide)) fr_rf (fun z1 h_z1 => (fo_cs1 (ff_X13_hasBraid) (pf_sub (by decide) pf_0) h_z1 (fun v3 z2 h_z2 => (fo_if (fo_okZ (fo_some h_z2)) (fo_cs1 (ff_X13_hasBraid) (pf_sub (by decide) pf_0) h_z2 (fun v5 z4 h_z4 => (fo_if (fo_okZ (fo_some h_z4)) (fo_rdI (fun v6 => (fo_rdI (fun v7 => (fo_if (fo_cs0 (ff_X13_formOf) (pf_sub (by decide) pf_0) h_z4 (fun z8 h_z8 => (fo_cs0 (ff_X13_formTo) (pf_sub (by decide) (pf_1 (Or.inl (by decide)))) h_z8 (fun z9 h_z9 => (fo_cs0 (ff_X13_formOf) (pf_sub (by decide) pf_0) h_z9 (fun z10 h_z10 => (fo_cs0 (ff_X13_formTo) (pf_sub (by decide) (pf_1 (Or.inl (by decide)))) h_z10 (fun z11 h_z11 => (fo_cs1 (ff_X13_isForm) (pf_sub (by decide) pf_0) h_z11 (fun v13 z12 h_z12 => (fo_okZ (fo_some h_z12)))))))))))) (fo_okZ (fo_some h_z4)))))))))))))))
theorem ff_X13_turned {K : Nat} {x1 : Int32} {x2 : Int32} {x3 : Int32} {z : ow_MS}  : Fo Prod.snd (pf [] []) z (qe_X13_turned K x1 x2 x3 z) := by
  unfold qe_X13_turned qm_X13_turned_0
  exact (fo_if (fo_some fr_rf) (fo_rdI (fun v1 => (fo_some fr_rf))))
theorem fb_X13_cycle_0 {K : Nat} {z0 z : ow_MS}  {go : Nat → Int32 → Int32 → Int32 → Int32 → Int32 → Int32 → Int32 → ow_MS → Option ow_MS} {x1 : Int32} {x2 : Int32} {x3 : Int32} {x4 : Int32} {x5 : Int32} {t0 : Int32} {t1 : Int32}  (hgo : ∀ (L : Nat) (x1 : Int32) (x2 : Int32) (x3 : Int32) (x4 : Int32) (x5 : Int32) (t0 : Int32) (t1 : Int32) (z : ow_MS), fr (pf [108, 109, 110, 111, 112, 113, 114] []) z0 z → Fo id (pf [108, 109, 110, 111, 112, 113, 114] []) z0 (go L x1 x2 x3 x4 x5 t0 t1 z)) (hz : fr (pf [108, 109, 110, 111, 112, 113, 114] []) z0 z)  : Fo id (pf [108, 109, 110, 111, 112, 113, 114] []) z0 (qm_X13_cycle_0 K go x1 x2 x3 x4 x5 t0 t1 z) := by
  unfold qm_X13_cycle_0
  exact (fo_rdF (fun v1 => (fo_rdF (fun v2 => (fo_wrF (Or.inl (by decide)) hz (fun z3 h_z3 => (fo_if (hgo 1 _ _ _ _ _ _ _ z3 h_z3) (fo_rdI (fun v4 => (fo_cs1 (ff_X13_turned) (pf_sub (by decide) pf_0) h_z3 (fun v6 z5 h_z5 => (fo_cs0 (ff_X13_append) (pf_sub (by decide) pf_0) h_z5 (fun z7 h_z7 => (hgo 1 _ _ _ _ _ _ _ z7 h_z7))))))))))))))
theorem fb_X13_cycle_1 {K : Nat} {z0 z : ow_MS}  {go : Nat → Int32 → Int32 → Int32 → Int32 → Int32 → Int32 → Int32 → ow_MS → Option ow_MS} {x1 : Int32} {x2 : Int32} {x3 : Int32} {x4 : Int32} {x5 : Int32} {t0 : Int32} {t1 : Int32}  (hgo : ∀ (L : Nat) (x1 : Int32) (x2 : Int32) (x3 : Int32) (x4 : Int32) (x5 : Int32) (t0 : Int32) (t1 : Int32) (z : ow_MS), fr (pf [108, 109, 110, 111, 112, 113, 114] []) z0 z → Fo id (pf [108, 109, 110, 111, 112, 113, 114] []) z0 (go L x1 x2 x3 x4 x5 t0 t1 z)) (hz : fr (pf [108, 109, 110, 111, 112, 113, 114] []) z0 z)  : Fo id (pf [108, 109, 110, 111, 112, 113, 114] []) z0 (qm_X13_cycle_1 K go x1 x2 x3 x4 x5 t0 t1 z) := by
  unfold qm_X13_cycle_1
  exact (fo_if (hgo 2 _ _ _ _ _ _ _ z hz) (hgo 2 _ _ _ _ _ _ _ z hz))
theorem fb_X13_cycle_2 {K : Nat} {z0 z : ow_MS}  {go : Nat → Int32 → Int32 → Int32 → Int32 → Int32 → Int32 → Int32 → ow_MS → Option ow_MS} {x1 : Int32} {x2 : Int32} {x3 : Int32} {x4 : Int32} {x5 : Int32} {t0 : Int32} {t1 : Int32}  (hgo : ∀ (L : Nat) (x1 : Int32) (x2 : Int32) (x3 : Int32) (x4 : Int32) (x5 : Int32) (t0 : Int32) (t1 : Int32) (z : ow_MS), fr (pf [108, 109, 110, 111, 112, 113, 114] []) z0 z → Fo id (pf [108, 109, 110, 111, 112, 113, 114] []) z0 (go L x1 x2 x3 x4 x5 t0 t1 z)) (hz : fr (pf [108, 109, 110, 111, 112, 113, 114] []) z0 z)  : Fo id (pf [108, 109, 110, 111, 112, 113, 114] []) z0 (qm_X13_cycle_2 K go x1 x2 x3 x4 x5 t0 t1 z) := by
  unfold qm_X13_cycle_2
  exact (hgo 3 _ _ _ _ _ _ _ z hz)
theorem fb_X13_cycle_3 {K : Nat} {z0 z : ow_MS}  {go : Nat → Int32 → Int32 → Int32 → Int32 → Int32 → Int32 → Int32 → ow_MS → Option ow_MS} {x1 : Int32} {x2 : Int32} {x3 : Int32} {x4 : Int32} {x5 : Int32} {t0 : Int32} {t1 : Int32}  (hgo : ∀ (L : Nat) (x1 : Int32) (x2 : Int32) (x3 : Int32) (x4 : Int32) (x5 : Int32) (t0 : Int32) (t1 : Int32) (z : ow_MS), fr (pf [108, 109, 110, 111, 112, 113, 114] []) z0 z → Fo id (pf [108, 109, 110, 111, 112, 113, 114] []) z0 (go L x1 x2 x3 x4 x5 t0 t1 z)) (hz : fr (pf [108, 109, 110, 111, 112, 113, 114] []) z0 z)  : Fo id (pf [108, 109, 110, 111, 112, 113, 114] []) z0 (qm_X13_cycle_3 K go x1 x2 x3 x4 x5 t0 t1 z) := by
  unfold qm_X13_cycle_3
  exact (fo_if (hgo 4 _ _ _ _ _ _ _ z hz) (hgo 4 _ _ _ _ _ _ _ z hz))
theorem fb_X13_cycle_4 {K : Nat} {z0 z : ow_MS}  {go : Nat → Int32 → Int32 → Int32 → Int32 → Int32 → Int32 → Int32 → ow_MS → Option ow_MS} {x1 : Int32} {x2 : Int32} {x3 : Int32} {x4 : Int32} {x5 : Int32} {t0 : Int32} {t1 : Int32}  (hgo : ∀ (L : Nat) (x1 : Int32) (x2 : Int32) (x3 : Int32) (x4 : Int32) (x5 : Int32) (t0 : Int32) (t1 : Int32) (z : ow_MS), fr (pf [108, 109, 110, 111, 112, 113, 114] []) z0 z → Fo id (pf [108, 109, 110, 111, 112, 113, 114] []) z0 (go L x1 x2 x3 x4 x5 t0 t1 z)) (hz : fr (pf [108, 109, 110, 111, 112, 113, 114] []) z0 z)  : Fo id (pf [108, 109, 110, 111, 112, 113, 114] []) z0 (qm_X13_cycle_4 K go x1 x2 x3 x4 x5 t0 t1 z) := by
  unfold qm_X13_cycle_4
  exact (fo_if (fo_if (fo_rdI (fun v8 => (fo_cs1 (ff_X13_turned) (pf_sub (by decide) pf_0) hz (fun v10 z9 h_z9 => (fo_cs0 (ff_X13_append) (pf_sub (by decide) pf_0) h_z9 (fun z11 h_z11 => (hgo 5 _ _ _ _ _ _ _ z11 h_z11))))))) (hgo 5 _ _ _ _ _ _ _ z hz)) (fo_rdI (fun v12 => (fo_cs0 (ff_X13_append) (pf_sub (by decide) pf_0) hz (fun z13 h_z13 => (hgo 3 _ _ _ _ _ _ _ z13 h_z13))))))
theorem fb_X13_cycle_5 {K : Nat} {z0 z : ow_MS}  {go : Nat → Int32 → Int32 → Int32 → Int32 → Int32 → Int32 → Int32 → ow_MS → Option ow_MS} {x1 : Int32} {x2 : Int32} {x3 : Int32} {x4 : Int32} {x5 : Int32} {t0 : Int32} {t1 : Int32}  (hgo : ∀ (L : Nat) (x1 : Int32) (x2 : Int32) (x3 : Int32) (x4 : Int32) (x5 : Int32) (t0 : Int32) (t1 : Int32) (z : ow_MS), fr (pf [108, 109, 110, 111, 112, 113, 114] []) z0 z → Fo id (pf [108, 109, 110, 111, 112, 113, 114] []) z0 (go L x1 x2 x3 x4 x5 t0 t1 z)) (hz : fr (pf [108, 109, 110, 111, 112, 113, 114] []) z0 z)  : Fo id (pf [108, 109, 110, 111, 112, 113, 114] []) z0 (qm_X13_cycle_5 K go x1 x2 x3 x4 x5 t0 t1 z) := by
  unfold qm_X13_cycle_5
  exact (fo_cs0 (ff_X13_normalise) (pf_sub (by decide) pf_0) hz (fun z14 h_z14 => (fo_some h_z14)))
theorem fq_X13_cycle {K : Nat} {z0 : ow_MS}   : ∀ (k L : Nat) (x1 : Int32) (x2 : Int32) (x3 : Int32) (x4 : Int32) (x5 : Int32) (t0 : Int32) (t1 : Int32) (z : ow_MS), fr (pf [108, 109, 110, 111, 112, 113, 114] []) z0 z → Fo id (pf [108, 109, 110, 111, 112, 113, 114] []) z0 (q_X13_cycle K k L x1 x2 x3 x4 x5 t0 t1 z)
  | 0 => by
    intros
    exact fo_none
  | k + 1 => by
    intro L x1 x2 x3 x4 x5 t0 t1 z hz 
    show Fo id (pf [108, 109, 110, 111, 112, 113, 114] []) z0 (qb_X13_cycle K (q_X13_cycle K k) L x1 x2 x3 x4 x5 t0 t1 z)
    unfold qb_X13_cycle
    split
    · exact fb_X13_cycle_0 (fq_X13_cycle k) hz 
    · exact fb_X13_cycle_1 (fq_X13_cycle k) hz 
    · exact fb_X13_cycle_2 (fq_X13_cycle k) hz 
    · exact fb_X13_cycle_3 (fq_X13_cycle k) hz 
    · exact fb_X13_cycle_4 (fq_X13_cycle k) hz 
    · exact fb_X13_cycle_5 (fq_X13_cycle k) hz 
    · exact fo_none
theorem ff_X13_cycle {K : Nat} {x1 : Int32} {x2 : Int32} {z : ow_MS}  : Fo id (pf [108, 109, 110, 111, 112, 113, 114] []) z (qe_X13_cycle K x1 x2 z) := fq_X13_cycle K 0 _ _ _ _ _ _ _ z fr_rf 
theorem fb_X13_summitOf_0 {K : Nat} {z0 z : ow_MS}  {go : Nat → Int32 → Int32 → Int32 → Int32 → Int32 → Int32 → ow_MS → Option ow_MS} {x1 : Int32} {x2 : Int32} {x3 : Int32} {x4 : Int32} {x5 : Int32} {t0 : Int32}  (hgo : ∀ (L : Nat) (x1 : Int32) (x2 : Int32) (x3 : Int32) (x4 : Int32) (x5 : Int32) (t0 : Int32) (z : ow_MS), fr (pf [108, 109, 110, 111, 112, 113, 114] []) z0 z → Fo id (pf [108, 109, 110, 111, 112, 113, 114] []) z0 (go L x1 x2 x3 x4 x5 t0 z)) (hz : fr (pf [108, 109, 110, 111, 112, 113, 114] []) z0 z)  : Fo id (pf [108, 109, 110, 111, 112, 113, 114] []) z0 (qm_X13_summitOf_0 K go x1 x2 x3 x4 x5 t0 z) := by
  unfold qm_X13_summitOf_0
  exact (fo_cs0 (ff_X13_formOf) (pf_sub (by decide) pf_0) hz (fun z1 h_z1 => (fo_rdI (fun v2 => (fo_rdI (fun v3 => (fo_rdI (fun v4 => (hgo 1 _ _ _ _ _ _ z1 h_z1)))))))))
theorem fb_X13_summitOf_1 {K : Nat} {z0 z : ow_MS}  {go : Nat → Int32 → Int32 → Int32 → Int32 → Int32 → Int32 → ow_MS → Option ow_MS} {x1 : Int32} {x2 : Int32} {x3 : Int32} {x4 : Int32} {x5 : Int32} {t0 : Int32}  (hgo : ∀ (L : Nat) (x1 : Int32) (x2 : Int32) (x3 : Int32) (x4 : Int32) (x5 : Int32) (t0 : Int32) (z : ow_MS), fr (pf [108, 109, 110, 111, 112, 113, 114] []) z0 z → Fo id (pf [108, 109, 110, 111, 112, 113, 114] []) z0 (go L x1 x2 x3 x4 x5 t0 z)) (hz : fr (pf [108, 109, 110, 111, 112, 113, 114] []) z0 z)  : Fo id (pf [108, 109, 110, 111, 112, 113, 114] []) z0 (qm_X13_summitOf_1 K go x1 x2 x3 x4 x5 t0 z) := by
  unfold qm_X13_summitOf_1
  exact (fo_if (hgo 3 _ _ _ _ _ _ z hz) (fo_rdF (fun v5 => (fo_if (hgo 3 _ _ _ _ _ _ z hz) (fo_rdF (fun v6 => (fo_cs0 (ff_X13_cycle) (pf_sub (by decide) pf_0) hz (fun z7 h_z7 => (fo_rdF (fun v8 => (fo_if (hgo 2 _ _ _ _ _ _ z7 h_z7) (hgo 2 _ _ _ _ _ _ z7 h_z7))))))))))))
theorem fb_X13_summitOf_2 {K : Nat} {z0 z : ow_MS}  {go : Nat → Int32 → Int32 → Int32 → Int32 → Int32 → Int32 → ow_MS → Option ow_MS} {x1 : Int32} {x2 : Int32} {x3 : Int32} {x4 : Int32} {x5 : Int32} {t0 : Int32}  (hgo : ∀ (L : Nat) (x1 : Int32) (x2 : Int32) (x3 : Int32) (x4 : Int32) (x5 : Int32) (t0 : Int32) (z : ow_MS), fr (pf [108, 109, 110, 111, 112, 113, 114] []) z0 z → Fo id (pf [108, 109, 110, 111, 112, 113, 114] []) z0 (go L x1 x2 x3 x4 x5 t0 z)) (hz : fr (pf [108, 109, 110, 111, 112, 113, 114] []) z0 z)  : Fo id (pf [108, 109, 110, 111, 112, 113, 114] []) z0 (qm_X13_summitOf_2 K go x1 x2 x3 x4 x5 t0 z) := by
  unfold qm_X13_summitOf_2
  exact (hgo 1 _ _ _ _ _ _ z hz)
theorem fb_X13_summitOf_3 {K : Nat} {z0 z : ow_MS}  {go : Nat → Int32 → Int32 → Int32 → Int32 → Int32 → Int32 → ow_MS → Option ow_MS} {x1 : Int32} {x2 : Int32} {x3 : Int32} {x4 : Int32} {x5 : Int32} {t0 : Int32}  (hgo : ∀ (L : Nat) (x1 : Int32) (x2 : Int32) (x3 : Int32) (x4 : Int32) (x5 : Int32) (t0 : Int32) (z : ow_MS), fr (pf [108, 109, 110, 111, 112, 113, 114] []) z0 z → Fo id (pf [108, 109, 110, 111, 112, 113, 114] []) z0 (go L x1 x2 x3 x4 x5 t0 z)) (hz : fr (pf [108, 109, 110, 111, 112, 113, 114] []) z0 z)  : Fo id (pf [108, 109, 110, 111, 112, 113, 114] []) z0 (qm_X13_summitOf_3 K go x1 x2 x3 x4 x5 t0 z) := by
  unfold qm_X13_summitOf_3
  exact (hgo 4 _ _ _ _ _ _ z hz)
theorem fb_X13_summitOf_4 {K : Nat} {z0 z : ow_MS}  {go : Nat → Int32 → Int32 → Int32 → Int32 → Int32 → Int32 → ow_MS → Option ow_MS} {x1 : Int32} {x2 : Int32} {x3 : Int32} {x4 : Int32} {x5 : Int32} {t0 : Int32}  (hgo : ∀ (L : Nat) (x1 : Int32) (x2 : Int32) (x3 : Int32) (x4 : Int32) (x5 : Int32) (t0 : Int32) (z : ow_MS), fr (pf [108, 109, 110, 111, 112, 113, 114] []) z0 z → Fo id (pf [108, 109, 110, 111, 112, 113, 114] []) z0 (go L x1 x2 x3 x4 x5 t0 z)) (hz : fr (pf [108, 109, 110, 111, 112, 113, 114] []) z0 z)  : Fo id (pf [108, 109, 110, 111, 112, 113, 114] []) z0 (qm_X13_summitOf_4 K go x1 x2 x3 x4 x5 t0 z) := by
  unfold qm_X13_summitOf_4
  exact (fo_if (fo_some hz) (fo_rdF (fun v9 => (fo_if (fo_some hz) (fo_rdF (fun v10 => (fo_rdF (fun v11 => (fo_cs0 (ff_X13_cycle) (pf_sub (by decide) pf_0) hz (fun z12 h_z12 => (fo_rdF (fun v13 => (fo_rdF (fun v14 => (fo_if (hgo 5 _ _ _ _ _ _ z12 h_z12) (hgo 5 _ _ _ _ _ _ z12 h_z12))))))))))))))))
theorem fb_X13_summitOf_5 {K : Nat} {z0 z : ow_MS}  {go : Nat → Int32 → Int32 → Int32 → Int32 → Int32 → Int32 → ow_MS → Option ow_MS} {x1 : Int32} {x2 : Int32} {x3 : Int32} {x4 : Int32} {x5 : Int32} {t0 : Int32}  (hgo : ∀ (L : Nat) (x1 : Int32) (x2 : Int32) (x3 : Int32) (x4 : Int32) (x5 : Int32) (t0 : Int32) (z : ow_MS), fr (pf [108, 109, 110, 111, 112, 113, 114] []) z0 z → Fo id (pf [108, 109, 110, 111, 112, 113, 114] []) z0 (go L x1 x2 x3 x4 x5 t0 z)) (hz : fr (pf [108, 109, 110, 111, 112, 113, 114] []) z0 z)  : Fo id (pf [108, 109, 110, 111, 112, 113, 114] []) z0 (qm_X13_summitOf_5 K go x1 x2 x3 x4 x5 t0 z) := by
  unfold qm_X13_summitOf_5
  exact (hgo 4 _ _ _ _ _ _ z hz)
theorem fq_X13_summitOf {K : Nat} {z0 : ow_MS}   : ∀ (k L : Nat) (x1 : Int32) (x2 : Int32) (x3 : Int32) (x4 : Int32) (x5 : Int32) (t0 : Int32) (z : ow_MS), fr (pf [108, 109, 110, 111, 112, 113, 114] []) z0 z → Fo id (pf [108, 109, 110, 111, 112, 113, 114] []) z0 (q_X13_summitOf K k L x1 x2 x3 x4 x5 t0 z)
  | 0 => by
    intros
    exact fo_none
  | k + 1 => by
    intro L x1 x2 x3 x4 x5 t0 z hz 
    show Fo id (pf [108, 109, 110, 111, 112, 113, 114] []) z0 (qb_X13_summitOf K (q_X13_summitOf K k) L x1 x2 x3 x4 x5 t0 z)
    unfold qb_X13_summitOf
    split
    · exact fb_X13_summitOf_0 (fq_X13_summitOf k) hz 
    · exact fb_X13_summitOf_1 (fq_X13_summitOf k) hz 
    · exact fb_X13_summitOf_2 (fq_X13_summitOf k) hz 
    · exact fb_X13_summitOf_3 (fq_X13_summitOf k) hz 
    · exact fb_X13_summitOf_4 (fq_X13_summitOf k) hz 
    · exact fb_X13_summitOf_5 (fq_X13_summitOf k) hz 
    · exact fo_none
theorem ff_X13_summitOf {K : Nat} {x1 : Int32} {z : ow_MS}  : Fo id (pf [108, 109, 110, 111, 112, 113, 114] []) z (qe_X13_summitOf K x1 z) := fq_X13_summitOf K 0 _ _ _ _ _ _ z fr_rf 
theorem fb_X13_isThere_0 {K : Nat} {z0 z : ow_MS}  {go : Nat → Int32 → Int32 → Nat → ow_MS → Option (Int32 × ow_MS)} {x2 : Int32} {x3 : Int32} {r1 : Nat}  (hgo : ∀ (L : Nat) (x2 : Int32) (x3 : Int32) (r1 : Nat) (z : ow_MS), fr (pf [] []) z0 z → Fo Prod.snd (pf [] []) z0 (go L x2 x3 r1 z)) (hz : fr (pf [] []) z0 z)  : Fo Prod.snd (pf [] []) z0 (qm_X13_isThere_0 K go x2 x3 r1 z) := by
  unfold qm_X13_isThere_0
  exact (hgo 1 _ _ _ z hz)
theorem fb_X13_isThere_1 {K : Nat} {z0 z : ow_MS}  {go : Nat → Int32 → Int32 → Nat → ow_MS → Option (Int32 × ow_MS)} {x2 : Int32} {x3 : Int32} {r1 : Nat}  (hgo : ∀ (L : Nat) (x2 : Int32) (x3 : Int32) (r1 : Nat) (z : ow_MS), fr (pf [] []) z0 z → Fo Prod.snd (pf [] []) z0 (go L x2 x3 r1 z)) (hz : fr (pf [] []) z0 z)  : Fo Prod.snd (pf [] []) z0 (qm_X13_isThere_1 K go x2 x3 r1 z) := by
  unfold qm_X13_isThere_1
  exact (fo_rdF (fun v1 => (fo_if (fo_okZ (fo_some hz)) (fo_if (fo_cs1 (ff_X13_isForm) (pf_sub (by decide) pf_0) hz (fun v3 z2 h_z2 => (hgo 1 _ _ _ z2 h_z2))) (fo_okZ (fo_some hz))))))
theorem fq_X13_isThere {K : Nat} {z0 : ow_MS}   : ∀ (k L : Nat) (x2 : Int32) (x3 : Int32) (r1 : Nat) (z : ow_MS), fr (pf [] []) z0 z → Fo Prod.snd (pf [] []) z0 (q_X13_isThere K k L x2 x3 r1 z)
  | 0 => by
    intros
    exact fo_none
  | k + 1 => by
    intro L x2 x3 r1 z hz 
    show Fo Prod.snd (pf [] []) z0 (qb_X13_isThere K (q_X13_isThere K k) L x2 x3 r1 z)
    unfold qb_X13_isThere
    split
    · exact fb_X13_isThere_0 (fq_X13_isThere k) hz 
    · exact fb_X13_isThere_1 (fq_X13_isThere k) hz 
    · exact fo_none
theorem ff_X13_isThere {K : Nat} {r1 : Nat} {z : ow_MS}  : Fo Prod.snd (pf [] []) z (qe_X13_isThere K r1 z) := fq_X13_isThere K 0 _ _ _ z fr_rf 
theorem fb_X13_allForms_0 {K : Nat} {z0 z : ow_MS}  {go : Nat → Int32 → Int32 → Int32 → Int32 → Int32 → ow_MS → Option (Int32 × ow_MS)} {x1 : Int32} {x2 : Int32} {x3 : Int32} {x4 : Int32} {x5 : Int32}  (hgo : ∀ (L : Nat) (x1 : Int32) (x2 : Int32) (x3 : Int32) (x4 : Int32) (x5 : Int32) (z : ow_MS), fr (pf [108, 109, 110, 111, 112, 113, 114, 115, 116, 117] []) z0 z → Fo Prod.snd (pf [108, 109, 110, 111, 112, 113, 114, 115, 116, 117] []) z0 (go L x1 x2 x3 x4 x5 z)) (hz : fr (pf [108, 109, 110, 111, 112, 113, 114, 115, 116, 117] []) z0 z)  : Fo Prod.snd (pf [108, 109, 110, 111, 112, 113, 114, 115, 116, 117] []) z0 (qm_X13_allForms_0 K go x1 x2 x3 x4 x5 z) := by
  unfold qm_X13_allForms_0
  exact (fo_cs0 (ff_X13_formTo) (pf_sub (by decide) (pf_1 (Or.inl (by decide)))) hz (fun z1 h_z1 => (fo_wrF (Or.inl (by decide)) h_z1 (fun z2 h_z2 => (hgo 1 _ _ _ _ _ z2 h_z2)))))
theorem fb_X13_allForms_1 {K : Nat} {z0 z : ow_MS}  {go : Nat → Int32 → Int32 → Int32 → Int32 → Int32 → ow_MS → Option (Int32 × ow_MS)} {x1 : Int32} {x2 : Int32} {x3 : Int32} {x4 : Int32} {x5 : Int32}  (hgo : ∀ (L : Nat) (x1 : Int32) (x2 : Int32) (x3 : Int32) (x4 : Int32) (x5 : Int32) (z : ow_MS), fr (pf [108, 109, 110, 111, 112, 113, 114, 115, 116, 117] []) z0 z → Fo Prod.snd (pf [108, 109, 110, 111, 112, 113, 114, 115, 116, 117] []) z0 (go L x1 x2 x3 x4 x5 z)) (hz : fr (pf [108, 109, 110, 111, 112, 113, 114, 115, 116, 117] []) z0 z)  : Fo Prod.snd (pf [108, 109, 110, 111, 112, 113, 114, 115, 116, 117] []) z0 (qm_X13_allForms_1 K go x1 x2 x3 x4 x5 z) := by
  unfold qm_X13_allForms_1
  exact (fo_rdF (fun v3 => (fo_if (fo_okZ (fo_some hz)) (hgo 2 _ _ _ _ _ z hz))))
theorem fb_X13_allForms_2 {K : Nat} {z0 z : ow_MS}  {go : Nat → Int32 → Int32 → Int32 → Int32 → Int32 → ow_MS → Option (Int32 × ow_MS)} {x1 : Int32} {x2 : Int32} {x3 : Int32} {x4 : Int32} {x5 : Int32}  (hgo : ∀ (L : Nat) (x1 : Int32) (x2 : Int32) (x3 : Int32) (x4 : Int32) (x5 : Int32) (z : ow_MS), fr (pf [108, 109, 110, 111, 112, 113, 114, 115, 116, 117] []) z0 z → Fo Prod.snd (pf [108, 109, 110, 111, 112, 113, 114, 115, 116, 117] []) z0 (go L x1 x2 x3 x4 x5 z)) (hz : fr (pf [108, 109, 110, 111, 112, 113, 114, 115, 116, 117] []) z0 z)  : Fo Prod.snd (pf [108, 109, 110, 111, 112, 113, 114, 115, 116, 117] []) z0 (qm_X13_allForms_2 K go x1 x2 x3 x4 x5 z) := by
  unfold qm_X13_allForms_2
  exact (fo_rdI (fun v4 => (fo_if (hgo 1 _ _ _ _ _ z hz) (fo_rdI (fun v5 => (fo_wrF (Or.inl (by decide)) hz (fun z6 h_z6 => (fo_rdI (fun v7 => (fo_cs1 (ff_X13_turned) (pf_sub (by decide) pf_0) h_z6 (fun v9 z8 h_z8 => (fo_cs0 (ff_X13_append) (pf_sub (by decide) pf_0) h_z8 (fun z10 h_z10 => (hgo 3 _ _ _ _ _ z10 h_z10))))))))))))))
theorem fb_X13_allForms_3 {K : Nat} {z0 z : ow_MS}  {go : Nat → Int32 → Int32 → Int32 → Int32 → Int32 → ow_MS → Option (Int32 × ow_MS)} {x1 : Int32} {x2 : Int32} {x3 : Int32} {x4 : Int32} {x5 : Int32}  (hgo : ∀ (L : Nat) (x1 : Int32) (x2 : Int32) (x3 : Int32) (x4 : Int32) (x5 : Int32) (z : ow_MS), fr (pf [108, 109, 110, 111, 112, 113, 114, 115, 116, 117] []) z0 z → Fo Prod.snd (pf [108, 109, 110, 111, 112, 113, 114, 115, 116, 117] []) z0 (go L x1 x2 x3 x4 x5 z)) (hz : fr (pf [108, 109, 110, 111, 112, 113, 114, 115, 116, 117] []) z0 z)  : Fo Prod.snd (pf [108, 109, 110, 111, 112, 113, 114, 115, 116, 117] []) z0 (qm_X13_allForms_3 K go x1 x2 x3 x4 x5 z) := by
  unfold qm_X13_allForms_3
  exact (fo_rdI (fun v11 => (fo_if (fo_cs0 (ff_X13_append) (pf_sub (by decide) pf_0) hz (fun z12 h_z12 => (fo_cs0 (ff_X13_normalise) (pf_sub (by decide) pf_0) h_z12 (fun z13 h_z13 => (fo_rdF (fun v14 => (fo_rdI (fun v15 => (fo_if (fo_rdF (fun v16 => (fo_rdI (fun v17 => (fo_if (fo_cs0 (ff_X13_formTo) (pf_sub (by decide) (pf_1 (Or.inl (by decide)))) h_z13 (fun z18 h_z18 => (fo_cs1 (ff_X13_isThere) (pf_sub (by decide) pf_0) h_z18 (fun v20 z19 h_z19 => (fo_if (fo_rdF (fun v21 => (fo_if (fo_okZ (fo_some h_z19)) (fo_rdF (fun v22 => (fo_cs0 (ff_X13_formTo) (pf_sub (by decide) (pf_1 (Or.inl (by decide)))) h_z19 (fun z23 h_z23 => (fo_rdF (fun v24 => (fo_wrF (Or.inl (by decide)) h_z23 (fun z25 h_z25 => (hgo 4 _ _ _ _ _ z25 h_z25)))))))))))) (hgo 4 _ _ _ _ _ z19 h_z19)))))) (hgo 4 _ _ _ _ _ z13 h_z13)))))) (hgo 4 _ _ _ _ _ z13 h_z13)))))))))) (fo_rdI (fun v26 => (fo_cs0 (ff_X13_append) (pf_sub (by decide) pf_0) hz (fun z27 h_z27 => (hgo 3 _ _ _ _ _ z27 h_z27))))))))
theorem fb_X13_allForms_4 {K : Nat} {z0 z : ow_MS}  {go : Nat → Int32 → Int32 → Int32 → Int32 → Int32 → ow_MS → Option (Int32 × ow_MS)} {x1 : Int32} {x2 : Int32} {x3 : Int32} {x4 : Int32} {x5 : Int32}  (hgo : ∀ (L : Nat) (x1 : Int32) (x2 : Int32) (x3 : Int32) (x4 : Int32) (x5 : Int32) (z : ow_MS), fr (pf [108, 109, 110, 111, 112, 113, 114, 115, 116, 117] []) z0 z → Fo Prod.snd (pf [108, 109, 110, 111, 112, 113, 114, 115, 116, 117] []) z0 (go L x1 x2 x3 x4 x5 z)) (hz : fr (pf [108, 109, 110, 111, 112, 113, 114, 115, 116, 117] []) z0 z)  : Fo Prod.snd (pf [108, 109, 110, 111, 112, 113, 114, 115, 116, 117] []) z0 (qm_X13_allForms_4 K go x1 x2 x3 x4 x5 z) := by
  unfold qm_X13_allForms_4
  exact (hgo 2 _ _ _ _ _ z hz)
theorem fq_X13_allForms {K : Nat} {z0 : ow_MS}   : ∀ (k L : Nat) (x1 : Int32) (x2 : Int32) (x3 : Int32) (x4 : Int32) (x5 : Int32) (z : ow_MS), fr (pf [108, 109, 110, 111, 112, 113, 114, 115, 116, 117] []) z0 z → Fo Prod.snd (pf [108, 109, 110, 111, 112, 113, 114, 115, 116, 117] []) z0 (q_X13_allForms K k L x1 x2 x3 x4 x5 z)
  | 0 => by
    intros
    exact fo_none
  | k + 1 => by
    intro L x1 x2 x3 x4 x5 z hz 
    show Fo Prod.snd (pf [108, 109, 110, 111, 112, 113, 114, 115, 116, 117] []) z0 (qb_X13_allForms K (q_X13_allForms K k) L x1 x2 x3 x4 x5 z)
    unfold qb_X13_allForms
    split
    · exact fb_X13_allForms_0 (fq_X13_allForms k) hz 
    · exact fb_X13_allForms_1 (fq_X13_allForms k) hz 
    · exact fb_X13_allForms_2 (fq_X13_allForms k) hz 
    · exact fb_X13_allForms_3 (fq_X13_allForms k) hz 
    · exact fb_X13_allForms_4 (fq_X13_allForms k) hz 
    · exact fo_none
theorem ff_X13_allForms {K : Nat} {x1 : Int32} {z : ow_MS}  : Fo Prod.snd (pf [108, 109, 110, 111, 112, 113, 114, 115, 116, 117] []) z (qe_X13_allForms K x1 z) := fq_X13_allForms K 0 _ _ _ _ _ z fr_rf 
theorem ff_X13_summit {K : Nat} {x1 : Int32} {z : ow_MS}  : Fo Prod.snd (pf [1, 108, 109, 110, 111, 112, 113, 114, 115, 116, 117] []) z (qe_X13_summit K x1 z) := by
  unfold qe_X13_summit qm_X13_summit_0
  exact (fo_wrF (Or.inl (by decide)) fr_rf (fun z1 h_z1 => (fo_cs1 (ff_X13_hasBraid) (pf_sub (by decide) pf_0) h_z1 (fun v3 z2 h_z2 => (fo_if (fo_cs1 (ff_X13_fails) (pf_sub (by decide) pf_0) h_z2 (fun v13 z12 h_z12 => (fo_some h_z12))) (fo_rdI (fun v4 => (fo_if (fo_cs1 (ff_X13_fails) (pf_sub (by decide) pf_0) h_z2 (fun v11 z10 h_z10 => (fo_some h_z10))) (fo_cs0 (ff_X13_summitOf) (pf_sub (by decide) pf_0) h_z2 (fun z5 h_z5 => (fo_rdI (fun v6 => (fo_cs1 (ff_X13_allForms) (pf_sub (by decide) pf_0) h_z5 (fun v8 z7 h_z7 => (fo_if (fo_some h_z7) (fo_rdF (fun v9 => (fo_some h_z7))))))))))))))))))
theorem fb_X13_conjugate_0 {K : Nat} {z0 z : ow_MS}  {go : Nat → Int32 → Int32 → ow_MS → Option (Int32 × ow_MS)} {x1 : Int32} {x2 : Int32}  (hgo : ∀ (L : Nat) (x1 : Int32) (x2 : Int32) (z : ow_MS), fr (pf [1, 108, 109, 110, 111, 112, 113, 114, 115, 116, 117, 118] []) z0 z → Fo Prod.snd (pf [1, 108, 109, 110, 111, 112, 113, 114, 115, 116, 117, 118] []) z0 (go L x1 x2 z)) (hz : fr (pf [1, 108, 109, 110, 111, 112, 113, 114, 115, 116, 117, 118] []) z0 z)  : Fo Prod.snd (pf [1, 108, 109, 110, 111, 112, 113, 114, 115, 116, 117, 118] []) z0 (qm_X13_conjugate_0 K go x1 x2 z) := by
  unfold qm_X13_conjugate_0
  exact (fo_wrF (Or.inl (by decide)) hz (fun z1 h_z1 => (fo_cs1 (ff_X13_hasBraid) (pf_sub (by decide) pf_0) h_z1 (fun v3 z2 h_z2 => (fo_if (hgo 1 _ _ z2 h_z2) (fo_cs1 (ff_X13_hasBraid) (pf_sub (by decide) pf_0) h_z2 (fun v5 z4 h_z4 => (fo_if (hgo 1 _ _ z4 h_z4) (fo_rdI (fun v6 => (fo_rdI (fun v7 => (fo_if (fo_rdI (fun v8 => (fo_if (fo_cs1 (ff_X13_fails) (pf_sub (by decide) pf_0) h_z4 (fun v20 z19 h_z19 => (fo_some h_z19))) (fo_cs0 (ff_X13_summitOf) (pf_sub (by decide) pf_0) h_z4 (fun z9 h_z9 => (fo_cs0 (ff_X13_formTo) (pf_sub (by decide) (pf_1 (Or.inl (by decide)))) h_z9 (fun z10 h_z10 => (fo_cs0 (ff_X13_summitOf) (pf_sub (by decide) pf_0) h_z10 (fun z11 h_z11 => (fo_cs1 (ff_X13_allForms) (pf_sub (by decide) pf_0) h_z11 (fun v13 z12 h_z12 => (fo_if (fo_some h_z12) (fo_cs1 (ff_X13_isThere) (pf_sub (by decide) pf_0) h_z12 (fun v15 z14 h_z14 => (fo_if (fo_cs0 (ff_X13_summitOf) (pf_sub (by decide) pf_0) h_z14 (fun z16 h_z16 => (fo_cs1 (ff_X13_allForms) (pf_sub (by decide) pf_0) h_z16 (fun v18 z17 h_z17 => (fo_if (fo_some h_z17) (fo_some h_z17)))))) (fo_some h_z14)))))))))))))))) (fo_cs1 (ff_X13_fails) (pf_sub (by decide) pf_0) h_z4 (fun v22 z21 h_z21 => (fo_some h_z21))))))))))))))))
theorem fb_X13_conjugate_1 {K : Nat} {z0 z : ow_MS}  {go : Nat → Int32 → Int32 → ow_MS → Option (Int32 × ow_MS)} {x1 : Int32} {x2 : Int32}  (hgo : ∀ (L : Nat) (x1 : Int32) (x2 : Int32) (z : ow_MS), fr (pf [1, 108, 109, 110, 111, 112, 113, 114, 115, 116, 117, 118] []) z0 z → Fo Prod.snd (pf [1, 108, 109, 110, 111, 112, 113, 114, 115, 116, 117, 118] []) z0 (go L x1 x2 z)) (hz : fr (pf [1, 108, 109, 110, 111, 112, 113, 114, 115, 116, 117, 118] []) z0 z)  : Fo Prod.snd (pf [1, 108, 109, 110, 111, 112, 113, 114, 115, 116, 117, 118] []) z0 (qm_X13_conjugate_1 K go x1 x2 z) := by
  unfold qm_X13_conjugate_1
  exact (fo_cs1 (ff_X13_fails) (pf_sub (by decide) pf_0) hz (fun v24 z23 h_z23 => (fo_some h_z23)))
theorem fq_X13_conjugate {K : Nat} {z0 : ow_MS}   : ∀ (k L : Nat) (x1 : Int32) (x2 : Int32) (z : ow_MS), fr (pf [1, 108, 109, 110, 111, 112, 113, 114, 115, 116, 117, 118] []) z0 z → Fo Prod.snd (pf [1, 108, 109, 110, 111, 112, 113, 114, 115, 116, 117, 118] []) z0 (q_X13_conjugate K k L x1 x2 z)
  | 0 => by
    intros
    exact fo_none
  | k + 1 => by
    intro L x1 x2 z hz 
    show Fo Prod.snd (pf [1, 108, 109, 110, 111, 112, 113, 114, 115, 116, 117, 118] []) z0 (qb_X13_conjugate K (q_X13_conjugate K k) L x1 x2 z)
    unfold qb_X13_conjugate
    split
    · exact fb_X13_conjugate_0 (fq_X13_conjugate k) hz 
    · exact fb_X13_conjugate_1 (fq_X13_conjugate k) hz 
    · exact fo_none
theorem ff_X13_conjugate {K : Nat} {x1 : Int32} {x2 : Int32} {z : ow_MS}  : Fo Prod.snd (pf [1, 108, 109, 110, 111, 112, 113, 114, 115, 116, 117, 118] []) z (qe_X13_conjugate K x1 x2 z) := fq_X13_conjugate K 0 _ _ z fr_rf 
theorem fb_X13_two_0 {K : Nat} {z0 z : ow_MS}  {go : Nat → Int32 → Int32 → Int32 → Int32 → ow_MS → Option (Int32 × ow_MS)} {x1 : Int32} {x2 : Int32} {x3 : Int32} {x4 : Int32}  (hgo : ∀ (L : Nat) (x1 : Int32) (x2 : Int32) (x3 : Int32) (x4 : Int32) (z : ow_MS), fr (pf [1, 2, 3, 4, 5, 6, 7, 8, 9, 27, 41, 42, 44, 45, 46, 120] []) z0 z → Fo Prod.snd (pf [1, 2, 3, 4, 5, 6, 7, 8, 9, 27, 41, 42, 44, 45, 46, 120] []) z0 (go L x1 x2 x3 x4 z)) (hz : fr (pf [1, 2, 3, 4, 5, 6, 7, 8, 9, 27, 41, 42, 44, 45, 46, 120] []) z0 z)  : Fo Prod.snd (pf [1, 2, 3, 4, 5, 6, 7, 8, 9, 27, 41, 42, 44, 45, 46, 120] []) z0 (qm_X13_two_0 K go x1 x2 x3 x4 z) := by
  unfold qm_X13_two_0
  exact (fo_wrF (Or.inl (by decide)) hz (fun z1 h_z1 => (fo_cs1 (ff_X13_hasBraid) (pf_sub (by decide) pf_0) h_z1 (fun v3 z2 h_z2 => (fo_if (fo_cs1 (ff_X13_fails) (pf_sub (by decide) pf_0) h_z2 (fun v12 z11 h_z11 => (fo_some h_z11))) (fo_rdI (fun v4 => (fo_if (fo_cs0 (ff_X13_close) (pf_sub (by decide) pf_0) h_z2 (fun z5 h_z5 => (fo_cs0 (ff_X13_pack (by first | omega | decide)) (pf_sub (by decide) (pf_1 (Or.inl (by decide)))) h_z5 (fun z6 h_z6 => (fo_cs1 (ff_X13_isSame) (pf_sub (by decide) pf_0) h_z6 (fun v8 z7 h_z7 => (fo_if (hgo 1 _ _ _ _ z7 h_z7) (hgo 3 _ _ _ _ z7 h_z7)))))))) (fo_cs1 (ff_X13_fails) (pf_sub (by decide) pf_0) h_z2 (fun v10 z9 h_z9 => (fo_some h_z9)))))))))))
theorem fb_X13_two_1 {K : Nat} {z0 z : ow_MS}  {go : Nat → Int32 → Int32 → Int32 → Int32 → ow_MS → Option (Int32 × ow_MS)} {x1 : Int32} {x2 : Int32} {x3 : Int32} {x4 : Int32}  (hgo : ∀ (L : Nat) (x1 : Int32) (x2 : Int32) (x3 : Int32) (x4 : Int32) (z : ow_MS), fr (pf [1, 2, 3, 4, 5, 6, 7, 8, 9, 27, 41, 42, 44, 45, 46, 120] []) z0 z → Fo Prod.snd (pf [1, 2, 3, 4, 5, 6, 7, 8, 9, 27, 41, 42, 44, 45, 46, 120] []) z0 (go L x1 x2 x3 x4 z)) (hz : fr (pf [1, 2, 3, 4, 5, 6, 7, 8, 9, 27, 41, 42, 44, 45, 46, 120] []) z0 z)  : Fo Prod.snd (pf [1, 2, 3, 4, 5, 6, 7, 8, 9, 27, 41, 42, 44, 45, 46, 120] []) z0 (qm_X13_two_1 K go x1 x2 x3 x4 z) := by
  unfold qm_X13_two_1
  exact (fo_if (fo_rdN (fun n13 hn13 => (fo_cs0 (ff_X13_unpack (by first | omega | decide)) (pf_sub (by decide) pf_0) hz (fun z14 h_z14 => (fo_okZ (fo_wrF (Or.inl (by decide)) h_z14 (fun z15 h_z15 => (fo_cs0 (ff_X13_skein) (pf_sub (by decide) pf_0) h_z15 (fun z16 h_z16 => (hgo 2 _ _ _ _ z16 h_z16)))))))))) (fo_wrJ (Or.inl (by decide)) hz (fun z17 h_z17 => (hgo 1 _ _ _ _ z17 h_z17))))
theorem fb_X13_two_2 {K : Nat} {z0 z : ow_MS}  {go : Nat → Int32 → Int32 → Int32 → Int32 → ow_MS → Option (Int32 × ow_MS)} {x1 : Int32} {x2 : Int32} {x3 : Int32} {x4 : Int32}  (hgo : ∀ (L : Nat) (x1 : Int32) (x2 : Int32) (x3 : Int32) (x4 : Int32) (z : ow_MS), fr (pf [1, 2, 3, 4, 5, 6, 7, 8, 9, 27, 41, 42, 44, 45, 46, 120] []) z0 z → Fo Prod.snd (pf [1, 2, 3, 4, 5, 6, 7, 8, 9, 27, 41, 42, 44, 45, 46, 120] []) z0 (go L x1 x2 x3 x4 z)) (hz : fr (pf [1, 2, 3, 4, 5, 6, 7, 8, 9, 27, 41, 42, 44, 45, 46, 120] []) z0 z)  : Fo Prod.snd (pf [1, 2, 3, 4, 5, 6, 7, 8, 9, 27, 41, 42, 44, 45, 46, 120] []) z0 (qm_X13_two_2 K go x1 x2 x3 x4 z) := by
  unfold qm_X13_two_2
  exact (fo_if (hgo 3 _ _ _ _ z hz) (fo_rdI (fun v18 => (fo_wrI (Or.inl (by decide)) hz (fun z19 h_z19 => (hgo 2 _ _ _ _ z19 h_z19))))))
theorem fb_X13_two_3 {K : Nat} {z0 z : ow_MS}  {go : Nat → Int32 → Int32 → Int32 → Int32 → ow_MS → Option (Int32 × ow_MS)} {x1 : Int32} {x2 : Int32} {x3 : Int32} {x4 : Int32}  (hgo : ∀ (L : Nat) (x1 : Int32) (x2 : Int32) (x3 : Int32) (x4 : Int32) (z : ow_MS), fr (pf [1, 2, 3, 4, 5, 6, 7, 8, 9, 27, 41, 42, 44, 45, 46, 120] []) z0 z → Fo Prod.snd (pf [1, 2, 3, 4, 5, 6, 7, 8, 9, 27, 41, 42, 44, 45, 46, 120] []) z0 (go L x1 x2 x3 x4 z)) (hz : fr (pf [1, 2, 3, 4, 5, 6, 7, 8, 9, 27, 41, 42, 44, 45, 46, 120] []) z0 z)  : Fo Prod.snd (pf [1, 2, 3, 4, 5, 6, 7, 8, 9, 27, 41, 42, 44, 45, 46, 120] []) z0 (qm_X13_two_3 K go x1 x2 x3 x4 z) := by
  unfold qm_X13_two_3
  exact (fo_if (hgo 4 _ _ _ _ z hz) (fo_if (hgo 4 _ _ _ _ z hz) (fo_if (hgo 4 _ _ _ _ z hz) (fo_if (fo_rdJ (fun v20 => (fo_some hz))) (hgo 4 _ _ _ _ z hz)))))
theorem fb_X13_two_4 {K : Nat} {z0 z : ow_MS}  {go : Nat → Int32 → Int32 → Int32 → Int32 → ow_MS → Option (Int32 × ow_MS)} {x1 : Int32} {x2 : Int32} {x3 : Int32} {x4 : Int32}  (hgo : ∀ (L : Nat) (x1 : Int32) (x2 : Int32) (x3 : Int32) (x4 : Int32) (z : ow_MS), fr (pf [1, 2, 3, 4, 5, 6, 7, 8, 9, 27, 41, 42, 44, 45, 46, 120] []) z0 z → Fo Prod.snd (pf [1, 2, 3, 4, 5, 6, 7, 8, 9, 27, 41, 42, 44, 45, 46, 120] []) z0 (go L x1 x2 x3 x4 z)) (hz : fr (pf [1, 2, 3, 4, 5, 6, 7, 8, 9, 27, 41, 42, 44, 45, 46, 120] []) z0 z)  : Fo Prod.snd (pf [1, 2, 3, 4, 5, 6, 7, 8, 9, 27, 41, 42, 44, 45, 46, 120] []) z0 (qm_X13_two_4 K go x1 x2 x3 x4 z) := by
  unfold qm_X13_two_4
  exact (fo_some hz)
theorem fq_X13_two {K : Nat} {z0 : ow_MS}   : ∀ (k L : Nat) (x1 : Int32) (x2 : Int32) (x3 : Int32) (x4 : Int32) (z : ow_MS), fr (pf [1, 2, 3, 4, 5, 6, 7, 8, 9, 27, 41, 42, 44, 45, 46, 120] []) z0 z → Fo Prod.snd (pf [1, 2, 3, 4, 5, 6, 7, 8, 9, 27, 41, 42, 44, 45, 46, 120] []) z0 (q_X13_two K k L x1 x2 x3 x4 z)
  | 0 => by
    intros
    exact fo_none
  | k + 1 => by
    intro L x1 x2 x3 x4 z hz 
    show Fo Prod.snd (pf [1, 2, 3, 4, 5, 6, 7, 8, 9, 27, 41, 42, 44, 45, 46, 120] []) z0 (qb_X13_two K (q_X13_two K k) L x1 x2 x3 x4 z)
    unfold qb_X13_two
    split
    · exact fb_X13_two_0 (fq_X13_two k) hz 
    · exact fb_X13_two_1 (fq_X13_two k) hz 
    · exact fb_X13_two_2 (fq_X13_two k) hz 
    · exact fb_X13_two_3 (fq_X13_two k) hz 
    · exact fb_X13_two_4 (fq_X13_two k) hz 
    · exact fo_none
theorem ff_X13_two {K : Nat} {x1 : Int32} {x2 : Int32} {x3 : Int32} {z : ow_MS}  : Fo Prod.snd (pf [1, 2, 3, 4, 5, 6, 7, 8, 9, 27, 41, 42, 44, 45, 46, 120] []) z (qe_X13_two K x1 x2 x3 z) := fq_X13_two K 0 _ _ _ _ z fr_rf 
end
