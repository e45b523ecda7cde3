section
/-! 99zzzzzzzzzzzzic.fo2 -/
/-! frames of the reference, on -/
theorem fb_X13_isParted_0 {K : Nat} {z0 z : ow_MS}  {go : Nat → Int32 → Int32 → Int32 → Int32 → Int32 → Int32 → Int32 → Nat → Int32 → Int32 → ow_MS → Option (Int32 × ow_MS)} {x2 : Int32} {x3 : Int32} {x4 : Int32} {x5 : Int32} {x6 : Int32} {x7 : Int32} {x8 : Int32} {r1 : Nat} {t0 : Int32} {t1 : Int32}  (hgo : ∀ (L : Nat) (x2 : Int32) (x3 : Int32) (x4 : Int32) (x5 : Int32) (x6 : Int32) (x7 : Int32) (x8 : Int32) (r1 : Nat) (t0 : Int32) (t1 : Int32) (z : ow_MS), fr (pf [38] []) z0 z → (L = 0 ∨ L = 1 ∨ L = 2 ∨ L = 3 ∨ L = 4 ∨ L = 5 ∨ L = 6 ∨ L = 7 → 1000 ≤ r1) → Fo Prod.snd (pf [38] []) z0 (go L x2 x3 x4 x5 x6 x7 x8 r1 t0 t1 z)) (hz : fr (pf [38] []) z0 z) (hr1 : 1000 ≤ r1) : Fo Prod.snd (pf [38] []) z0 (qm_X13_isParted_0 K go x2 x3 x4 x5 x6 x7 x8 r1 t0 t1 z) := by
  unfold qm_X13_isParted_0
  exact (hgo 1 _ _ _ _ _ _ _ _ _ _ z hz (fun _ => (by first | omega | decide)))
theorem fb_X13_isParted_1 {K : Nat} {z0 z : ow_MS}  {go : Nat → Int32 → Int32 → Int32 → Int32 → Int32 → Int32 → Int32 → Nat → Int32 → Int32 → ow_MS → Option (Int32 × ow_MS)} {x2 : Int32} {x3 : Int32} {x4 : Int32} {x5 : Int32} {x6 : Int32} {x7 : Int32} {x8 : Int32} {r1 : Nat} {t0 : Int32} {t1 : Int32}  (hgo : ∀ (L : Nat) (x2 : Int32) (x3 : Int32) (x4 : Int32) (x5 : Int32) (x6 : Int32) (x7 : Int32) (x8 : Int32) (r1 : Nat) (t0 : Int32) (t1 : Int32) (z : ow_MS), fr (pf [38] []) z0 z → (L = 0 ∨ L = 1 ∨ L = 2 ∨ L = 3 ∨ L = 4 ∨ L = 5 ∨ L = 6 ∨ L = 7 → 1000 ≤ r1) → Fo Prod.snd (pf [38] []) z0 (go L x2 x3 x4 x5 x6 x7 x8 r1 t0 t1 z)) (hz : fr (pf [38] []) z0 z) (hr1 : 1000 ≤ r1) : Fo Prod.snd (pf [38] []) z0 (qm_X13_isParted_1 K go x2 x3 x4 x5 x6 x7 x8 r1 t0 t1 z) := by
  unfold qm_X13_isParted_1
  exact (fo_rdF (fun v1 => (fo_if (hgo 4 _ _ _ _ _ _ _ _ _ _ z hz (fun _ => (by first | omega | decide))) (fo_if (hgo 2 _ _ _ _ _ _ _ _ _ _ z hz (fun _ => (by first | omega | decide))) (fo_if (hgo 2 _ _ _ _ _ _ _ _ _ _ z hz (fun _ => (by first | omega | decide))) (hgo 3 _ _ _ _ _ _ _ _ _ _ z hz (fun _ => (by first | omega | decide))))))))
theorem fb_X13_isParted_2 {K : Nat} {z0 z : ow_MS}  {go : Nat → Int32 → Int32 → Int32 → Int32 → Int32 → Int32 → Int32 → Nat → Int32 → Int32 → ow_MS → Option (Int32 × ow_MS)} {x2 : Int32} {x3 : Int32} {x4 : Int32} {x5 : Int32} {x6 : Int32} {x7 : Int32} {x8 : Int32} {r1 : Nat} {t0 : Int32} {t1 : Int32}  (hgo : ∀ (L : Nat) (x2 : Int32) (x3 : Int32) (x4 : Int32) (x5 : Int32) (x6 : Int32) (x7 : Int32) (x8 : Int32) (r1 : Nat) (t0 : Int32) (t1 : Int32) (z : ow_MS), fr (pf [38] []) z0 z → (L = 0 ∨ L = 1 ∨ L = 2 ∨ L = 3 ∨ L = 4 ∨ L = 5 ∨ L = 6 ∨ L = 7 → 1000 ≤ r1) → Fo Prod.snd (pf [38] []) z0 (go L x2 x3 x4 x5 x6 x7 x8 r1 t0 t1 z)) (hz : fr (pf [38] []) z0 z) (hr1 : 1000 ≤ r1) : Fo Prod.snd (pf [38] []) z0 (qm_X13_isParted_2 K go x2 x3 x4 x5 x6 x7 x8 r1 t0 t1 z) := by
  unfold qm_X13_isParted_2
  exact (hgo 3 _ _ _ _ _ _ _ _ _ _ z hz (fun _ => (by first | omega | decide)))
theorem fb_X13_isParted_3 {K : Nat} {z0 z : ow_MS}  {go : Nat → Int32 → Int32 → Int32 → Int32 → Int32 → Int32 → Int32 → Nat → Int32 → Int32 → ow_MS → Option (Int32 × ow_MS)} {x2 : Int32} {x3 : Int32} {x4 : Int32} {x5 : Int32} {x6 : Int32} {x7 : Int32} {x8 : Int32} {r1 : Nat} {t0 : Int32} {t1 : Int32}  (hgo : ∀ (L : Nat) (x2 : Int32) (x3 : Int32) (x4 : Int32) (x5 : Int32) (x6 : Int32) (x7 : Int32) (x8 : Int32) (r1 : Nat) (t0 : Int32) (t1 : Int32) (z : ow_MS), fr (pf [38] []) z0 z → (L = 0 ∨ L = 1 ∨ L = 2 ∨ L = 3 ∨ L = 4 ∨ L = 5 ∨ L = 6 ∨ L = 7 → 1000 ≤ r1) → Fo Prod.snd (pf [38] []) z0 (go L x2 x3 x4 x5 x6 x7 x8 r1 t0 t1 z)) (hz : fr (pf [38] []) z0 z) (hr1 : 1000 ≤ r1) : Fo Prod.snd (pf [38] []) z0 (qm_X13_isParted_3 K go x2 x3 x4 x5 x6 x7 x8 r1 t0 t1 z) := by
  unfold qm_X13_isParted_3
  exact (fo_wrZ (Or.inl (by decide)) hz (fun z2 h_z2 => (hgo 1 _ _ _ _ _ _ _ _ _ _ z2 h_z2 (fun _ => (by first | omega | decide)))))
theorem fb_X13_isParted_4 {K : Nat} {z0 z : ow_MS}  {go : Nat → Int32 → Int32 → Int32 → Int32 → Int32 → Int32 → Int32 → Nat → Int32 → Int32 → ow_MS → Option (Int32 × ow_MS)} {x2 : Int32} {x3 : Int32} {x4 : Int32} {x5 : Int32} {x6 : Int32} {x7 : Int32} {x8 : Int32} {r1 : Nat} {t0 : Int32} {t1 : Int32}  (hgo : ∀ (L : Nat) (x2 : Int32) (x3 : Int32) (x4 : Int32) (x5 : Int32) (x6 : Int32) (x7 : Int32) (x8 : Int32) (r1 : Nat) (t0 : Int32) (t1 : Int32) (z : ow_MS), fr (pf [38] []) z0 z → (L = 0 ∨ L = 1 ∨ L = 2 ∨ L = 3 ∨ L = 4 ∨ L = 5 ∨ L = 6 ∨ L = 7 → 1000 ≤ r1) → Fo Prod.snd (pf [38] []) z0 (go L x2 x3 x4 x5 x6 x7 x8 r1 t0 t1 z)) (hz : fr (pf [38] []) z0 z) (hr1 : 1000 ≤ r1) : Fo Prod.snd (pf [38] []) z0 (qm_X13_isParted_4 K go x2 x3 x4 x5 x6 x7 x8 r1 t0 t1 z) := by
  unfold qm_X13_isParted_4
  exact (fo_if (fo_okZ (fo_some hz)) (hgo 5 _ _ _ _ _ _ _ _ _ _ z hz (fun _ => (by first | omega | decide))))
theorem fb_X13_isParted_5 {K : Nat} {z0 z : ow_MS}  {go : Nat → Int32 → Int32 → Int32 → Int32 → Int32 → Int32 → Int32 → Nat → Int32 → Int32 → ow_MS → Option (Int32 × ow_MS)} {x2 : Int32} {x3 : Int32} {x4 : Int32} {x5 : Int32} {x6 : Int32} {x7 : Int32} {x8 : Int32} {r1 : Nat} {t0 : Int32} {t1 : Int32}  (hgo : ∀ (L : Nat) (x2 : Int32) (x3 : Int32) (x4 : Int32) (x5 : Int32) (x6 : Int32) (x7 : Int32) (x8 : Int32) (r1 : Nat) (t0 : Int32) (t1 : Int32) (z : ow_MS), fr (pf [38] []) z0 z → (L = 0 ∨ L = 1 ∨ L = 2 ∨ L = 3 ∨ L = 4 ∨ L = 5 ∨ L = 6 ∨ L = 7 → 1000 ≤ r1) → Fo Prod.snd (pf [38] []) z0 (go L x2 x3 x4 x5 x6 x7 x8 r1 t0 t1 z)) (hz : fr (pf [38] []) z0 z) (hr1 : 1000 ≤ r1) : Fo Prod.snd (pf [38] []) z0 (qm_X13_isParted_5 K go x2 x3 x4 x5 x6 x7 x8 r1 t0 t1 z) := by
  unfold qm_X13_isParted_5
  exact (fo_rdF (fun v3 => (fo_if (hgo 4 _ _ _ _ _ _ _ _ _ _ z hz (fun _ => (by first | omega | decide))) (fo_rdI (fun v4 => (fo_if (hgo 7 _ _ _ _ _ _ _ _ _ _ z hz (fun _ => (by first | omega | decide))) (fo_rdI (fun v5 => (fo_rdI (fun v6 => (fo_if (fo_rdI (fun v7 => (fo_rdI (fun v8 => (fo_if (fo_okZ (fo_some hz)) (fo_rdI (fun v9 => (hgo 6 _ _ _ _ _ _ _ _ _ _ z hz (fun _ => (by first | omega | decide)))))))))) (hgo 7 _ _ _ _ _ _ _ _ _ _ z hz (fun _ => (by first | omega | decide))))))))))))))
theorem fb_X13_isParted_6 {K : Nat} {z0 z : ow_MS}  {go : Nat → Int32 → Int32 → Int32 → Int32 → Int32 → Int32 → Int32 → Nat → Int32 → Int32 → ow_MS → Option (Int32 × ow_MS)} {x2 : Int32} {x3 : Int32} {x4 : Int32} {x5 : Int32} {x6 : Int32} {x7 : Int32} {x8 : Int32} {r1 : Nat} {t0 : Int32} {t1 : Int32}  (hgo : ∀ (L : Nat) (x2 : Int32) (x3 : Int32) (x4 : Int32) (x5 : Int32) (x6 : Int32) (x7 : Int32) (x8 : Int32) (r1 : Nat) (t0 : Int32) (t1 : Int32) (z : ow_MS), fr (pf [38] []) z0 z → (L = 0 ∨ L = 1 ∨ L = 2 ∨ L = 3 ∨ L = 4 ∨ L = 5 ∨ L = 6 ∨ L = 7 → 1000 ≤ r1) → Fo Prod.snd (pf [38] []) z0 (go L x2 x3 x4 x5 x6 x7 x8 r1 t0 t1 z)) (hz : fr (pf [38] []) z0 z) (hr1 : 1000 ≤ r1) : Fo Prod.snd (pf [38] []) z0 (qm_X13_isParted_6 K go x2 x3 x4 x5 x6 x7 x8 r1 t0 t1 z) := by
  unfold qm_X13_isParted_6
  exact (fo_rdI (fun v10 => (fo_if (hgo 7 _ _ _ _ _ _ _ _ _ _ z hz (fun _ => (by first | omega | decide))) (fo_wrZ (Or.inl (by decide)) hz (fun z11 h_z11 => (hgo 6 _ _ _ _ _ _ _ _ _ _ z11 h_z11 (fun _ => (by first | omega | decide))))))))
theorem fb_X13_isParted_7 {K : Nat} {z0 z : ow_MS}  {go : Nat → Int32 → Int32 → Int32 → Int32 → Int32 → Int32 → Int32 → Nat → Int32 → Int32 → ow_MS → Option (Int32 × ow_MS)} {x2 : Int32} {x3 : Int32} {x4 : Int32} {x5 : Int32} {x6 : Int32} {x7 : Int32} {x8 : Int32} {r1 : Nat} {t0 : Int32} {t1 : Int32}  (hgo : ∀ (L : Nat) (x2 : Int32) (x3 : Int32) (x4 : Int32) (x5 : Int32) (x6 : Int32) (x7 : Int32) (x8 : Int32) (r1 : Nat) (t0 : Int32) (t1 : Int32) (z : ow_MS), fr (pf [38] []) z0 z → (L = 0 ∨ L = 1 ∨ L = 2 ∨ L = 3 ∨ L = 4 ∨ L = 5 ∨ L = 6 ∨ L = 7 → 1000 ≤ r1) → Fo Prod.snd (pf [38] []) z0 (go L x2 x3 x4 x5 x6 x7 x8 r1 t0 t1 z)) (hz : fr (pf [38] []) z0 z) (hr1 : 1000 ≤ r1) : Fo Prod.snd (pf [38] []) z0 (qm_X13_isParted_7 K go x2 x3 x4 x5 x6 x7 x8 r1 t0 t1 z) := by
  unfold qm_X13_isParted_7
  exact (hgo 5 _ _ _ _ _ _ _ _ _ _ z hz (fun _ => (by first | omega | decide)))
theorem fq_X13_isParted {K : Nat} {z0 : ow_MS}   : ∀ (k L : Nat) (x2 : Int32) (x3 : Int32) (x4 : Int32) (x5 : Int32) (x6 : Int32) (x7 : Int32) (x8 : Int32) (r1 : Nat) (t0 : Int32) (t1 : Int32) (z : ow_MS), fr (pf [38] []) z0 z → (L = 0 ∨ L = 1 ∨ L = 2 ∨ L = 3 ∨ L = 4 ∨ L = 5 ∨ L = 6 ∨ L = 7 → 1000 ≤ r1) → Fo Prod.snd (pf [38] []) z0 (q_X13_isParted K k L x2 x3 x4 x5 x6 x7 x8 r1 t0 t1 z)
  | 0 => by
    intros
    exact fo_none
  | k + 1 => by
    intro L x2 x3 x4 x5 x6 x7 x8 r1 t0 t1 z hz h9_r1
    show Fo Prod.snd (pf [38] []) z0 (qb_X13_isParted K (q_X13_isParted K k) L x2 x3 x4 x5 x6 x7 x8 r1 t0 t1 z)
    unfold qb_X13_isParted
    split
    · exact fb_X13_isParted_0 (fq_X13_isParted k) hz (h9_r1 (by decide))
    · exact fb_X13_isParted_1 (fq_X13_isParted k) hz (h9_r1 (by decide))
    · exact fb_X13_isParted_2 (fq_X13_isParted k) hz (h9_r1 (by decide))
    · exact fb_X13_isParted_3 (fq_X13_isParted k) hz (h9_r1 (by decide))
    · exact fb_X13_isParted_4 (fq_X13_isParted k) hz (h9_r1 (by decide))
    · exact fb_X13_isParted_5 (fq_X13_isParted k) hz (h9_r1 (by decide))
    · exact fb_X13_isParted_6 (fq_X13_isParted k) hz (h9_r1 (by decide))
    · exact fb_X13_isParted_7 (fq_X13_isParted k) hz (h9_r1 (by decide))
    · exact fo_none
theorem ff_X13_isParted {K : Nat} {r1 : Nat} {x2 : Int32} {x3 : Int32} {x4 : Int32} {z : ow_MS} (hr1 : 1000 ≤ r1) : Fo Prod.snd (pf [38] []) z (qe_X13_isParted K r1 x2 x3 x4 z) := fq_X13_isParted K 0 _ _ _ _ _ _ _ _ _ _ z fr_rf (fun _ => (by first | omega | decide))
theorem fb_X13_addSummand_0 {K : Nat} {z0 z : ow_MS}  {go : Nat → Int32 → Int32 → ow_MS → Option ow_MS} {x1 : Int32} {x2 : Int32}  (hgo : ∀ (L : Nat) (x1 : Int32) (x2 : Int32) (z : ow_MS), fr (pf [35, 36, 39] []) z0 z → Fo id (pf [35, 36, 39] []) z0 (go L x1 x2 z)) (hz : fr (pf [35, 36, 39] []) z0 z)  : Fo id (pf [35, 36, 39] []) z0 (qm_X13_addSummand_0 K go x1 x2 z) := by
  unfold qm_X13_addSummand_0
  exact (hgo 1 _ _ z hz)
theorem fb_X13_addSummand_1 {K : Nat} {z0 z : ow_MS}  {go : Nat → Int32 → Int32 → ow_MS → Option ow_MS} {x1 : Int32} {x2 : Int32}  (hgo : ∀ (L : Nat) (x1 : Int32) (x2 : Int32) (z : ow_MS), fr (pf [35, 36, 39] []) z0 z → Fo id (pf [35, 36, 39] []) z0 (go L x1 x2 z)) (hz : fr (pf [35, 36, 39] []) z0 z)  : Fo id (pf [35, 36, 39] []) z0 (qm_X13_addSummand_1 K go x1 x2 z) := by
  unfold qm_X13_addSummand_1
  exact (fo_rdI (fun v1 => (fo_if (fo_rdF (fun v2 => (hgo 2 _ _ z hz))) (fo_rdF (fun v3 => (fo_rdI (fun v4 => (fo_wrI (Or.inl (by decide)) hz (fun z5 h_z5 => (hgo 1 _ _ z5 h_z5))))))))))
theorem fb_X13_addSummand_2 {K : Nat} {z0 z : ow_MS}  {go : Nat → Int32 → Int32 → ow_MS → Option ow_MS} {x1 : Int32} {x2 : Int32}  (hgo : ∀ (L : Nat) (x1 : Int32) (x2 : Int32) (z : ow_MS), fr (pf [35, 36, 39] []) z0 z → Fo id (pf [35, 36, 39] []) z0 (go L x1 x2 z)) (hz : fr (pf [35, 36, 39] []) z0 z)  : Fo id (pf [35, 36, 39] []) z0 (qm_X13_addSummand_2 K go x1 x2 z) := by
  unfold qm_X13_addSummand_2
  exact (fo_if (hgo 3 _ _ z hz) (fo_rdF (fun v6 => (fo_rdI (fun v7 => (fo_cs1 (ff_X13_isLesser) (pf_sub (by decide) pf_0) hz (fun v9 z8 h_z8 => (fo_if (hgo 3 _ _ z8 h_z8) (fo_rdI (fun v10 => (fo_wrI (Or.inl (by decide)) h_z8 (fun z11 h_z11 => (hgo 2 _ _ z11 h_z11)))))))))))))
theorem fb_X13_addSummand_3 {K : Nat} {z0 z : ow_MS}  {go : Nat → Int32 → Int32 → ow_MS → Option ow_MS} {x1 : Int32} {x2 : Int32}  (hgo : ∀ (L : Nat) (x1 : Int32) (x2 : Int32) (z : ow_MS), fr (pf [35, 36, 39] []) z0 z → Fo id (pf [35, 36, 39] []) z0 (go L x1 x2 z)) (hz : fr (pf [35, 36, 39] []) z0 z)  : Fo id (pf [35, 36, 39] []) z0 (qm_X13_addSummand_3 K go x1 x2 z) := by
  unfold qm_X13_addSummand_3
  exact (fo_rdF (fun v12 => (fo_wrI (Or.inl (by decide)) hz (fun z13 h_z13 => (fo_rdF (fun v14 => (fo_wrF (Or.inl (by decide)) h_z13 (fun z15 h_z15 => (fo_some h_z15)))))))))
theorem fq_X13_addSummand {K : Nat} {z0 : ow_MS}   : ∀ (k L : Nat) (x1 : Int32) (x2 : Int32) (z : ow_MS), fr (pf [35, 36, 39] []) z0 z → Fo id (pf [35, 36, 39] []) z0 (q_X13_addSummand K k L x1 x2 z)
  | 0 => by
    intros
    exact fo_none
  | k + 1 => by
    intro L x1 x2 z hz 
    show Fo id (pf [35, 36, 39] []) z0 (qb_X13_addSummand K (q_X13_addSummand K k) L x1 x2 z)
    unfold qb_X13_addSummand
    split
    · exact fb_X13_addSummand_0 (fq_X13_addSummand k) hz 
    · exact fb_X13_addSummand_1 (fq_X13_addSummand k) hz 
    · exact fb_X13_addSummand_2 (fq_X13_addSummand k) hz 
    · exact fb_X13_addSummand_3 (fq_X13_addSummand k) hz 
    · exact fo_none
theorem ff_X13_addSummand {K : Nat} {x1 : Int32} {z : ow_MS}  : Fo id (pf [35, 36, 39] []) z (qe_X13_addSummand K x1 z) := fq_X13_addSummand K 0 _ _ z fr_rf 
theorem fb_X13_summands_0 {K : Nat} {z0 z : ow_MS}  {go : Nat → Int32 → Int32 → Int32 → Int32 → Int32 → Int32 → Int32 → Int32 → ow_MS → Option (Int32 × ow_MS)} {x1 : Int32} {x2 : Int32} {x3 : Int32} {x4 : Int32} {x5 : Int32} {x6 : Int32} {t0 : Int32} {t1 : Int32}  (hgo : ∀ (L : Nat) (x1 : Int32) (x2 : Int32) (x3 : Int32) (x4 : Int32) (x5 : Int32) (x6 : Int32) (t0 : Int32) (t1 : Int32) (z : ow_MS), fr (pf [1, 2, 3, 4, 5, 6, 7, 8, 9, 35, 36, 37, 38, 39] []) z0 z → Fo Prod.snd (pf [1, 2, 3, 4, 5, 6, 7, 8, 9, 35, 36, 37, 38, 39] []) z0 (go L x1 x2 x3 x4 x5 x6 t0 t1 z)) (hz : fr (pf [1, 2, 3, 4, 5, 6, 7, 8, 9, 35, 36, 37, 38, 39] []) z0 z)  : Fo Prod.snd (pf [1, 2, 3, 4, 5, 6, 7, 8, 9, 35, 36, 37, 38, 39] []) z0 (qm_X13_summands_0 K go x1 x2 x3 x4 x5 x6 t0 t1 z) := by
  unfold qm_X13_summands_0
  exact (fo_wrF (Or.inl (by decide)) hz (fun z1 h_z1 => (fo_cs1 (ff_X13_has) (pf_sub (by decide) pf_0) h_z1 (fun v3 z2 h_z2 => (fo_if (fo_cs1 (ff_X13_fails) (pf_sub (by decide) pf_0) h_z2 (fun v7 z6 h_z6 => (fo_some h_z6))) (fo_cs0 (ff_X13_open (by first | omega | decide)) (pf_sub (by decide) pf_0) h_z2 (fun z4 h_z4 => (fo_cs0 (ff_X12_split (by first | omega | decide)) (pf_sub (by decide) pf_0) h_z4 (fun z5 h_z5 => (hgo 1 _ _ _ _ _ _ _ _ z5 h_z5))))))))))
theorem fb_X13_summands_1 {K : Nat} {z0 z : ow_MS}  {go : Nat → Int32 → Int32 → Int32 → Int32 → Int32 → Int32 → Int32 → Int32 → ow_MS → Option (Int32 × ow_MS)} {x1 : Int32} {x2 : Int32} {x3 : Int32} {x4 : Int32} {x5 : Int32} {x6 : Int32} {t0 : Int32} {t1 : Int32}  (hgo : ∀ (L : Nat) (x1 : Int32) (x2 : Int32) (x3 : Int32) (x4 : Int32) (x5 : Int32) (x6 : Int32) (t0 : Int32) (t1 : Int32) (z : ow_MS), fr (pf [1, 2, 3, 4, 5, 6, 7, 8, 9, 35, 36, 37, 38, 39] []) z0 z → Fo Prod.snd (pf [1, 2, 3, 4, 5, 6, 7, 8, 9, 35, 36, 37, 38, 39] []) z0 (go L x1 x2 x3 x4 x5 x6 t0 t1 z)) (hz : fr (pf [1, 2, 3, 4, 5, 6, 7, 8, 9, 35, 36, 37, 38, 39] []) z0 z)  : Fo Prod.snd (pf [1, 2, 3, 4, 5, 6, 7, 8, 9, 35, 36, 37, 38, 39] []) z0 (qm_X13_summands_1 K go x1 x2 x3 x4 x5 x6 t0 t1 z) := by
  unfold qm_X13_summands_1
  exact (fo_rdF (fun v8 => (fo_if (fo_wrF (Or.inl (by decide)) hz (fun z9 h_z9 => (hgo 5 _ _ _ _ _ _ _ _ z9 h_z9))) (hgo 2 _ _ _ _ _ _ _ _ z hz))))
theorem fb_X13_summands_2 {K : Nat} {z0 z : ow_MS}  {go : Nat → Int32 → Int32 → Int32 → Int32 → Int32 → Int32 → Int32 → Int32 → ow_MS → Option (Int32 × ow_MS)} {x1 : Int32} {x2 : Int32} {x3 : Int32} {x4 : Int32} {x5 : Int32} {x6 : Int32} {t0 : Int32} {t1 : Int32}  (hgo : ∀ (L : Nat) (x1 : Int32) (x2 : Int32) (x3 : Int32) (x4 : Int32) (x5 : Int32) (x6 : Int32) (t0 : Int32) (t1 : Int32) (z : ow_MS), fr (pf [1, 2, 3, 4, 5, 6, 7, 8, 9, 35, 36, 37, 38, 39] []) z0 z → Fo Prod.snd (pf [1, 2, 3, 4, 5, 6, 7, 8, 9, 35, 36, 37, 38, 39] []) z0 (go L x1 x2 x3 x4 x5 x6 t0 t1 z)) (hz : fr (pf [1, 2, 3, 4, 5, 6, 7, 8, 9, 35, 36, 37, 38, 39] []) z0 z)  : Fo Prod.snd (pf [1, 2, 3, 4, 5, 6, 7, 8, 9, 35, 36, 37, 38, 39] []) z0 (qm_X13_summands_2 K go x1 x2 x3 x4 x5 x6 t0 t1 z) := by
  unfold qm_X13_summands_2
  exact (fo_rdF (fun v10 => (fo_if (fo_if (hgo 4 _ _ _ _ _ _ _ _ z hz) (fo_cs0 (ff_X13_waitsFor (by first | omega | decide)) (pf_sub (by decide) pf_0) hz (fun z11 h_z11 => (hgo 4 _ _ _ _ _ _ _ _ z11 h_z11)))) (fo_rdI (fun v12 => (fo_rdI (fun v13 => (fo_if (hgo 3 _ _ _ _ _ _ _ _ z hz) (hgo 3 _ _ _ _ _ _ _ _ z hz)))))))))
theorem fb_X13_summands_3 {K : Nat} {z0 z : ow_MS}  {go : Nat → Int32 → Int32 → Int32 → Int32 → Int32 → Int32 → Int32 → Int32 → ow_MS → Option (Int32 × ow_MS)} {x1 : Int32} {x2 : Int32} {x3 : Int32} {x4 : Int32} {x5 : Int32} {x6 : Int32} {t0 : Int32} {t1 : Int32}  (hgo : ∀ (L : Nat) (x1 : Int32) (x2 : Int32) (x3 : Int32) (x4 : Int32) (x5 : Int32) (x6 : Int32) (t0 : Int32) (t1 : Int32) (z : ow_MS), fr (pf [1, 2, 3, 4, 5, 6, 7, 8, 9, 35, 36, 37, 38, 39] []) z0 z → Fo Prod.snd (pf [1, 2, 3, 4, 5, 6, 7, 8, 9, 35, 36, 37, 38, 39] []) z0 (go L x1 x2 x3 x4 x5 x6 t0 t1 z)) (hz : fr (pf [1, 2, 3, 4, 5, 6, 7, 8, 9, 35, 36, 37, 38, 39] []) z0 z)  : Fo Prod.snd (pf [1, 2, 3, 4, 5, 6, 7, 8, 9, 35, 36, 37, 38, 39] []) z0 (qm_X13_summands_3 K go x1 x2 x3 x4 x5 x6 t0 t1 z) := by
  unfold qm_X13_summands_3
  exact (fo_wrZ (Or.inl (by decide)) hz (fun z14 h_z14 => (fo_rdI (fun v15 => (hgo 2 _ _ _ _ _ _ _ _ z14 h_z14)))))
theorem fb_X13_summands_4 {K : Nat} {z0 z : ow_MS}  {go : Nat → Int32 → Int32 → Int32 → Int32 → Int32 → Int32 → Int32 → Int32 → ow_MS → Option (Int32 × ow_MS)} {x1 : Int32} {x2 : Int32} {x3 : Int32} {x4 : Int32} {x5 : Int32} {x6 : Int32} {t0 : Int32} {t1 : Int32}  (hgo : ∀ (L : Nat) (x1 : Int32) (x2 : Int32) (x3 : Int32) (x4 : Int32) (x5 : Int32) (x6 : Int32) (t0 : Int32) (t1 : Int32) (z : ow_MS), fr (pf [1, 2, 3, 4, 5, 6, 7, 8, 9, 35, 36, 37, 38, 39] []) z0 z → Fo Prod.snd (pf [1, 2, 3, 4, 5, 6, 7, 8, 9, 35, 36, 37, 38, 39] []) z0 (go L x1 x2 x3 x4 x5 x6 t0 t1 z)) (hz : fr (pf [1, 2, 3, 4, 5, 6, 7, 8, 9, 35, 36, 37, 38, 39] []) z0 z)  : Fo Prod.snd (pf [1, 2, 3, 4, 5, 6, 7, 8, 9, 35, 36, 37, 38, 39] []) z0 (qm_X13_summands_4 K go x1 x2 x3 x4 x5 x6 t0 t1 z) := by
  unfold qm_X13_summands_4
  exact (hgo 1 _ _ _ _ _ _ _ _ z hz)
theorem fb_X13_summands_5 {K : Nat} {z0 z : ow_MS}  {go : Nat → Int32 → Int32 → Int32 → Int32 → Int32 → Int32 → Int32 → Int32 → ow_MS → Option (Int32 × ow_MS)} {x1 : Int32} {x2 : Int32} {x3 : Int32} {x4 : Int32} {x5 : Int32} {x6 : Int32} {t0 : Int32} {t1 : Int32}  (hgo : ∀ (L : Nat) (x1 : Int32) (x2 : Int32) (x3 : Int32) (x4 : Int32) (x5 : Int32) (x6 : Int32) (t0 : Int32) (t1 : Int32) (z : ow_MS), fr (pf [1, 2, 3, 4, 5, 6, 7, 8, 9, 35, 36, 37, 38, 39] []) z0 z → Fo Prod.snd (pf [1, 2, 3, 4, 5, 6, 7, 8, 9, 35, 36, 37, 38, 39] []) z0 (go L x1 x2 x3 x4 x5 x6 t0 t1 z)) (hz : fr (pf [1, 2, 3, 4, 5, 6, 7, 8, 9, 35, 36, 37, 38, 39] []) z0 z)  : Fo Prod.snd (pf [1, 2, 3, 4, 5, 6, 7, 8, 9, 35, 36, 37, 38, 39] []) z0 (qm_X13_summands_5 K go x1 x2 x3 x4 x5 x6 t0 t1 z) := by
  unfold qm_X13_summands_5
  exact (fo_if (fo_rdF (fun v16 => (fo_some hz))) (fo_cs0 (ff_X13_unpack (by first | omega | decide)) (pf_sub (by decide) pf_0) hz (fun z17 h_z17 => (fo_cs0 (ff_X12_link (by first | omega | decide)) (pf_sub (by decide) pf_0) h_z17 (fun z18 h_z18 => (hgo 6 _ _ _ _ _ _ _ _ z18 h_z18))))))
theorem fb_X13_summands_6 {K : Nat} {z0 z : ow_MS}  {go : Nat → Int32 → Int32 → Int32 → Int32 → Int32 → Int32 → Int32 → Int32 → ow_MS → Option (Int32 × ow_MS)} {x1 : Int32} {x2 : Int32} {x3 : Int32} {x4 : Int32} {x5 : Int32} {x6 : Int32} {t0 : Int32} {t1 : Int32}  (hgo : ∀ (L : Nat) (x1 : Int32) (x2 : Int32) (x3 : Int32) (x4 : Int32) (x5 : Int32) (x6 : Int32) (t0 : Int32) (t1 : Int32) (z : ow_MS), fr (pf [1, 2, 3, 4, 5, 6, 7, 8, 9, 35, 36, 37, 38, 39] []) z0 z → Fo Prod.snd (pf [1, 2, 3, 4, 5, 6, 7, 8, 9, 35, 36, 37, 38, 39] []) z0 (go L x1 x2 x3 x4 x5 x6 t0 t1 z)) (hz : fr (pf [1, 2, 3, 4, 5, 6, 7, 8, 9, 35, 36, 37, 38, 39] []) z0 z)  : Fo Prod.snd (pf [1, 2, 3, 4, 5, 6, 7, 8, 9, 35, 36, 37, 38, 39] []) z0 (qm_X13_summands_6 K go x1 x2 x3 x4 x5 x6 t0 t1 z) := by
  unfold qm_X13_summands_6
  exact (fo_rdF (fun v19 => (fo_if (hgo 11 _ _ _ _ _ _ _ _ z hz) (fo_if (fo_rdI (fun v20 => (hgo 7 _ _ _ _ _ _ _ _ z hz))) (hgo 11 _ _ _ _ _ _ _ _ z hz)))))
theorem fb_X13_summands_7 {K : Nat} {z0 z : ow_MS}  {go : Nat → Int32 → Int32 → Int32 → Int32 → Int32 → Int32 → Int32 → Int32 → ow_MS → Option (Int32 × ow_MS)} {x1 : Int32} {x2 : Int32} {x3 : Int32} {x4 : Int32} {x5 : Int32} {x6 : Int32} {t0 : Int32} {t1 : Int32}  (hgo : ∀ (L : Nat) (x1 : Int32) (x2 : Int32) (x3 : Int32) (x4 : Int32) (x5 : Int32) (x6 : Int32) (t0 : Int32) (t1 : Int32) (z : ow_MS), fr (pf [1, 2, 3, 4, 5, 6, 7, 8, 9, 35, 36, 37, 38, 39] []) z0 z → Fo Prod.snd (pf [1, 2, 3, 4, 5, 6, 7, 8, 9, 35, 36, 37, 38, 39] []) z0 (go L x1 x2 x3 x4 x5 x6 t0 t1 z)) (hz : fr (pf [1, 2, 3, 4, 5, 6, 7, 8, 9, 35, 36, 37, 38, 39] []) z0 z)  : Fo Prod.snd (pf [1, 2, 3, 4, 5, 6, 7, 8, 9, 35, 36, 37, 38, 39] []) z0 (qm_X13_summands_7 K go x1 x2 x3 x4 x5 x6 t0 t1 z) := by
  unfold qm_X13_summands_7
  exact (fo_rdI (fun v21 => (fo_if (hgo 10 _ _ _ _ _ _ _ _ z hz) (fo_if (hgo 8 _ _ _ _ _ _ _ _ z hz) (hgo 10 _ _ _ _ _ _ _ _ z hz)))))
theorem fb_X13_summands_8 {K : Nat} {z0 z : ow_MS}  {go : Nat → Int32 → Int32 → Int32 → Int32 → Int32 → Int32 → Int32 → Int32 → ow_MS → Option (Int32 × ow_MS)} {x1 : Int32} {x2 : Int32} {x3 : Int32} {x4 : Int32} {x5 : Int32} {x6 : Int32} {t0 : Int32} {t1 : Int32}  (hgo : ∀ (L : Nat) (x1 : Int32) (x2 : Int32) (x3 : Int32) (x4 : Int32) (x5 : Int32) (x6 : Int32) (t0 : Int32) (t1 : Int32) (z : ow_MS), fr (pf [1, 2, 3, 4, 5, 6, 7, 8, 9, 35, 36, 37, 38, 39] []) z0 z → Fo Prod.snd (pf [1, 2, 3, 4, 5, 6, 7, 8, 9, 35, 36, 37, 38, 39] []) z0 (go L x1 x2 x3 x4 x5 x6 t0 t1 z)) (hz : fr (pf [1, 2, 3, 4, 5, 6, 7, 8, 9, 35, 36, 37, 38, 39] []) z0 z)  : Fo Prod.snd (pf [1, 2, 3, 4, 5, 6, 7, 8, 9, 35, 36, 37, 38, 39] []) z0 (qm_X13_summands_8 K go x1 x2 x3 x4 x5 x6 t0 t1 z) := by
  unfold qm_X13_summands_8
  exact (fo_rdI (fun v22 => (fo_if (hgo 9 _ _ _ _ _ _ _ _ z hz) (fo_if (fo_cs1 (ff_X13_isParted (by first | omega | decide)) (pf_sub (by decide) pf_0) hz (fun v24 z23 h_z23 => (hgo 8 _ _ _ _ _ _ _ _ z23 h_z23))) (hgo 9 _ _ _ _ _ _ _ _ z hz)))))
theorem fb_X13_summands_9 {K : Nat} {z0 z : ow_MS}  {go : Nat → Int32 → Int32 → Int32 → Int32 → Int32 → Int32 → Int32 → Int32 → ow_MS → Option (Int32 × ow_MS)} {x1 : Int32} {x2 : Int32} {x3 : Int32} {x4 : Int32} {x5 : Int32} {x6 : Int32} {t0 : Int32} {t1 : Int32}  (hgo : ∀ (L : Nat) (x1 : Int32) (x2 : Int32) (x3 : Int32) (x4 : Int32) (x5 : Int32) (x6 : Int32) (t0 : Int32) (t1 : Int32) (z : ow_MS), fr (pf [1, 2, 3, 4, 5, 6, 7, 8, 9, 35, 36, 37, 38, 39] []) z0 z → Fo Prod.snd (pf [1, 2, 3, 4, 5, 6, 7, 8, 9, 35, 36, 37, 38, 39] []) z0 (go L x1 x2 x3 x4 x5 x6 t0 t1 z)) (hz : fr (pf [1, 2, 3, 4, 5, 6, 7, 8, 9, 35, 36, 37, 38, 39] []) z0 z)  : Fo Prod.snd (pf [1, 2, 3, 4, 5, 6, 7, 8, 9, 35, 36, 37, 38, 39] []) z0 (qm_X13_summands_9 K go x1 x2 x3 x4 x5 x6 t0 t1 z) := by
  unfold qm_X13_summands_9
  exact (hgo 7 _ _ _ _ _ _ _ _ z hz)
theorem fb_X13_summands_10 {K : Nat} {z0 z : ow_MS}  {go : Nat → Int32 → Int32 → Int32 → Int32 → Int32 → Int32 → Int32 → Int32 → ow_MS → Option (Int32 × ow_MS)} {x1 : Int32} {x2 : Int32} {x3 : Int32} {x4 : Int32} {x5 : Int32} {x6 : Int32} {t0 : Int32} {t1 : Int32}  (hgo : ∀ (L : Nat) (x1 : Int32) (x2 : Int32) (x3 : Int32) (x4 : Int32) (x5 : Int32) (x6 : Int32) (t0 : Int32) (t1 : Int32) (z : ow_MS), fr (pf [1, 2, 3, 4, 5, 6, 7, 8, 9, 35, 36, 37, 38, 39] []) z0 z → Fo Prod.snd (pf [1, 2, 3, 4, 5, 6, 7, 8, 9, 35, 36, 37, 38, 39] []) z0 (go L x1 x2 x3 x4 x5 x6 t0 t1 z)) (hz : fr (pf [1, 2, 3, 4, 5, 6, 7, 8, 9, 35, 36, 37, 38, 39] []) z0 z)  : Fo Prod.snd (pf [1, 2, 3, 4, 5, 6, 7, 8, 9, 35, 36, 37, 38, 39] []) z0 (qm_X13_summands_10 K go x1 x2 x3 x4 x5 x6 t0 t1 z) := by
  unfold qm_X13_summands_10
  exact (hgo 6 _ _ _ _ _ _ _ _ z hz)
theorem fb_X13_summands_11 {K : Nat} {z0 z : ow_MS}  {go : Nat → Int32 → Int32 → Int32 → Int32 → Int32 → Int32 → Int32 → Int32 → ow_MS → Option (Int32 × ow_MS)} {x1 : Int32} {x2 : Int32} {x3 : Int32} {x4 : Int32} {x5 : Int32} {x6 : Int32} {t0 : Int32} {t1 : Int32}  (hgo : ∀ (L : Nat) (x1 : Int32) (x2 : Int32) (x3 : Int32) (x4 : Int32) (x5 : Int32) (x6 : Int32) (t0 : Int32) (t1 : Int32) (z : ow_MS), fr (pf [1, 2, 3, 4, 5, 6, 7, 8, 9, 35, 36, 37, 38, 39] []) z0 z → Fo Prod.snd (pf [1, 2, 3, 4, 5, 6, 7, 8, 9, 35, 36, 37, 38, 39] []) z0 (go L x1 x2 x3 x4 x5 x6 t0 t1 z)) (hz : fr (pf [1, 2, 3, 4, 5, 6, 7, 8, 9, 35, 36, 37, 38, 39] []) z0 z)  : Fo Prod.snd (pf [1, 2, 3, 4, 5, 6, 7, 8, 9, 35, 36, 37, 38, 39] []) z0 (qm_X13_summands_11 K go x1 x2 x3 x4 x5 x6 t0 t1 z) := by
  unfold qm_X13_summands_11
  exact (fo_if (fo_cs0 (ff_X13_addSummand) (pf_sub (by decide) pf_0) hz (fun z25 h_z25 => (hgo 12 _ _ _ _ _ _ _ _ z25 h_z25))) (fo_cs0 (ff_X13_waitsFor (by first | omega | decide)) (pf_sub (by decide) pf_0) hz (fun z26 h_z26 => (fo_cs0 (ff_X13_waitsFor (by first | omega | decide)) (pf_sub (by decide) pf_0) h_z26 (fun z27 h_z27 => (hgo 12 _ _ _ _ _ _ _ _ z27 h_z27))))))
theorem fb_X13_summands_12 {K : Nat} {z0 z : ow_MS}  {go : Nat → Int32 → Int32 → Int32 → Int32 → Int32 → Int32 → Int32 → Int32 → ow_MS → Option (Int32 × ow_MS)} {x1 : Int32} {x2 : Int32} {x3 : Int32} {x4 : Int32} {x5 : Int32} {x6 : Int32} {t0 : Int32} {t1 : Int32}  (hgo : ∀ (L : Nat) (x1 : Int32) (x2 : Int32) (x3 : Int32) (x4 : Int32) (x5 : Int32) (x6 : Int32) (t0 : Int32) (t1 : Int32) (z : ow_MS), fr (pf [1, 2, 3, 4, 5, 6, 7, 8, 9, 35, 36, 37, 38, 39] []) z0 z → Fo Prod.snd (pf [1, 2, 3, 4, 5, 6, 7, 8, 9, 35, 36, 37, 38, 39] []) z0 (go L x1 x2 x3 x4 x5 x6 t0 t1 z)) (hz : fr (pf [1, 2, 3, 4, 5, 6, 7, 8, 9, 35, 36, 37, 38, 39] []) z0 z)  : Fo Prod.snd (pf [1, 2, 3, 4, 5, 6, 7, 8, 9, 35, 36, 37, 38, 39] []) z0 (qm_X13_summands_12 K go x1 x2 x3 x4 x5 x6 t0 t1 z) := by
  unfold qm_X13_summands_12
  exact (hgo 5 _ _ _ _ _ _ _ _ z hz)
theorem fq_X13_summands {K : Nat} {z0 : ow_MS}   : ∀ (k L : Nat) (x1 : Int32) (x2 : Int32) (x3 : Int32) (x4 : Int32) (x5 : Int32) (x6 : Int32) (t0 : Int32) (t1 : Int32) (z : ow_MS), fr (pf [1, 2, 3, 4, 5, 6, 7, 8, 9, 35, 36, 37, 38, 39] []) z0 z → Fo Prod.snd (pf [1, 2, 3, 4, 5, 6, 7, 8, 9, 35, 36, 37, 38, 39] []) z0 (q_X13_summands K k L x1 x2 x3 x4 x5 x6 t0 t1 z)
  | 0 => by
    intros
    exact fo_none
  | k + 1 => by
    intro L x1 x2 x3 x4 x5 x6 t0 t1 z hz 
    show Fo Prod.snd (pf [1, 2, 3, 4, 5, 6, 7, 8, 9, 35, 36, 37, 38, 39] []) z0 (qb_X13_summands K (q_X13_summands K k) L x1 x2 x3 x4 x5 x6 t0 t1 z)
    unfold qb_X13_summands
    split
    · exact fb_X13_summands_0 (fq_X13_summands k) hz 
    · exact fb_X13_summands_1 (fq_X13_summands k) hz 
    · exact fb_X13_summands_2 (fq_X13_summands k) hz 
    · exact fb_X13_summands_3 (fq_X13_summands k) hz 
    · exact fb_X13_summands_4 (fq_X13_summands k) hz 
    · exact fb_X13_summands_5 (fq_X13_summands k) hz 
    · exact fb_X13_summands_6 (fq_X13_summands k) hz 
    · exact fb_X13_summands_7 (fq_X13_summands k) hz 
    · exact fb_X13_summands_8 (fq_X13_summands k) hz 
    · exact fb_X13_summands_9 (fq_X13_summands k) hz 
    · exact fb_X13_summands_10 (fq_X13_summands k) hz 
    · exact fb_X13_summands_11 (fq_X13_summands k) hz 
    · exact fb_X13_summands_12 (fq_X13_summands k) hz 
    · exact fo_none
theorem ff_X13_summands {K : Nat} {x1 : Int32} {z : ow_MS}  : Fo Prod.snd (pf [1, 2, 3, 4, 5, 6, 7, 8, 9, 35, 36, 37, 38, 39] []) z (qe_X13_summands K x1 z) := fq_X13_summands K 0 _ _ _ _ _ _ _ _ z fr_rf 
theorem fb_X13_summand_0 {K : Nat} {z0 z : ow_MS}  {go : Nat → Int32 → ow_MS → Option (Int32 × ow_MS)} {x1 : Int32}  (hgo : ∀ (L : Nat) (x1 : Int32) (z : ow_MS), fr (pf [1, 12] []) z0 z → Fo Prod.snd (pf [1, 12] []) z0 (go L x1 z)) (hz : fr (pf [1, 12] []) z0 z)  : Fo Prod.snd (pf [1, 12] []) z0 (qm_X13_summand_0 K go x1 z) := by
  unfold qm_X13_summand_0
  exact (fo_wrF (Or.inl (by decide)) hz (fun z1 h_z1 => (fo_if (hgo 1 _ z1 h_z1) (fo_rdF (fun v2 => (fo_if (fo_cs1 (ff_X13_free) (pf_sub (by decide) pf_0) h_z1 (fun v4 z3 h_z3 => (fo_if (fo_cs1 (ff_X13_fails) (pf_sub (by decide) pf_0) h_z3 (fun v9 z8 h_z8 => (fo_some h_z8))) (fo_rdI (fun v5 => (fo_cs1 (ff_X13_keepRow) (pf_sub (by decide) pf_0) h_z3 (fun v7 z6 h_z6 => (fo_some h_z6)))))))) (hgo 1 _ z1 h_z1)))))))
theorem fb_X13_summand_1 {K : Nat} {z0 z : ow_MS}  {go : Nat → Int32 → ow_MS → Option (Int32 × ow_MS)} {x1 : Int32}  (hgo : ∀ (L : Nat) (x1 : Int32) (z : ow_MS), fr (pf [1, 12] []) z0 z → Fo Prod.snd (pf [1, 12] []) z0 (go L x1 z)) (hz : fr (pf [1, 12] []) z0 z)  : Fo Prod.snd (pf [1, 12] []) z0 (qm_X13_summand_1 K go x1 z) := by
  unfold qm_X13_summand_1
  exact (fo_cs1 (ff_X13_fails) (pf_sub (by decide) pf_0) hz (fun v11 z10 h_z10 => (fo_some h_z10)))
theorem fq_X13_summand {K : Nat} {z0 : ow_MS}   : ∀ (k L : Nat) (x1 : Int32) (z : ow_MS), fr (pf [1, 12] []) z0 z → Fo Prod.snd (pf [1, 12] []) z0 (q_X13_summand K k L x1 z)
  | 0 => by
    intros
    exact fo_none
  | k + 1 => by
    intro L x1 z hz 
    show Fo Prod.snd (pf [1, 12] []) z0 (qb_X13_summand K (q_X13_summand K k) L x1 z)
    unfold qb_X13_summand
    split
    · exact fb_X13_summand_0 (fq_X13_summand k) hz 
    · exact fb_X13_summand_1 (fq_X13_summand k) hz 
    · exact fo_none
theorem ff_X13_summand {K : Nat} {x1 : Int32} {z : ow_MS}  : Fo Prod.snd (pf [1, 12] []) z (qe_X13_summand K x1 z) := fq_X13_summand K 0 _ z fr_rf 
theorem fb_X13_leaf_0 {K : Nat} {z0 z : ow_MS}  {go : Nat → Int32 → Int32 → Int32 → Int32 → Int32 → Int64 → Int64 → Int32 → Int64 → Int64 → ow_MS → Option ow_MS} {x1 : Int32} {x4 : Int32} {x5 : Int32} {x6 : Int32} {x9 : Int32} {w2 : Int64} {w7 : Int64} {t2 : Int32} {y0 : Int64} {y1 : Int64}  (hgo : ∀ (L : Nat) (x1 : Int32) (x4 : Int32) (x5 : Int32) (x6 : Int32) (x9 : Int32) (w2 : Int64) (w7 : Int64) (t2 : Int32) (y0 : Int64) (y1 : Int64) (z : ow_MS), fr (pf [42, 44] []) z0 z → Fo id (pf [42, 44] []) z0 (go L x1 x4 x5 x6 x9 w2 w7 t2 y0 y1 z)) (hz : fr (pf [42, 44] []) z0 z)  : Fo id (pf [42, 44] []) z0 (qm_X13_leaf_0 K go x1 x4 x5 x6 x9 w2 w7 t2 y0 y1 z) := by
  unfold qm_X13_leaf_0
  exact (fo_rdF (fun v1 => (fo_if (fo_rdJ (fun v2 => (fo_if (fo_wrJ (Or.inl (by decide)) hz (fun z4 h_z4 => (fo_some h_z4))) (fo_wrJ (Or.inl (by decide)) hz (fun z3 h_z3 => (fo_some h_z3)))))) (hgo 1 _ _ _ _ _ _ _ _ _ _ z hz))))
theorem fb_X13_leaf_1 {K : Nat} {z0 z : ow_MS}  {go : Nat → Int32 → Int32 → Int32 → Int32 → Int32 → Int64 → Int64 → Int32 → Int64 → Int64 → ow_MS → Option ow_MS} {x1 : Int32} {x4 : Int32} {x5 : Int32} {x6 : Int32} {x9 : Int32} {w2 : Int64} {w7 : Int64} {t2 : Int32} {y0 : Int64} {y1 : Int64}  (hgo : ∀ (L : Nat) (x1 : Int32) (x4 : Int32) (x5 : Int32) (x6 : Int32) (x9 : Int32) (w2 : Int64) (w7 : Int64) (t2 : Int32) (y0 : Int64) (y1 : Int64) (z : ow_MS), fr (pf [42, 44] []) z0 z → Fo id (pf [42, 44] []) z0 (go L x1 x4 x5 x6 x9 w2 w7 t2 y0 y1 z)) (hz : fr (pf [42, 44] []) z0 z)  : Fo id (pf [42, 44] []) z0 (qm_X13_leaf_1 K go x1 x4 x5 x6 x9 w2 w7 t2 y0 y1 z) := by
  unfold qm_X13_leaf_1
  exact (fo_if (fo_some hz) (fo_rdJ (fun v5 => (fo_if (hgo 2 _ _ _ _ _ _ _ _ _ _ z hz) (hgo 2 _ _ _ _ _ _ _ _ _ _ z hz)))))
theorem fb_X13_leaf_2 {K : Nat} {z0 z : ow_MS}  {go : Nat → Int32 → Int32 → Int32 → Int32 → Int32 → Int64 → Int64 → Int32 → Int64 → Int64 → ow_MS → Option ow_MS} {x1 : Int32} {x4 : Int32} {x5 : Int32} {x6 : Int32} {x9 : Int32} {w2 : Int64} {w7 : Int64} {t2 : Int32} {y0 : Int64} {y1 : Int64}  (hgo : ∀ (L : Nat) (x1 : Int32) (x4 : Int32) (x5 : Int32) (x6 : Int32) (x9 : Int32) (w2 : Int64) (w7 : Int64) (t2 : Int32) (y0 : Int64) (y1 : Int64) (z : ow_MS), fr (pf [42, 44] []) z0 z → Fo id (pf [42, 44] []) z0 (go L x1 x4 x5 x6 x9 w2 w7 t2 y0 y1 z)) (hz : fr (pf [42, 44] []) z0 z)  : Fo id (pf [42, 44] []) z0 (qm_X13_leaf_2 K go x1 x4 x5 x6 x9 w2 w7 t2 y0 y1 z) := by
  unfold qm_X13_leaf_2
  exact (fo_wrJ (Or.inl (by decide)) hz (fun z6 h_z6 => (fo_nzJ (hgo 1 _ _ _ _ _ _ _ _ _ _ z6 h_z6))))
theorem fq_X13_leaf {K : Nat} {z0 : ow_MS}   : ∀ (k L : Nat) (x1 : Int32) (x4 : Int32) (x5 : Int32) (x6 : Int32) (x9 : Int32) (w2 : Int64) (w7 : Int64) (t2 : Int32) (y0 : Int64) (y1 : Int64) (z : ow_MS), fr (pf [42, 44] []) z0 z → Fo id (pf [42, 44] []) z0 (q_X13_leaf K k L x1 x4 x5 x6 x9 w2 w7 t2 y0 y1 z)
  | 0 => by
    intros
    exact fo_none
  | k + 1 => by
    intro L x1 x4 x5 x6 x9 w2 w7 t2 y0 y1 z hz 
    show Fo id (pf [42, 44] []) z0 (qb_X13_leaf K (q_X13_leaf K k) L x1 x4 x5 x6 x9 w2 w7 t2 y0 y1 z)
    unfold qb_X13_leaf
    split
    · exact fb_X13_leaf_0 (fq_X13_leaf k) hz 
    · exact fb_X13_leaf_1 (fq_X13_leaf k) hz 
    · exact fb_X13_leaf_2 (fq_X13_leaf k) hz 
    · exact fo_none
theorem ff_X13_leaf {K : Nat} {x1 : Int32} {w2 : Int64} {x4 : Int32} {x5 : Int32} {z : ow_MS}  : Fo id (pf [42, 44] []) z (qe_X13_leaf K x1 w2 x4 x5 z) := fq_X13_leaf K 0 _ _ _ _ _ _ _ _ _ _ z fr_rf 
theorem fb_X13_skein_0 {K : Nat} {z0 z : ow_MS}  {self : Int32 → Int64 → Int32 → Int32 → ow_MS → Option ow_MS} {go : Nat → Int32 → Int32 → Int32 → Int32 → Int32 → Int32 → Int32 → Int32 → Int64 → Nat → Nat → Int32 → Int32 → Int32 → Int32 → Int64 → Int64 → Int64 → ow_MS → Option ow_MS} {x1 : Int32} {x4 : Int32} {x5 : Int32} {x7 : Int32} {x8 : Int32} {x9 : Int32} {x10 : Int32} {x11 : Int32} {w2 : Int64} {r6 : Nat} {r12 : Nat} {t0 : Int32} {t1 : Int32} {t2 : Int32} {t3 : Int32} {y0 : Int64} {y1 : Int64} {y2 : Int64} (hself : ∀ (a0 : Int32) (a1 : Int64) (a2 : Int32) (a3 : Int32) (z : ow_MS), fr (pf [41, 42, 44] []) z0 z → Fo id (pf [41, 42, 44] []) z0 (self a0 a1 a2 a3 z)) (hgo : ∀ (L : Nat) (x1 : Int32) (x4 : Int32) (x5 : Int32) (x7 : Int32) (x8 : Int32) (x9 : Int32) (x10 : Int32) (x11 : Int32) (w2 : Int64) (r6 : Nat) (r12 : Nat) (t0 : Int32) (t1 : Int32) (t2 : Int32) (t3 : Int32) (y0 : Int64) (y1 : Int64) (y2 : Int64) (z : ow_MS), fr (pf [41, 42, 44] []) z0 z → (L = 1 ∨ L = 2 ∨ L = 3 ∨ L = 4 ∨ L = 5 ∨ L = 6 ∨ L = 7 ∨ L = 8 ∨ L = 9 ∨ L = 10 ∨ L = 11 ∨ L = 12 ∨ L = 13 → 1000 ≤ r6) → (L = 9 ∨ L = 10 ∨ L = 11 ∨ L = 12 ∨ L = 13 → 1000 ≤ r12) → Fo id (pf [41, 42, 44] []) z0 (go L x1 x4 x5 x7 x8 x9 x10 x11 w2 r6 r12 t0 t1 t2 t3 y0 y1 y2 z)) (hz : fr (pf [41, 42, 44] []) z0 z)  : Fo id (pf [41, 42, 44] []) z0 (qm_X13_skein_0 K self go x1 x4 x5 x7 x8 x9 x10 x11 w2 r6 r12 t0 t1 t2 t3 y0 y1 y2 z) := by
  unfold qm_X13_skein_0
  exact (fo_rdN (fun n1 hn1 => (hgo 1 _ _ _ _ _ _ _ _ _ _ _ _ _ _ _ _ _ _ z hz (fun _ => (by first | omega | decide)) (fun h9 => absurd h9 (by decide)))))
theorem fb_X13_skein_1 {K : Nat} {z0 z : ow_MS}  {self : Int32 → Int64 → Int32 → Int32 → ow_MS → Option ow_MS} {go : Nat → Int32 → Int32 → Int32 → Int32 → Int32 → Int32 → Int32 → Int32 → Int64 → Nat → Nat → Int32 → Int32 → Int32 → Int32 → Int64 → Int64 → Int64 → ow_MS → Option ow_MS} {x1 : Int32} {x4 : Int32} {x5 : Int32} {x7 : Int32} {x8 : Int32} {x9 : Int32} {x10 : Int32} {x11 : Int32} {w2 : Int64} {r6 : Nat} {r12 : Nat} {t0 : Int32} {t1 : Int32} {t2 : Int32} {t3 : Int32} {y0 : Int64} {y1 : Int64} {y2 : Int64} (hself : ∀ (a0 : Int32) (a1 : Int64) (a2 : Int32) (a3 : Int32) (z : ow_MS), fr (pf [41, 42, 44] []) z0 z → Fo id (pf [41, 42, 44] []) z0 (self a0 a1 a2 a3 z)) (hgo : ∀ (L : Nat) (x1 : Int32) (x4 : Int32) (x5 : Int32) (x7 : Int32) (x8 : Int32) (x9 : Int32) (x10 : Int32) (x11 : Int32) (w2 : Int64) (r6 : Nat) (r12 : Nat) (t0 : Int32) (t1 : Int32) (t2 : Int32) (t3 : Int32) (y0 : Int64) (y1 : Int64) (y2 : Int64) (z : ow_MS), fr (pf [41, 42, 44] []) z0 z → (L = 1 ∨ L = 2 ∨ L = 3 ∨ L = 4 ∨ L = 5 ∨ L = 6 ∨ L = 7 ∨ L = 8 ∨ L = 9 ∨ L = 10 ∨ L = 11 ∨ L = 12 ∨ L = 13 → 1000 ≤ r6) → (L = 9 ∨ L = 10 ∨ L = 11 ∨ L = 12 ∨ L = 13 → 1000 ≤ r12) → Fo id (pf [41, 42, 44] []) z0 (go L x1 x4 x5 x7 x8 x9 x10 x11 w2 r6 r12 t0 t1 t2 t3 y0 y1 y2 z)) (hz : fr (pf [41, 42, 44] []) z0 z) (hr6 : 1000 ≤ r6) : Fo id (pf [41, 42, 44] []) z0 (qm_X13_skein_1 K self go x1 x4 x5 x7 x8 x9 x10 x11 w2 r6 r12 t0 t1 t2 t3 y0 y1 y2 z) := by
  unfold qm_X13_skein_1
  exact (fo_if (hgo 2 _ _ _ _ _ _ _ _ _ _ _ _ _ _ _ _ _ _ z hz (fun _ => (by first | omega | decide)) (fun h9 => absurd h9 (by decide))) (fo_wrZ (Or.inl (by decide)) hz (fun z2 h_z2 => (hgo 1 _ _ _ _ _ _ _ _ _ _ _ _ _ _ _ _ _ _ z2 h_z2 (fun _ => (by first | omega | decide)) (fun h9 => absurd h9 (by decide))))))
theorem fb_X13_skein_2 {K : Nat} {z0 z : ow_MS}  {self : Int32 → Int64 → Int32 → Int32 → ow_MS → Option ow_MS} {go : Nat → Int32 → Int32 → Int32 → Int32 → Int32 → Int32 → Int32 → Int32 → Int64 → Nat → Nat → Int32 → Int32 → Int32 → Int32 → Int64 → Int64 → Int64 → ow_MS → Option ow_MS} {x1 : Int32} {x4 : Int32} {x5 : Int32} {x7 : Int32} {x8 : Int32} {x9 : Int32} {x10 : Int32} {x11 : Int32} {w2 : Int64} {r6 : Nat} {r12 : Nat} {t0 : Int32} {t1 : Int32} {t2 : Int32} {t3 : Int32} {y0 : Int64} {y1 : Int64} {y2 : Int64} (hself : ∀ (a0 : Int32) (a1 : Int64) (a2 : Int32) (a3 : Int32) (z : ow_MS), fr (pf [41, 42, 44] []) z0 z → Fo id (pf [41, 42, 44] []) z0 (self a0 a1 a2 a3 z)) (hgo : ∀ (L : Nat) (x1 : Int32) (x4 : Int32) (x5 : Int32) (x7 : Int32) (x8 : Int32) (x9 : Int32) (x10 : Int32) (x11 : Int32) (w2 : Int64) (r6 : Nat) (r12 : Nat) (t0 : Int32) (t1 : Int32) (t2 : Int32) (t3 : Int32) (y0 : Int64) (y1 : Int64) (y2 : Int64) (z : ow_MS), fr (pf [41, 42, 44] []) z0 z → (L = 1 ∨ L = 2 ∨ L = 3 ∨ L = 4 ∨ L = 5 ∨ L = 6 ∨ L = 7 ∨ L = 8 ∨ L = 9 ∨ L = 10 ∨ L = 11 ∨ L = 12 ∨ L = 13 → 1000 ≤ r6) → (L = 9 ∨ L = 10 ∨ L = 11 ∨ L = 12 ∨ L = 13 → 1000 ≤ r12) → Fo id (pf [41, 42, 44] []) z0 (go L x1 x4 x5 x7 x8 x9 x10 x11 w2 r6 r12 t0 t1 t2 t3 y0 y1 y2 z)) (hz : fr (pf [41, 42, 44] []) z0 z) (hr6 : 1000 ≤ r6) : Fo id (pf [41, 42, 44] []) z0 (qm_X13_skein_2 K self go x1 x4 x5 x7 x8 x9 x10 x11 w2 r6 r12 t0 t1 t2 t3 y0 y1 y2 z) := by
  unfold qm_X13_skein_2
  exact (fo_rdF (fun v3 => (fo_if (hgo 5 _ _ _ _ _ _ _ _ _ _ _ _ _ _ _ _ _ _ z hz (fun _ => (by first | omega | decide)) (fun h9 => absurd h9 (by decide))) (fo_if (fo_rdI (fun v4 => (fo_rdI (fun v5 => (fo_if (fo_wrZ (Or.inl (by decide)) hz (fun z6 h_z6 => (fo_rdI (fun v7 => (fo_if (hgo 3 _ _ _ _ _ _ _ _ _ _ _ _ _ _ _ _ _ _ z6 h_z6 (fun _ => (by first | omega | decide)) (fun h9 => absurd h9 (by decide))) (hgo 3 _ _ _ _ _ _ _ _ _ _ _ _ _ _ _ _ _ _ z6 h_z6 (fun _ => (by first | omega | decide)) (fun h9 => absurd h9 (by decide)))))))) (hgo 4 _ _ _ _ _ _ _ _ _ _ _ _ _ _ _ _ _ _ z hz (fun _ => (by first | omega | decide)) (fun h9 => absurd h9 (by decide)))))))) (hgo 5 _ _ _ _ _ _ _ _ _ _ _ _ _ _ _ _ _ _ z hz (fun _ => (by first | omega | decide)) (fun h9 => absurd h9 (by decide)))))))
theorem fb_X13_skein_3 {K : Nat} {z0 z : ow_MS}  {self : Int32 → Int64 → Int32 → Int32 → ow_MS → Option ow_MS} {go : Nat → Int32 → Int32 → Int32 → Int32 → Int32 → Int32 → Int32 → Int32 → Int64 → Nat → Nat → Int32 → Int32 → Int32 → Int32 → Int64 → Int64 → Int64 → ow_MS → Option ow_MS} {x1 : Int32} {x4 : Int32} {x5 : Int32} {x7 : Int32} {x8 : Int32} {x9 : Int32} {x10 : Int32} {x11 : Int32} {w2 : Int64} {r6 : Nat} {r12 : Nat} {t0 : Int32} {t1 : Int32} {t2 : Int32} {t3 : Int32} {y0 : Int64} {y1 : Int64} {y2 : Int64} (hself : ∀ (a0 : Int32) (a1 : Int64) (a2 : Int32) (a3 : Int32) (z : ow_MS), fr (pf [41, 42, 44] []) z0 z → Fo id (pf [41, 42, 44] []) z0 (self a0 a1 a2 a3 z)) (hgo : ∀ (L : Nat) (x1 : Int32) (x4 : Int32) (x5 : Int32) (x7 : Int32) (x8 : Int32) (x9 : Int32) (x10 : Int32) (x11 : Int32) (w2 : Int64) (r6 : Nat) (r12 : Nat) (t0 : Int32) (t1 : Int32) (t2 : Int32) (t3 : Int32) (y0 : Int64) (y1 : Int64) (y2 : Int64) (z : ow_MS), fr (pf [41, 42, 44] []) z0 z → (L = 1 ∨ L = 2 ∨ L = 3 ∨ L = 4 ∨ L = 5 ∨ L = 6 ∨ L = 7 ∨ L = 8 ∨ L = 9 ∨ L = 10 ∨ L = 11 ∨ L = 12 ∨ L = 13 → 1000 ≤ r6) → (L = 9 ∨ L = 10 ∨ L = 11 ∨ L = 12 ∨ L = 13 → 1000 ≤ r12) → Fo id (pf [41, 42, 44] []) z0 (go L x1 x4 x5 x7 x8 x9 x10 x11 w2 r6 r12 t0 t1 t2 t3 y0 y1 y2 z)) (hz : fr (pf [41, 42, 44] []) z0 z) (hr6 : 1000 ≤ r6) : Fo id (pf [41, 42, 44] []) z0 (qm_X13_skein_3 K self go x1 x4 x5 x7 x8 x9 x10 x11 w2 r6 r12 t0 t1 t2 t3 y0 y1 y2 z) := by
  unfold qm_X13_skein_3
  exact (hgo 4 _ _ _ _ _ _ _ _ _ _ _ _ _ _ _ _ _ _ z hz (fun _ => (by first | omega | decide)) (fun h9 => absurd h9 (by decide)))
theorem fb_X13_skein_4 {K : Nat} {z0 z : ow_MS}  {self : Int32 → Int64 → Int32 → Int32 → ow_MS → Option ow_MS} {go : Nat → Int32 → Int32 → Int32 → Int32 → Int32 → Int32 → Int32 → Int32 → Int64 → Nat → Nat → Int32 → Int32 → Int32 → Int32 → Int64 → Int64 → Int64 → ow_MS → Option ow_MS} {x1 : Int32} {x4 : Int32} {x5 : Int32} {x7 : Int32} {x8 : Int32} {x9 : Int32} {x10 : Int32} {x11 : Int32} {w2 : Int64} {r6 : Nat} {r12 : Nat} {t0 : Int32} {t1 : Int32} {t2 : Int32} {t3 : Int32} {y0 : Int64} {y1 : Int64} {y2 : Int64} (hself : ∀ (a0 : Int32) (a1 : Int64) (a2 : Int32) (a3 : Int32) (z : ow_MS), fr (pf [41, 42, 44] []) z0 z → Fo id (pf [41, 42, 44] []) z0 (self a0 a1 a2 a3 z)) (hgo : ∀ (L : Nat) (x1 : Int32) (x4 : Int32) (x5 : Int32) (x7 : Int32) (x8 : Int32) (x9 : Int32) (x10 : Int32) (x11 : Int32) (w2 : Int64) (r6 : Nat) (r12 : Nat) (t0 : Int32) (t1 : Int32) (t2 : Int32) (t3 : Int32) (y0 : Int64) (y1 : Int64) (y2 : Int64) (z : ow_MS), fr (pf [41, 42, 44] []) z0 z → (L = 1 ∨ L = 2 ∨ L = 3 ∨ L = 4 ∨ L = 5 ∨ L = 6 ∨ L = 7 ∨ L = 8 ∨ L = 9 ∨ L = 10 ∨ L = 11 ∨ L = 12 ∨ L = 13 → 1000 ≤ r6) → (L = 9 ∨ L = 10 ∨ L = 11 ∨ L = 12 ∨ L = 13 → 1000 ≤ r12) → Fo id (pf [41, 42, 44] []) z0 (go L x1 x4 x5 x7 x8 x9 x10 x11 w2 r6 r12 t0 t1 t2 t3 y0 y1 y2 z)) (hz : fr (pf [41, 42, 44] []) z0 z) (hr6 : 1000 ≤ r6) : Fo id (pf [41, 42, 44] []) z0 (qm_X13_skein_4 K self go x1 x4 x5 x7 x8 x9 x10 x11 w2 r6 r12 t0 t1 t2 t3 y0 y1 y2 z) := by
  unfold qm_X13_skein_4
  exact (hgo 2 _ _ _ _ _ _ _ _ _ _ _ _ _ _ _ _ _ _ z hz (fun _ => (by first | omega | decide)) (fun h9 => absurd h9 (by decide)))
theorem fb_X13_skein_5 {K : Nat} {z0 z : ow_MS}  {self : Int32 → Int64 → Int32 → Int32 → ow_MS → Option ow_MS} {go : Nat → Int32 → Int32 → Int32 → Int32 → Int32 → Int32 → Int32 → Int32 → Int64 → Nat → Nat → Int32 → Int32 → Int32 → Int32 → Int64 → Int64 → Int64 → ow_MS → Option ow_MS} {x1 : Int32} {x4 : Int32} {x5 : Int32} {x7 : Int32} {x8 : Int32} {x9 : Int32} {x10 : Int32} {x11 : Int32} {w2 : Int64} {r6 : Nat} {r12 : Nat} {t0 : Int32} {t1 : Int32} {t2 : Int32} {t3 : Int32} {y0 : Int64} {y1 : Int64} {y2 : Int64} (hself : ∀ (a0 : Int32) (a1 : Int64) (a2 : Int32) (a3 : Int32) (z : ow_MS), fr (pf [41, 42, 44] []) z0 z → Fo id (pf [41, 42, 44] []) z0 (self a0 a1 a2 a3 z)) (hgo : ∀ (L : Nat) (x1 : Int32) (x4 : Int32) (x5 : Int32) (x7 : Int32) (x8 : Int32) (x9 : Int32) (x10 : Int32) (x11 : Int32) (w2 : Int64) (r6 : Nat) (r12 : Nat) (t0 : Int32) (t1 : Int32) (t2 : Int32) (t3 : Int32) (y0 : Int64) (y1 : Int64) (y2 : Int64) (z : ow_MS), fr (pf [41, 42, 44] []) z0 z → (L = 1 ∨ L = 2 ∨ L = 3 ∨ L = 4 ∨ L = 5 ∨ L = 6 ∨ L = 7 ∨ L = 8 ∨ L = 9 ∨ L = 10 ∨ L = 11 ∨ L = 12 ∨ L = 13 → 1000 ≤ r6) → (L = 9 ∨ L = 10 ∨ L = 11 ∨ L = 12 ∨ L = 13 → 1000 ≤ r12) → Fo id (pf [41, 42, 44] []) z0 (go L x1 x4 x5 x7 x8 x9 x10 x11 w2 r6 r12 t0 t1 t2 t3 y0 y1 y2 z)) (hz : fr (pf [41, 42, 44] []) z0 z) (hr6 : 1000 ≤ r6) : Fo id (pf [41, 42, 44] []) z0 (qm_X13_skein_5 K self go x1 x4 x5 x7 x8 x9 x10 x11 w2 r6 r12 t0 t1 t2 t3 y0 y1 y2 z) := by
  unfold qm_X13_skein_5
  exact (fo_if (fo_rdF (fun v8 => (fo_cs0 (ff_X13_leaf) (pf_sub (by decide) pf_0) hz (fun z9 h_z9 => (fo_some h_z9))))) (hgo 6 _ _ _ _ _ _ _ _ _ _ _ _ _ _ _ _ _ _ z hz (fun _ => (by first | omega | decide)) (fun h9 => absurd h9 (by decide))))
theorem fb_X13_skein_6 {K : Nat} {z0 z : ow_MS}  {self : Int32 → Int64 → Int32 → Int32 → ow_MS → Option ow_MS} {go : Nat → Int32 → Int32 → Int32 → Int32 → Int32 → Int32 → Int32 → Int32 → Int64 → Nat → Nat → Int32 → Int32 → Int32 → Int32 → Int64 → Int64 → Int64 → ow_MS → Option ow_MS} {x1 : Int32} {x4 : Int32} {x5 : Int32} {x7 : Int32} {x8 : Int32} {x9 : Int32} {x10 : Int32} {x11 : Int32} {w2 : Int64} {r6 : Nat} {r12 : Nat} {t0 : Int32} {t1 : Int32} {t2 : Int32} {t3 : Int32} {y0 : Int64} {y1 : Int64} {y2 : Int64} (hself : ∀ (a0 : Int32) (a1 : Int64) (a2 : Int32) (a3 : Int32) (z : ow_MS), fr (pf [41, 42, 44] []) z0 z → Fo id (pf [41, 42, 44] []) z0 (self a0 a1 a2 a3 z)) (hgo : ∀ (L : Nat) (x1 : Int32) (x4 : Int32) (x5 : Int32) (x7 : Int32) (x8 : Int32) (x9 : Int32) (x10 : Int32) (x11 : Int32) (w2 : Int64) (r6 : Nat) (r12 : Nat) (t0 : Int32) (t1 : Int32) (t2 : Int32) (t3 : Int32) (y0 : Int64) (y1 : Int64) (y2 : Int64) (z : ow_MS), fr (pf [41, 42, 44] []) z0 z → (L = 1 ∨ L = 2 ∨ L = 3 ∨ L = 4 ∨ L = 5 ∨ L = 6 ∨ L = 7 ∨ L = 8 ∨ L = 9 ∨ L = 10 ∨ L = 11 ∨ L = 12 ∨ L = 13 → 1000 ≤ r6) → (L = 9 ∨ L = 10 ∨ L = 11 ∨ L = 12 ∨ L = 13 → 1000 ≤ r12) → Fo id (pf [41, 42, 44] []) z0 (go L x1 x4 x5 x7 x8 x9 x10 x11 w2 r6 r12 t0 t1 t2 t3 y0 y1 y2 z)) (hz : fr (pf [41, 42, 44] []) z0 z) (hr6 : 1000 ≤ r6) : Fo id (pf [41, 42, 44] []) z0 (qm_X13_skein_6 K self go x1 x4 x5 x7 x8 x9 x10 x11 w2 r6 r12 t0 t1 t2 t3 y0 y1 y2 z) := by
  unfold qm_X13_skein_6
  exact (fo_rdI (fun v10 => (fo_if (fo_rdI (fun v11 => (hgo 7 _ _ _ _ _ _ _ _ _ _ _ _ _ _ _ _ _ _ z hz (fun _ => (by first | omega | decide)) (fun h9 => absurd h9 (by decide))))) (hgo 6 _ _ _ _ _ _ _ _ _ _ _ _ _ _ _ _ _ _ z hz (fun _ => (by first | omega | decide)) (fun h9 => absurd h9 (by decide))))))
theorem fb_X13_skein_7 {K : Nat} {z0 z : ow_MS}  {self : Int32 → Int64 → Int32 → Int32 → ow_MS → Option ow_MS} {go : Nat → Int32 → Int32 → Int32 → Int32 → Int32 → Int32 → Int32 → Int32 → Int64 → Nat → Nat → Int32 → Int32 → Int32 → Int32 → Int64 → Int64 → Int64 → ow_MS → Option ow_MS} {x1 : Int32} {x4 : Int32} {x5 : Int32} {x7 : Int32} {x8 : Int32} {x9 : Int32} {x10 : Int32} {x11 : Int32} {w2 : Int64} {r6 : Nat} {r12 : Nat} {t0 : Int32} {t1 : Int32} {t2 : Int32} {t3 : Int32} {y0 : Int64} {y1 : Int64} {y2 : Int64} (hself : ∀ (a0 : Int32) (a1 : Int64) (a2 : Int32) (a3 : Int32) (z : ow_MS), fr (pf [41, 42, 44] []) z0 z → Fo id (pf [41, 42, 44] []) z0 (self a0 a1 a2 a3 z)) (hgo : ∀ (L : Nat) (x1 : Int32) (x4 : Int32) (x5 : Int32) (x7 : Int32) (x8 : Int32) (x9 : Int32) (x10 : Int32) (x11 : Int32) (w2 : Int64) (r6 : Nat) (r12 : Nat) (t0 : Int32) (t1 : Int32) (t2 : Int32) (t3 : Int32) (y0 : Int64) (y1 : Int64) (y2 : Int64) (z : ow_MS), fr (pf [41, 42, 44] []) z0 z → (L = 1 ∨ L = 2 ∨ L = 3 ∨ L = 4 ∨ L = 5 ∨ L = 6 ∨ L = 7 ∨ L = 8 ∨ L = 9 ∨ L = 10 ∨ L = 11 ∨ L = 12 ∨ L = 13 → 1000 ≤ r6) → (L = 9 ∨ L = 10 ∨ L = 11 ∨ L = 12 ∨ L = 13 → 1000 ≤ r12) → Fo id (pf [41, 42, 44] []) z0 (go L x1 x4 x5 x7 x8 x9 x10 x11 w2 r6 r12 t0 t1 t2 t3 y0 y1 y2 z)) (hz : fr (pf [41, 42, 44] []) z0 z) (hr6 : 1000 ≤ r6) : Fo id (pf [41, 42, 44] []) z0 (qm_X13_skein_7 K self go x1 x4 x5 x7 x8 x9 x10 x11 w2 r6 r12 t0 t1 t2 t3 y0 y1 y2 z) := by
  unfold qm_X13_skein_7
  exact (fo_rdI (fun v12 => (fo_if (fo_rdI (fun v13 => (fo_if (hgo 8 _ _ _ _ _ _ _ _ _ _ _ _ _ _ _ _ _ _ z hz (fun _ => (by first | omega | decide)) (fun h9 => absurd h9 (by decide))) (hgo 8 _ _ _ _ _ _ _ _ _ _ _ _ _ _ _ _ _ _ z hz (fun _ => (by first | omega | decide)) (fun h9 => absurd h9 (by decide)))))) (hgo 7 _ _ _ _ _ _ _ _ _ _ _ _ _ _ _ _ _ _ z hz (fun _ => (by first | omega | decide)) (fun h9 => absurd h9 (by decide))))))
theorem fb_X13_skein_8 {K : Nat} {z0 z : ow_MS}  {self : Int32 → Int64 → Int32 → Int32 → ow_MS → Option ow_MS} {go : Nat → Int32 → Int32 → Int32 → Int32 → Int32 → Int32 → Int32 → Int32 → Int64 → Nat → Nat → Int32 → Int32 → Int32 → Int32 → Int64 → Int64 → Int64 → ow_MS → Option ow_MS} {x1 : Int32} {x4 : Int32} {x5 : Int32} {x7 : Int32} {x8 : Int32} {x9 : Int32} {x10 : Int32} {x11 : Int32} {w2 : Int64} {r6 : Nat} {r12 : Nat} {t0 : Int32} {t1 : Int32} {t2 : Int32} {t3 : Int32} {y0 : Int64} {y1 : Int64} {y2 : Int64} (hself : ∀ (a0 : Int32) (a1 : Int64) (a2 : Int32) (a3 : Int32) (z : ow_MS), fr (pf [41, 42, 44] []) z0 z → Fo id (pf [41, 42, 44] []) z0 (self a0 a1 a2 a3 z)) (hgo : ∀ (L : Nat) (x1 : Int32) (x4 : Int32) (x5 : Int32) (x7 : Int32) (x8 : Int32) (x9 : Int32) (x10 : Int32) (x11 : Int32) (w2 : Int64) (r6 : Nat) (r12 : Nat) (t0 : Int32) (t1 : Int32) (t2 : Int32) (t3 : Int32) (y0 : Int64) (y1 : Int64) (y2 : Int64) (z : ow_MS), fr (pf [41, 42, 44] []) z0 z → (L = 1 ∨ L = 2 ∨ L = 3 ∨ L = 4 ∨ L = 5 ∨ L = 6 ∨ L = 7 ∨ L = 8 ∨ L = 9 ∨ L = 10 ∨ L = 11 ∨ L = 12 ∨ L = 13 → 1000 ≤ r6) → (L = 9 ∨ L = 10 ∨ L = 11 ∨ L = 12 ∨ L = 13 → 1000 ≤ r12) → Fo id (pf [41, 42, 44] []) z0 (go L x1 x4 x5 x7 x8 x9 x10 x11 w2 r6 r12 t0 t1 t2 t3 y0 y1 y2 z)) (hz : fr (pf [41, 42, 44] []) z0 z) (hr6 : 1000 ≤ r6) : Fo id (pf [41, 42, 44] []) z0 (qm_X13_skein_8 K self go x1 x4 x5 x7 x8 x9 x10 x11 w2 r6 r12 t0 t1 t2 t3 y0 y1 y2 z) := by
  unfold qm_X13_skein_8
  exact (fo_rdN (fun n14 hn14 => (fo_cs0 (ff_X13_smoothIn (by first | omega | decide) (by first | omega | decide)) (pf_sub (by decide) pf_0) hz (fun z15 h_z15 => (fo_if (hgo 9 _ _ _ _ _ _ _ _ _ _ _ _ _ _ _ _ _ _ z15 h_z15 (fun _ => (by first | omega | decide)) (fun _ => (by first | omega | decide))) (hgo 9 _ _ _ _ _ _ _ _ _ _ _ _ _ _ _ _ _ _ z15 h_z15 (fun _ => (by first | omega | decide)) (fun _ => (by first | omega | decide))))))))
theorem fb_X13_skein_9 {K : Nat} {z0 z : ow_MS}  {self : Int32 → Int64 → Int32 → Int32 → ow_MS → Option ow_MS} {go : Nat → Int32 → Int32 → Int32 → Int32 → Int32 → Int32 → Int32 → Int32 → Int64 → Nat → Nat → Int32 → Int32 → Int32 → Int32 → Int64 → Int64 → Int64 → ow_MS → Option ow_MS} {x1 : Int32} {x4 : Int32} {x5 : Int32} {x7 : Int32} {x8 : Int32} {x9 : Int32} {x10 : Int32} {x11 : Int32} {w2 : Int64} {r6 : Nat} {r12 : Nat} {t0 : Int32} {t1 : Int32} {t2 : Int32} {t3 : Int32} {y0 : Int64} {y1 : Int64} {y2 : Int64} (hself : ∀ (a0 : Int32) (a1 : Int64) (a2 : Int32) (a3 : Int32) (z : ow_MS), fr (pf [41, 42, 44] []) z0 z → Fo id (pf [41, 42, 44] []) z0 (self a0 a1 a2 a3 z)) (hgo : ∀ (L : Nat) (x1 : Int32) (x4 : Int32) (x5 : Int32) (x7 : Int32) (x8 : Int32) (x9 : Int32) (x10 : Int32) (x11 : Int32) (w2 : Int64) (r6 : Nat) (r12 : Nat) (t0 : Int32) (t1 : Int32) (t2 : Int32) (t3 : Int32) (y0 : Int64) (y1 : Int64) (y2 : Int64) (z : ow_MS), fr (pf [41, 42, 44] []) z0 z → (L = 1 ∨ L = 2 ∨ L = 3 ∨ L = 4 ∨ L = 5 ∨ L = 6 ∨ L = 7 ∨ L = 8 ∨ L = 9 ∨ L = 10 ∨ L = 11 ∨ L = 12 ∨ L = 13 → 1000 ≤ r6) → (L = 9 ∨ L = 10 ∨ L = 11 ∨ L = 12 ∨ L = 13 → 1000 ≤ r12) → Fo id (pf [41, 42, 44] []) z0 (go L x1 x4 x5 x7 x8 x9 x10 x11 w2 r6 r12 t0 t1 t2 t3 y0 y1 y2 z)) (hz : fr (pf [41, 42, 44] []) z0 z) (hr6 : 1000 ≤ r6) (hr12 : 1000 ≤ r12) : Fo id (pf [41, 42, 44] []) z0 (qm_X13_skein_9 K self go x1 x4 x5 x7 x8 x9 x10 x11 w2 r6 r12 t0 t1 t2 t3 y0 y1 y2 z) := by
  unfold qm_X13_skein_9
  exact (fo_rdF (fun v16 => (fo_if (hgo 11 _ _ _ _ _ _ _ _ _ _ _ _ _ _ _ _ _ _ z hz (fun _ => (by first | omega | decide)) (fun _ => (by first | omega | decide))) (fo_if (hgo 10 _ _ _ _ _ _ _ _ _ _ _ _ _ _ _ _ _ _ z hz (fun _ => (by first | omega | decide)) (fun _ => (by first | omega | decide))) (hgo 10 _ _ _ _ _ _ _ _ _ _ _ _ _ _ _ _ _ _ z hz (fun _ => (by first | omega | decide)) (fun _ => (by first | omega | decide)))))))
theorem fb_X13_skein_10 {K : Nat} {z0 z : ow_MS}  {self : Int32 → Int64 → Int32 → Int32 → ow_MS → Option ow_MS} {go : Nat → Int32 → Int32 → Int32 → Int32 → Int32 → Int32 → Int32 → Int32 → Int64 → Nat → Nat → Int32 → Int32 → Int32 → Int32 → Int64 → Int64 → Int64 → ow_MS → Option ow_MS} {x1 : Int32} {x4 : Int32} {x5 : Int32} {x7 : Int32} {x8 : Int32} {x9 : Int32} {x10 : Int32} {x11 : Int32} {w2 : Int64} {r6 : Nat} {r12 : Nat} {t0 : Int32} {t1 : Int32} {t2 : Int32} {t3 : Int32} {y0 : Int64} {y1 : Int64} {y2 : Int64} (hself : ∀ (a0 : Int32) (a1 : Int64) (a2 : Int32) (a3 : Int32) (z : ow_MS), fr (pf [41, 42, 44] []) z0 z → Fo id (pf [41, 42, 44] []) z0 (self a0 a1 a2 a3 z)) (hgo : ∀ (L : Nat) (x1 : Int32) (x4 : Int32) (x5 : Int32) (x7 : Int32) (x8 : Int32) (x9 : Int32) (x10 : Int32) (x11 : Int32) (w2 : Int64) (r6 : Nat) (r12 : Nat) (t0 : Int32) (t1 : Int32) (t2 : Int32) (t3 : Int32) (y0 : Int64) (y1 : Int64) (y2 : Int64) (z : ow_MS), fr (pf [41, 42, 44] []) z0 z → (L = 1 ∨ L = 2 ∨ L = 3 ∨ L = 4 ∨ L = 5 ∨ L = 6 ∨ L = 7 ∨ L = 8 ∨ L = 9 ∨ L = 10 ∨ L = 11 ∨ L = 12 ∨ L = 13 → 1000 ≤ r6) → (L = 9 ∨ L = 10 ∨ L = 11 ∨ L = 12 ∨ L = 13 → 1000 ≤ r12) → Fo id (pf [41, 42, 44] []) z0 (go L x1 x4 x5 x7 x8 x9 x10 x11 w2 r6 r12 t0 t1 t2 t3 y0 y1 y2 z)) (hz : fr (pf [41, 42, 44] []) z0 z) (hr6 : 1000 ≤ r6) (hr12 : 1000 ≤ r12) : Fo id (pf [41, 42, 44] []) z0 (qm_X13_skein_10 K self go x1 x4 x5 x7 x8 x9 x10 x11 w2 r6 r12 t0 t1 t2 t3 y0 y1 y2 z) := by
  unfold qm_X13_skein_10
  exact (hgo 11 _ _ _ _ _ _ _ _ _ _ _ _ _ _ _ _ _ _ z hz (fun _ => (by first | omega | decide)) (fun _ => (by first | omega | decide)))
theorem fb_X13_skein_11 {K : Nat} {z0 z : ow_MS}  {self : Int32 → Int64 → Int32 → Int32 → ow_MS → Option ow_MS} {go : Nat → Int32 → Int32 → Int32 → Int32 → Int32 → Int32 → Int32 → Int32 → Int64 → Nat → Nat → Int32 → Int32 → Int32 → Int32 → Int64 → Int64 → Int64 → ow_MS → Option ow_MS} {x1 : Int32} {x4 : Int32} {x5 : Int32} {x7 : Int32} {x8 : Int32} {x9 : Int32} {x10 : Int32} {x11 : Int32} {w2 : Int64} {r6 : Nat} {r12 : Nat} {t0 : Int32} {t1 : Int32} {t2 : Int32} {t3 : Int32} {y0 : Int64} {y1 : Int64} {y2 : Int64} (hself : ∀ (a0 : Int32) (a1 : Int64) (a2 : Int32) (a3 : Int32) (z : ow_MS), fr (pf [41, 42, 44] []) z0 z → Fo id (pf [41, 42, 44] []) z0 (self a0 a1 a2 a3 z)) (hgo : ∀ (L : Nat) (x1 : Int32) (x4 : Int32) (x5 : Int32) (x7 : Int32) (x8 : Int32) (x9 : Int32) (x10 : Int32) (x11 : Int32) (w2 : Int64) (r6 : Nat) (r12 : Nat) (t0 : Int32) (t1 : Int32) (t2 : Int32) (t3 : Int32) (y0 : Int64) (y1 : Int64) (y2 : Int64) (z : ow_MS), fr (pf [41, 42, 44] []) z0 z → (L = 1 ∨ L = 2 ∨ L = 3 ∨ L = 4 ∨ L = 5 ∨ L = 6 ∨ L = 7 ∨ L = 8 ∨ L = 9 ∨ L = 10 ∨ L = 11 ∨ L = 12 ∨ L = 13 → 1000 ≤ r6) → (L = 9 ∨ L = 10 ∨ L = 11 ∨ L = 12 ∨ L = 13 → 1000 ≤ r12) → Fo id (pf [41, 42, 44] []) z0 (go L x1 x4 x5 x7 x8 x9 x10 x11 w2 r6 r12 t0 t1 t2 t3 y0 y1 y2 z)) (hz : fr (pf [41, 42, 44] []) z0 z) (hr6 : 1000 ≤ r6) (hr12 : 1000 ≤ r12) : Fo id (pf [41, 42, 44] []) z0 (qm_X13_skein_11 K self go x1 x4 x5 x7 x8 x9 x10 x11 w2 r6 r12 t0 t1 t2 t3 y0 y1 y2 z) := by
  unfold qm_X13_skein_11
  exact (fo_ss0 (hself _ _ _ _ z hz) (fun z17 h_z17 => (fo_cs0 (ff_X12_copy (by first | omega | decide) (by first | omega | decide)) (pf_sub (by decide) pf_0) h_z17 (fun z18 h_z18 => (fo_cs0 (ff_X13_changeIn (by first | omega | decide)) (pf_sub (by decide) pf_0) h_z18 (fun z19 h_z19 => (fo_rdF (fun v20 => (fo_if (hgo 13 _ _ _ _ _ _ _ _ _ _ _ _ _ _ _ _ _ _ z19 h_z19 (fun _ => (by first | omega | decide)) (fun _ => (by first | omega | decide))) (fo_if (hgo 12 _ _ _ _ _ _ _ _ _ _ _ _ _ _ _ _ _ _ z19 h_z19 (fun _ => (by first | omega | decide)) (fun _ => (by first | omega | decide))) (hgo 12 _ _ _ _ _ _ _ _ _ _ _ _ _ _ _ _ _ _ z19 h_z19 (fun _ => (by first | omega | decide)) (fun _ => (by first | omega | decide)))))))))))))
theorem fb_X13_skein_12 {K : Nat} {z0 z : ow_MS}  {self : Int32 → Int64 → Int32 → Int32 → ow_MS → Option ow_MS} {go : Nat → Int32 → Int32 → Int32 → Int32 → Int32 → Int32 → Int32 → Int32 → Int64 → Nat → Nat → Int32 → Int32 → Int32 → Int32 → Int64 → Int64 → Int64 → ow_MS → Option ow_MS} {x1 : Int32} {x4 : Int32} {x5 : Int32} {x7 : Int32} {x8 : Int32} {x9 : Int32} {x10 : Int32} {x11 : Int32} {w2 : Int64} {r6 : Nat} {r12 : Nat} {t0 : Int32} {t1 : Int32} {t2 : Int32} {t3 : Int32} {y0 : Int64} {y1 : Int64} {y2 : Int64} (hself : ∀ (a0 : Int32) (a1 : Int64) (a2 : Int32) (a3 : Int32) (z : ow_MS), fr (pf [41, 42, 44] []) z0 z → Fo id (pf [41, 42, 44] []) z0 (self a0 a1 a2 a3 z)) (hgo : ∀ (L : Nat) (x1 : Int32) (x4 : Int32) (x5 : Int32) (x7 : Int32) (x8 : Int32) (x9 : Int32) (x10 : Int32) (x11 : Int32) (w2 : Int64) (r6 : Nat) (r12 : Nat) (t0 : Int32) (t1 : Int32) (t2 : Int32) (t3 : Int32) (y0 : Int64) (y1 : Int64) (y2 : Int64) (z : ow_MS), fr (pf [41, 42, 44] []) z0 z → (L = 1 ∨ L = 2 ∨ L = 3 ∨ L = 4 ∨ L = 5 ∨ L = 6 ∨ L = 7 ∨ L = 8 ∨ L = 9 ∨ L = 10 ∨ L = 11 ∨ L = 12 ∨ L = 13 → 1000 ≤ r6) → (L = 9 ∨ L = 10 ∨ L = 11 ∨ L = 12 ∨ L = 13 → 1000 ≤ r12) → Fo id (pf [41, 42, 44] []) z0 (go L x1 x4 x5 x7 x8 x9 x10 x11 w2 r6 r12 t0 t1 t2 t3 y0 y1 y2 z)) (hz : fr (pf [41, 42, 44] []) z0 z) (hr6 : 1000 ≤ r6) (hr12 : 1000 ≤ r12) : Fo id (pf [41, 42, 44] []) z0 (qm_X13_skein_12 K self go x1 x4 x5 x7 x8 x9 x10 x11 w2 r6 r12 t0 t1 t2 t3 y0 y1 y2 z) := by
  unfold qm_X13_skein_12
  exact (hgo 13 _ _ _ _ _ _ _ _ _ _ _ _ _ _ _ _ _ _ z hz (fun _ => (by first | omega | decide)) (fun _ => (by first | omega | decide)))
theorem fb_X13_skein_13 {K : Nat} {z0 z : ow_MS}  {self : Int32 → Int64 → Int32 → Int32 → ow_MS → Option ow_MS} {go : Nat → Int32 → Int32 → Int32 → Int32 → Int32 → Int32 → Int32 → Int32 → Int64 → Nat → Nat → Int32 → Int32 → Int32 → Int32 → Int64 → Int64 → Int64 → ow_MS → Option ow_MS} {x1 : Int32} {x4 : Int32} {x5 : Int32} {x7 : Int32} {x8 : Int32} {x9 : Int32} {x10 : Int32} {x11 : Int32} {w2 : Int64} {r6 : Nat} {r12 : Nat} {t0 : Int32} {t1 : Int32} {t2 : Int32} {t3 : Int32} {y0 : Int64} {y1 : Int64} {y2 : Int64} (hself : ∀ (a0 : Int32) (a1 : Int64) (a2 : Int32) (a3 : Int32) (z : ow_MS), fr (pf [41, 42, 44] []) z0 z → Fo id (pf [41, 42, 44] []) z0 (self a0 a1 a2 a3 z)) (hgo : ∀ (L : Nat) (x1 : Int32) (x4 : Int32) (x5 : Int32) (x7 : Int32) (x8 : Int32) (x9 : Int32) (x10 : Int32) (x11 : Int32) (w2 : Int64) (r6 : Nat) (r12 : Nat) (t0 : Int32) (t1 : Int32) (t2 : Int32) (t3 : Int32) (y0 : Int64) (y1 : Int64) (y2 : Int64) (z : ow_MS), fr (pf [41, 42, 44] []) z0 z → (L = 1 ∨ L = 2 ∨ L = 3 ∨ L = 4 ∨ L = 5 ∨ L = 6 ∨ L = 7 ∨ L = 8 ∨ L = 9 ∨ L = 10 ∨ L = 11 ∨ L = 12 ∨ L = 13 → 1000 ≤ r6) → (L = 9 ∨ L = 10 ∨ L = 11 ∨ L = 12 ∨ L = 13 → 1000 ≤ r12) → Fo id (pf [41, 42, 44] []) z0 (go L x1 x4 x5 x7 x8 x9 x10 x11 w2 r6 r12 t0 t1 t2 t3 y0 y1 y2 z)) (hz : fr (pf [41, 42, 44] []) z0 z) (hr6 : 1000 ≤ r6) (hr12 : 1000 ≤ r12) : Fo id (pf [41, 42, 44] []) z0 (qm_X13_skein_13 K self go x1 x4 x5 x7 x8 x9 x10 x11 w2 r6 r12 t0 t1 t2 t3 y0 y1 y2 z) := by
  unfold qm_X13_skein_13
  exact (fo_ss0 (hself _ _ _ _ z hz) (fun z21 h_z21 => (fo_some h_z21)))
theorem fq_X13_skein {K : Nat} {z0 : ow_MS}  {self : Int32 → Int64 → Int32 → Int32 → ow_MS → Option ow_MS} (hself : ∀ (a0 : Int32) (a1 : Int64) (a2 : Int32) (a3 : Int32) (z : ow_MS), fr (pf [41, 42, 44] []) z0 z → Fo id (pf [41, 42, 44] []) z0 (self a0 a1 a2 a3 z)) : ∀ (k L : Nat) (x1 : Int32) (x4 : Int32) (x5 : Int32) (x7 : Int32) (x8 : Int32) (x9 : Int32) (x10 : Int32) (x11 : Int32) (w2 : Int64) (r6 : Nat) (r12 : Nat) (t0 : Int32) (t1 : Int32) (t2 : Int32) (t3 : Int32) (y0 : Int64) (y1 : Int64) (y2 : Int64) (z : ow_MS), fr (pf [41, 42, 44] []) z0 z → (L = 1 ∨ L = 2 ∨ L = 3 ∨ L = 4 ∨ L = 5 ∨ L = 6 ∨ L = 7 ∨ L = 8 ∨ L = 9 ∨ L = 10 ∨ L = 11 ∨ L = 12 ∨ L = 13 → 1000 ≤ r6) → (L = 9 ∨ L = 10 ∨ L = 11 ∨ L = 12 ∨ L = 13 → 1000 ≤ r12) → Fo id (pf [41, 42, 44] []) z0 (q_X13_skein K self k L x1 x4 x5 x7 x8 x9 x10 x11 w2 r6 r12 t0 t1 t2 t3 y0 y1 y2 z)
  | 0 => by
    intros
    exact fo_none
  | k + 1 => by
    intro L x1 x4 x5 x7 x8 x9 x10 x11 w2 r6 r12 t0 t1 t2 t3 y0 y1 y2 z hz h9_r6 h9_r12
    show Fo id (pf [41, 42, 44] []) z0 (qb_X13_skein K self (q_X13_skein K self k) L x1 x4 x5 x7 x8 x9 x10 x11 w2 r6 r12 t0 t1 t2 t3 y0 y1 y2 z)
    unfold qb_X13_skein
    split
    · exact fb_X13_skein_0 hself (fq_X13_skein hself k) hz 
    · exact fb_X13_skein_1 hself (fq_X13_skein hself k) hz (h9_r6 (by decide))
    · exact fb_X13_skein_2 hself (fq_X13_skein hself k) hz (h9_r6 (by decide))
    · exact fb_X13_skein_3 hself (fq_X13_skein hself k) hz (h9_r6 (by decide))
    · exact fb_X13_skein_4 hself (fq_X13_skein hself k) hz (h9_r6 (by decide))
    · exact fb_X13_skein_5 hself (fq_X13_skein hself k) hz (h9_r6 (by decide))
    · exact fb_X13_skein_6 hself (fq_X13_skein hself k) hz (h9_r6 (by decide))
    · exact fb_X13_skein_7 hself (fq_X13_skein hself k) hz (h9_r6 (by decide))
    · exact fb_X13_skein_8 hself (fq_X13_skein hself k) hz (h9_r6 (by decide))
    · exact fb_X13_skein_9 hself (fq_X13_skein hself k) hz (h9_r6 (by decide)) (h9_r12 (by decide))
    · exact fb_X13_skein_10 hself (fq_X13_skein hself k) hz (h9_r6 (by decide)) (h9_r12 (by decide))
    · exact fb_X13_skein_11 hself (fq_X13_skein hself k) hz (h9_r6 (by decide)) (h9_r12 (by decide))
    · exact fb_X13_skein_12 hself (fq_X13_skein hself k) hz (h9_r6 (by decide)) (h9_r12 (by decide))
    · exact fb_X13_skein_13 hself (fq_X13_skein hself k) hz (h9_r6 (by decide)) (h9_r12 (by decide))
    · exact fo_none
theorem fd_X13_skein {K : Nat} {z0 : ow_MS} : ∀ (d : Nat) (x1 : Int32) (w2 : Int64) (x4 : Int32) (x5 : Int32) (z : ow_MS), fr (pf [41, 42, 44] []) z0 z → Fo id (pf [41, 42, 44] []) z0 (qd_X13_skein K d x1 w2 x4 x5 z)
  | 0 => by
    intros
    exact fo_none
  | d + 1 => by
    intro x1 w2 x4 x5 z hz 
    exact fq_X13_skein (fd_X13_skein d) K 0 _ _ _ _ _ _ _ _ _ _ _ _ _ _ _ _ _ _ z hz (fun h9 => absurd h9 (by decide)) (fun h9 => absurd h9 (by decide))
theorem ff_X13_skein {K : Nat} {x1 : Int32} {w2 : Int64} {x4 : Int32} {x5 : Int32} {z : ow_MS}  : Fo id (pf [41, 42, 44] []) z (qe_X13_skein K x1 w2 x4 x5 z) := fd_X13_skein 16 _ _ _ _ z fr_rf 
theorem fb_X13_conway_0 {K : Nat} {z0 z : ow_MS}  {go : Nat → Int32 → Int32 → Int32 → ow_MS → Option (Int32 × ow_MS)} {x1 : Int32} {x2 : Int32} {x3 : Int32}  (hgo : ∀ (L : Nat) (x1 : Int32) (x2 : Int32) (x3 : Int32) (z : ow_MS), fr (pf [1, 41, 42, 43, 44, 46] []) z0 z → Fo Prod.snd (pf [1, 41, 42, 43, 44, 46] []) z0 (go L x1 x2 x3 z)) (hz : fr (pf [1, 41, 42, 43, 44, 46] []) z0 z)  : Fo Prod.snd (pf [1, 41, 42, 43, 44, 46] []) z0 (qm_X13_conway_0 K go x1 x2 x3 z) := by
  unfold qm_X13_conway_0
  exact (fo_wrF (Or.inl (by decide)) hz (fun z1 h_z1 => (fo_cs1 (ff_X13_has) (pf_sub (by decide) pf_0) h_z1 (fun v3 z2 h_z2 => (fo_if (fo_cs1 (ff_X13_fails) (pf_sub (by decide) pf_0) h_z2 (fun v7 z6 h_z6 => (fo_some h_z6))) (fo_cs1 (ff_X13_isSame) (pf_sub (by decide) pf_0) h_z2 (fun v5 z4 h_z4 => (fo_if (hgo 1 _ _ _ z4 h_z4) (hgo 3 _ _ _ z4 h_z4)))))))))
theorem fb_X13_conway_1 {K : Nat} {z0 z : ow_MS}  {go : Nat → Int32 → Int32 → Int32 → ow_MS → Option (Int32 × ow_MS)} {x1 : Int32} {x2 : Int32} {x3 : Int32}  (hgo : ∀ (L : Nat) (x1 : Int32) (x2 : Int32) (x3 : Int32) (z : ow_MS), fr (pf [1, 41, 42, 43, 44, 46] []) z0 z → Fo Prod.snd (pf [1, 41, 42, 43, 44, 46] []) z0 (go L x1 x2 x3 z)) (hz : fr (pf [1, 41, 42, 43, 44, 46] []) z0 z)  : Fo Prod.snd (pf [1, 41, 42, 43, 44, 46] []) z0 (qm_X13_conway_1 K go x1 x2 x3 z) := by
  unfold qm_X13_conway_1
  exact (fo_if (fo_rdN (fun n8 hn8 => (fo_cs0 (ff_X13_open (by first | omega | decide)) (pf_sub (by decide) pf_0) hz (fun z9 h_z9 => (fo_okZ (fo_wrF (Or.inl (by decide)) h_z9 (fun z10 h_z10 => (fo_cs0 (ff_X13_skein) (pf_sub (by decide) pf_0) h_z10 (fun z11 h_z11 => (hgo 2 _ _ _ z11 h_z11)))))))))) (fo_wrJ (Or.inl (by decide)) hz (fun z12 h_z12 => (hgo 1 _ _ _ z12 h_z12))))
theorem fb_X13_conway_2 {K : Nat} {z0 z : ow_MS}  {go : Nat → Int32 → Int32 → Int32 → ow_MS → Option (Int32 × ow_MS)} {x1 : Int32} {x2 : Int32} {x3 : Int32}  (hgo : ∀ (L : Nat) (x1 : Int32) (x2 : Int32) (x3 : Int32) (z : ow_MS), fr (pf [1, 41, 42, 43, 44, 46] []) z0 z → Fo Prod.snd (pf [1, 41, 42, 43, 44, 46] []) z0 (go L x1 x2 x3 z)) (hz : fr (pf [1, 41, 42, 43, 44, 46] []) z0 z)  : Fo Prod.snd (pf [1, 41, 42, 43, 44, 46] []) z0 (qm_X13_conway_2 K go x1 x2 x3 z) := by
  unfold qm_X13_conway_2
  exact (fo_if (hgo 3 _ _ _ z hz) (fo_rdI (fun v13 => (fo_wrI (Or.inl (by decide)) hz (fun z14 h_z14 => (hgo 2 _ _ _ z14 h_z14))))))
theorem fb_X13_conway_3 {K : Nat} {z0 z : ow_MS}  {go : Nat → Int32 → Int32 → Int32 → ow_MS → Option (Int32 × ow_MS)} {x1 : Int32} {x2 : Int32} {x3 : Int32}  (hgo : ∀ (L : Nat) (x1 : Int32) (x2 : Int32) (x3 : Int32) (z : ow_MS), fr (pf [1, 41, 42, 43, 44, 46] []) z0 z → Fo Prod.snd (pf [1, 41, 42, 43, 44, 46] []) z0 (go L x1 x2 x3 z)) (hz : fr (pf [1, 41, 42, 43, 44, 46] []) z0 z)  : Fo Prod.snd (pf [1, 41, 42, 43, 44, 46] []) z0 (qm_X13_conway_3 K go x1 x2 x3 z) := by
  unfold qm_X13_conway_3
  exact (fo_if (hgo 4 _ _ _ z hz) (fo_if (fo_rdJ (fun v15 => (fo_some hz))) (hgo 4 _ _ _ z hz)))
theorem fb_X13_conway_4 {K : Nat} {z0 z : ow_MS}  {go : Nat → Int32 → Int32 → Int32 → ow_MS → Option (Int32 × ow_MS)} {x1 : Int32} {x2 : Int32} {x3 : Int32}  (hgo : ∀ (L : Nat) (x1 : Int32) (x2 : Int32) (x3 : Int32) (z : ow_MS), fr (pf [1, 41, 42, 43, 44, 46] []) z0 z → Fo Prod.snd (pf [1, 41, 42, 43, 44, 46] []) z0 (go L x1 x2 x3 z)) (hz : fr (pf [1, 41, 42, 43, 44, 46] []) z0 z)  : Fo Prod.snd (pf [1, 41, 42, 43, 44, 46] []) z0 (qm_X13_conway_4 K go x1 x2 x3 z) := by
  unfold qm_X13_conway_4
  exact (fo_some hz)
theorem fq_X13_conway {K : Nat} {z0 : ow_MS}   : ∀ (k L : Nat) (x1 : Int32) (x2 : Int32) (x3 : Int32) (z : ow_MS), fr (pf [1, 41, 42, 43, 44, 46] []) z0 z → Fo Prod.snd (pf [1, 41, 42, 43, 44, 46] []) z0 (q_X13_conway K k L x1 x2 x3 z)
  | 0 => by
    intros
    exact fo_none
  | k + 1 => by
    intro L x1 x2 x3 z hz 
    show Fo Prod.snd (pf [1, 41, 42, 43, 44, 46] []) z0 (qb_X13_conway K (q_X13_conway K k) L x1 x2 x3 z)
    unfold qb_X13_conway
    split
    · exact fb_X13_conway_0 (fq_X13_conway k) hz 
    · exact fb_X13_conway_1 (fq_X13_conway k) hz 
    · exact fb_X13_conway_2 (fq_X13_conway k) hz 
    · exact fb_X13_conway_3 (fq_X13_conway k) hz 
    · exact fb_X13_conway_4 (fq_X13_conway k) hz 
    · exact fo_none
theorem ff_X13_conway {K : Nat} {x1 : Int32} {x2 : Int32} {z : ow_MS}  : Fo Prod.snd (pf [1, 41, 42, 43, 44, 46] []) z (qe_X13_conway K x1 x2 z) := fq_X13_conway K 0 _ _ _ z fr_rf 
theorem fb_X13_root_0 {K : Nat} {z0 z : ow_MS}  {go : Nat → Int32 → Int32 → ow_MS → Option (Int32 × ow_MS)} {x1 : Int32} {x2 : Int32}  (hgo : ∀ (L : Nat) (x1 : Int32) (x2 : Int32) (z : ow_MS), fr (pf [] []) z0 z → Fo Prod.snd (pf [] []) z0 (go L x1 x2 z)) (hz : fr (pf [] []) z0 z)  : Fo Prod.snd (pf [] []) z0 (qm_X13_root_0 K go x1 x2 z) := by
  unfold qm_X13_root_0
  exact (hgo 1 _ _ z hz)
theorem fb_X13_root_1 {K : Nat} {z0 z : ow_MS}  {go : Nat → Int32 → Int32 → ow_MS → Option (Int32 × ow_MS)} {x1 : Int32} {x2 : Int32}  (hgo : ∀ (L : Nat) (x1 : Int32) (x2 : Int32) (z : ow_MS), fr (pf [] []) z0 z → Fo Prod.snd (pf [] []) z0 (go L x1 x2 z)) (hz : fr (pf [] []) z0 z)  : Fo Prod.snd (pf [] []) z0 (qm_X13_root_1 K go x1 x2 z) := by
  unfold qm_X13_root_1
  exact (fo_rdI (fun v1 => (fo_if (fo_some hz) (fo_rdI (fun v2 => (hgo 1 _ _ z hz))))))
theorem fq_X13_root {K : Nat} {z0 : ow_MS}   : ∀ (k L : Nat) (x1 : Int32) (x2 : Int32) (z : ow_MS), fr (pf [] []) z0 z → Fo Prod.snd (pf [] []) z0 (q_X13_root K k L x1 x2 z)
  | 0 => by
    intros
    exact fo_none
  | k + 1 => by
    intro L x1 x2 z hz 
    show Fo Prod.snd (pf [] []) z0 (qb_X13_root K (q_X13_root K k) L x1 x2 z)
    unfold qb_X13_root
    split
    · exact fb_X13_root_0 (fq_X13_root k) hz 
    · exact fb_X13_root_1 (fq_X13_root k) hz 
    · exact fo_none
theorem ff_X13_root {K : Nat} {x1 : Int32} {z : ow_MS}  : Fo Prod.snd (pf [] []) z (qe_X13_root K x1 z) := fq_X13_root K 0 _ _ z fr_rf 
theorem ff_X13_unite {K : Nat} {x1 : Int32} {x2 : Int32} {z : ow_MS}  : Fo id (pf [47] []) z (qe_X13_unite K x1 x2 z) := by
  unfold qe_X13_unite qm_X13_unite_0
  exact (fo_cs1 (ff_X13_root) (pf_sub (by decide) pf_0) fr_rf (fun v2 z1 h_z1 => (fo_cs1 (ff_X13_root) (pf_sub (by decide) pf_0) h_z1 (fun v4 z3 h_z3 => (fo_if (fo_wrI (Or.inl (by decide)) h_z3 (fun z5 h_z5 => (fo_some h_z5))) (fo_wrI (Or.inl (by decide)) h_z3 (fun z6 h_z6 => (fo_some h_z6))))))))
theorem fb_X13_loops_0 {K : Nat} {z0 z : ow_MS}  {go : Nat → Int32 → Int32 → Int32 → Int32 → Nat → Int32 → ow_MS → Option ow_MS} {x2 : Int32} {x3 : Int32} {x4 : Int32} {x5 : Int32} {r1 : Nat} {t0 : Int32}  (hgo : ∀ (L : Nat) (x2 : Int32) (x3 : Int32) (x4 : Int32) (x5 : Int32) (r1 : Nat) (t0 : Int32) (z : ow_MS), fr (pf [47] []) z0 z → (L = 0 ∨ L = 1 ∨ L = 2 ∨ L = 3 ∨ L = 4 ∨ L = 5 → 1000 ≤ r1) → Fo id (pf [47] []) z0 (go L x2 x3 x4 x5 r1 t0 z)) (hz : fr (pf [47] []) z0 z) (hr1 : 1000 ≤ r1) : Fo id (pf [47] []) z0 (qm_X13_loops_0 K go x2 x3 x4 x5 r1 t0 z) := by
  unfold qm_X13_loops_0
  exact (hgo 1 _ _ _ _ _ _ z hz (fun _ => (by first | omega | decide)))
theorem fb_X13_loops_1 {K : Nat} {z0 z : ow_MS}  {go : Nat → Int32 → Int32 → Int32 → Int32 → Nat → Int32 → ow_MS → Option ow_MS} {x2 : Int32} {x3 : Int32} {x4 : Int32} {x5 : Int32} {r1 : Nat} {t0 : Int32}  (hgo : ∀ (L : Nat) (x2 : Int32) (x3 : Int32) (x4 : Int32) (x5 : Int32) (r1 : Nat) (t0 : Int32) (z : ow_MS), fr (pf [47] []) z0 z → (L = 0 ∨ L = 1 ∨ L = 2 ∨ L = 3 ∨ L = 4 ∨ L = 5 → 1000 ≤ r1) → Fo id (pf [47] []) z0 (go L x2 x3 x4 x5 r1 t0 z)) (hz : fr (pf [47] []) z0 z) (hr1 : 1000 ≤ r1) : Fo id (pf [47] []) z0 (qm_X13_loops_1 K go x2 x3 x4 x5 r1 t0 z) := by
  unfold qm_X13_loops_1
  exact (fo_if (hgo 2 _ _ _ _ _ _ z hz (fun _ => (by first | omega | decide))) (fo_wrI (Or.inl (by decide)) hz (fun z1 h_z1 => (hgo 1 _ _ _ _ _ _ z1 h_z1 (fun _ => (by first | omega | decide))))))
theorem fb_X13_loops_2 {K : Nat} {z0 z : ow_MS}  {go : Nat → Int32 → Int32 → Int32 → Int32 → Nat → Int32 → ow_MS → Option ow_MS} {x2 : Int32} {x3 : Int32} {x4 : Int32} {x5 : Int32} {r1 : Nat} {t0 : Int32}  (hgo : ∀ (L : Nat) (x2 : Int32) (x3 : Int32) (x4 : Int32) (x5 : Int32) (r1 : Nat) (t0 : Int32) (z : ow_MS), fr (pf [47] []) z0 z → (L = 0 ∨ L = 1 ∨ L = 2 ∨ L = 3 ∨ L = 4 ∨ L = 5 → 1000 ≤ r1) → Fo id (pf [47] []) z0 (go L x2 x3 x4 x5 r1 t0 z)) (hz : fr (pf [47] []) z0 z) (hr1 : 1000 ≤ r1) : Fo id (pf [47] []) z0 (qm_X13_loops_2 K go x2 x3 x4 x5 r1 t0 z) := by
  unfold qm_X13_loops_2
  exact (fo_rdF (fun v2 => (fo_if (fo_some hz) (fo_rdI (fun v3 => (fo_rdI (fun v4 => (fo_if (fo_rdI (fun v5 => (fo_if (hgo 3 _ _ _ _ _ _ z hz (fun _ => (by first | omega | decide))) (hgo 3 _ _ _ _ _ _ z hz (fun _ => (by first | omega | decide)))))) (hgo 5 _ _ _ _ _ _ z hz (fun _ => (by first | omega | decide)))))))))))
theorem fb_X13_loops_3 {K : Nat} {z0 z : ow_MS}  {go : Nat → Int32 → Int32 → Int32 → Int32 → Nat → Int32 → ow_MS → Option ow_MS} {x2 : Int32} {x3 : Int32} {x4 : Int32} {x5 : Int32} {r1 : Nat} {t0 : Int32}  (hgo : ∀ (L : Nat) (x2 : Int32) (x3 : Int32) (x4 : Int32) (x5 : Int32) (r1 : Nat) (t0 : Int32) (z : ow_MS), fr (pf [47] []) z0 z → (L = 0 ∨ L = 1 ∨ L = 2 ∨ L = 3 ∨ L = 4 ∨ L = 5 → 1000 ≤ r1) → Fo id (pf [47] []) z0 (go L x2 x3 x4 x5 r1 t0 z)) (hz : fr (pf [47] []) z0 z) (hr1 : 1000 ≤ r1) : Fo id (pf [47] []) z0 (qm_X13_loops_3 K go x2 x3 x4 x5 r1 t0 z) := by
  unfold qm_X13_loops_3
  exact (fo_rdI (fun v6 => (fo_rdI (fun v7 => (fo_if (hgo 4 _ _ _ _ _ _ z hz (fun _ => (by first | omega | decide))) (hgo 4 _ _ _ _ _ _ z hz (fun _ => (by first | omega | decide))))))))
theorem fb_X13_loops_4 {K : Nat} {z0 z : ow_MS}  {go : Nat → Int32 → Int32 → Int32 → Int32 → Nat → Int32 → ow_MS → Option ow_MS} {x2 : Int32} {x3 : Int32} {x4 : Int32} {x5 : Int32} {r1 : Nat} {t0 : Int32}  (hgo : ∀ (L : Nat) (x2 : Int32) (x3 : Int32) (x4 : Int32) (x5 : Int32) (r1 : Nat) (t0 : Int32) (z : ow_MS), fr (pf [47] []) z0 z → (L = 0 ∨ L = 1 ∨ L = 2 ∨ L = 3 ∨ L = 4 ∨ L = 5 → 1000 ≤ r1) → Fo id (pf [47] []) z0 (go L x2 x3 x4 x5 r1 t0 z)) (hz : fr (pf [47] []) z0 z) (hr1 : 1000 ≤ r1) : Fo id (pf [47] []) z0 (qm_X13_loops_4 K go x2 x3 x4 x5 r1 t0 z) := by
  unfold qm_X13_loops_4
  exact (fo_if (fo_rdI (fun v8 => (fo_rdI (fun v9 => (fo_cs0 (ff_X13_unite) (pf_sub (by decide) pf_0) hz (fun z10 h_z10 => (fo_cs0 (ff_X13_unite) (pf_sub (by decide) pf_0) h_z10 (fun z11 h_z11 => (hgo 5 _ _ _ _ _ _ z11 h_z11 (fun _ => (by first | omega | decide))))))))))) (fo_rdI (fun v12 => (fo_cs0 (ff_X13_unite) (pf_sub (by decide) pf_0) hz (fun z13 h_z13 => (fo_rdI (fun v14 => (fo_cs0 (ff_X13_unite) (pf_sub (by decide) pf_0) h_z13 (fun z15 h_z15 => (hgo 5 _ _ _ _ _ _ z15 h_z15 (fun _ => (by first | omega | decide))))))))))))
theorem fb_X13_loops_5 {K : Nat} {z0 z : ow_MS}  {go : Nat → Int32 → Int32 → Int32 → Int32 → Nat → Int32 → ow_MS → Option ow_MS} {x2 : Int32} {x3 : Int32} {x4 : Int32} {x5 : Int32} {r1 : Nat} {t0 : Int32}  (hgo : ∀ (L : Nat) (x2 : Int32) (x3 : Int32) (x4 : Int32) (x5 : Int32) (r1 : Nat) (t0 : Int32) (z : ow_MS), fr (pf [47] []) z0 z → (L = 0 ∨ L = 1 ∨ L = 2 ∨ L = 3 ∨ L = 4 ∨ L = 5 → 1000 ≤ r1) → Fo id (pf [47] []) z0 (go L x2 x3 x4 x5 r1 t0 z)) (hz : fr (pf [47] []) z0 z) (hr1 : 1000 ≤ r1) : Fo id (pf [47] []) z0 (qm_X13_loops_5 K go x2 x3 x4 x5 r1 t0 z) := by
  unfold qm_X13_loops_5
  exact (hgo 2 _ _ _ _ _ _ z hz (fun _ => (by first | omega | decide)))
theorem fq_X13_loops {K : Nat} {z0 : ow_MS}   : ∀ (k L : Nat) (x2 : Int32) (x3 : Int32) (x4 : Int32) (x5 : Int32) (r1 : Nat) (t0 : Int32) (z : ow_MS), fr (pf [47] []) z0 z → (L = 0 ∨ L = 1 ∨ L = 2 ∨ L = 3 ∨ L = 4 ∨ L = 5 → 1000 ≤ r1) → Fo id (pf [47] []) z0 (q_X13_loops K k L x2 x3 x4 x5 r1 t0 z)
  | 0 => by
    intros
    exact fo_none
  | k + 1 => by
    intro L x2 x3 x4 x5 r1 t0 z hz h9_r1
    show Fo id (pf [47] []) z0 (qb_X13_loops K (q_X13_loops K k) L x2 x3 x4 x5 r1 t0 z)
    unfold qb_X13_loops
    split
    · exact fb_X13_loops_0 (fq_X13_loops k) hz (h9_r1 (by decide))
    · exact fb_X13_loops_1 (fq_X13_loops k) hz (h9_r1 (by decide))
    · exact fb_X13_loops_2 (fq_X13_loops k) hz (h9_r1 (by decide))
    · exact fb_X13_loops_3 (fq_X13_loops k) hz (h9_r1 (by decide))
    · exact fb_X13_loops_4 (fq_X13_loops k) hz (h9_r1 (by decide))
    · exact fb_X13_loops_5 (fq_X13_loops k) hz (h9_r1 (by decide))
    · exact fo_none
theorem ff_X13_loops {K : Nat} {r1 : Nat} {x2 : Int32} {z : ow_MS} (hr1 : 1000 ≤ r1) : Fo id (pf [47] []) z (qe_X13_loops K r1 x2 z) := fq_X13_loops K 0 _ _ _ _ _ _ z fr_rf (fun _ => (by first | omega | decide))
theorem fb_X13_countLoops_0 {K : Nat} {z0 z : ow_MS}  {go : Nat → Int32 → Int32 → Nat → Int32 → Int32 → ow_MS → Option (Int32 × ow_MS)} {x2 : Int32} {x3 : Int32} {r1 : Nat} {t0 : Int32} {t1 : Int32}  (hgo : ∀ (L : Nat) (x2 : Int32) (x3 : Int32) (r1 : Nat) (t0 : Int32) (t1 : Int32) (z : ow_MS), fr (pf [] []) z0 z → (L = 0 ∨ L = 1 ∨ L = 2 → 1000 ≤ r1) → Fo Prod.snd (pf [] []) z0 (go L x2 x3 r1 t0 t1 z)) (hz : fr (pf [] []) z0 z) (hr1 : 1000 ≤ r1) : Fo Prod.snd (pf [] []) z0 (qm_X13_countLoops_0 K go x2 x3 r1 t0 t1 z) := by
  unfold qm_X13_countLoops_0
  exact (hgo 1 _ _ _ _ _ z hz (fun _ => (by first | omega | decide)))
theorem fb_X13_countLoops_1 {K : Nat} {z0 z : ow_MS}  {go : Nat → Int32 → Int32 → Nat → Int32 → Int32 → ow_MS → Option (Int32 × ow_MS)} {x2 : Int32} {x3 : Int32} {r1 : Nat} {t0 : Int32} {t1 : Int32}  (hgo : ∀ (L : Nat) (x2 : Int32) (x3 : Int32) (r1 : Nat) (t0 : Int32) (t1 : Int32) (z : ow_MS), fr (pf [] []) z0 z → (L = 0 ∨ L = 1 ∨ L = 2 → 1000 ≤ r1) → Fo Prod.snd (pf [] []) z0 (go L x2 x3 r1 t0 t1 z)) (hz : fr (pf [] []) z0 z) (hr1 : 1000 ≤ r1) : Fo Prod.snd (pf [] []) z0 (qm_X13_countLoops_1 K go x2 x3 r1 t0 t1 z) := by
  unfold qm_X13_countLoops_1
  exact (fo_rdF (fun v1 => (fo_if (fo_some hz) (fo_rdI (fun v2 => (fo_if (hgo 2 _ _ _ _ _ z hz (fun _ => (by first | omega | decide))) (hgo 2 _ _ _ _ _ z hz (fun _ => (by first | omega | decide)))))))))
theorem fb_X13_countLoops_2 {K : Nat} {z0 z : ow_MS}  {go : Nat → Int32 → Int32 → Nat → Int32 → Int32 → ow_MS → Option (Int32 × ow_MS)} {x2 : Int32} {x3 : Int32} {r1 : Nat} {t0 : Int32} {t1 : Int32}  (hgo : ∀ (L : Nat) (x2 : Int32) (x3 : Int32) (r1 : Nat) (t0 : Int32) (t1 : Int32) (z : ow_MS), fr (pf [] []) z0 z → (L = 0 ∨ L = 1 ∨ L = 2 → 1000 ≤ r1) → Fo Prod.snd (pf [] []) z0 (go L x2 x3 r1 t0 t1 z)) (hz : fr (pf [] []) z0 z) (hr1 : 1000 ≤ r1) : Fo Prod.snd (pf [] []) z0 (qm_X13_countLoops_2 K go x2 x3 r1 t0 t1 z) := by
  unfold qm_X13_countLoops_2
  exact (hgo 1 _ _ _ _ _ z hz (fun _ => (by first | omega | decide)))
theorem fq_X13_countLoops {K : Nat} {z0 : ow_MS}   : ∀ (k L : Nat) (x2 : Int32) (x3 : Int32) (r1 : Nat) (t0 : Int32) (t1 : Int32) (z : ow_MS), fr (pf [] []) z0 z → (L = 0 ∨ L = 1 ∨ L = 2 → 1000 ≤ r1) → Fo Prod.snd (pf [] []) z0 (q_X13_countLoops K k L x2 x3 r1 t0 t1 z)
  | 0 => by
    intros
    exact fo_none
  | k + 1 => by
    intro L x2 x3 r1 t0 t1 z hz h9_r1
    show Fo Prod.snd (pf [] []) z0 (qb_X13_countLoops K (q_X13_countLoops K k) L x2 x3 r1 t0 t1 z)
    unfold qb_X13_countLoops
    split
    · exact fb_X13_countLoops_0 (fq_X13_countLoops k) hz (h9_r1 (by decide))
    · exact fb_X13_countLoops_1 (fq_X13_countLoops k) hz (h9_r1 (by decide))
    · exact fb_X13_countLoops_2 (fq_X13_countLoops k) hz (h9_r1 (by decide))
    · exact fo_none
theorem ff_X13_countLoops {K : Nat} {r1 : Nat} {z : ow_MS} (hr1 : 1000 ≤ r1) : Fo Prod.snd (pf [] []) z (qe_X13_countLoops K r1 z) := fq_X13_countLoops K 0 _ _ _ _ _ z fr_rf (fun _ => (by first | omega | decide))
theorem fb_X13_makeJones_0 {K : Nat} {z0 z : ow_MS}  {go : Nat → Int32 → Int32 → Int32 → Int32 → Int32 → Int32 → Int32 → Int32 → Int64 → Int64 → Int64 → Nat → Int32 → Int64 → Int64 → ow_MS → Option ow_MS} {x2 : Int32} {x3 : Int32} {x4 : Int32} {x5 : Int32} {x10 : Int32} {x11 : Int32} {x12 : Int32} {x13 : Int32} {w6 : Int64} {w8 : Int64} {w14 : Int64} {r1 : Nat} {t2 : Int32} {y0 : Int64} {y1 : Int64}  (hgo : ∀ (L : Nat) (x2 : Int32) (x3 : Int32) (x4 : Int32) (x5 : Int32) (x10 : Int32) (x11 : Int32) (x12 : Int32) (x13 : Int32) (w6 : Int64) (w8 : Int64) (w14 : Int64) (r1 : Nat) (t2 : Int32) (y0 : Int64) (y1 : Int64) (z : ow_MS), fr (pf [47, 48, 51] []) z0 z → (L = 0 ∨ L = 1 ∨ L = 2 ∨ L = 3 ∨ L = 4 ∨ L = 5 ∨ L = 6 ∨ L = 7 ∨ L = 8 ∨ L = 9 → 1000 ≤ r1) → Fo id (pf [47, 48, 51] []) z0 (go L x2 x3 x4 x5 x10 x11 x12 x13 w6 w8 w14 r1 t2 y0 y1 z)) (hz : fr (pf [47, 48, 51] []) z0 z) (hr1 : 1000 ≤ r1) : Fo id (pf [47, 48, 51] []) z0 (qm_X13_makeJones_0 K go x2 x3 x4 x5 x10 x11 x12 x13 w6 w8 w14 r1 t2 y0 y1 z) := by
  unfold qm_X13_makeJones_0
  exact (fo_rdF (fun v1 => (fo_nzI (fo_cs1 (ff_X13_circlesOf (by first | omega | decide)) (pf_sub (by decide) pf_0) hz (fun v3 z2 h_z2 => (hgo 1 _ _ _ _ _ _ _ _ _ _ _ _ _ _ _ z2 h_z2 (fun _ => (by first | omega | decide))))))))
theorem fb_X13_makeJones_1 {K : Nat} {z0 z : ow_MS}  {go : Nat → Int32 → Int32 → Int32 → Int32 → Int32 → Int32 → Int32 → Int32 → Int64 → Int64 → Int64 → Nat → Int32 → Int64 → Int64 → ow_MS → Option ow_MS} {x2 : Int32} {x3 : Int32} {x4 : Int32} {x5 : Int32} {x10 : Int32} {x11 : Int32} {x12 : Int32} {x13 : Int32} {w6 : Int64} {w8 : Int64} {w14 : Int64} {r1 : Nat} {t2 : Int32} {y0 : Int64} {y1 : Int64}  (hgo : ∀ (L : Nat) (x2 : Int32) (x3 : Int32) (x4 : Int32) (x5 : Int32) (x10 : Int32) (x11 : Int32) (x12 : Int32) (x13 : Int32) (w6 : Int64) (w8 : Int64) (w14 : Int64) (r1 : Nat) (t2 : Int32) (y0 : Int64) (y1 : Int64) (z : ow_MS), fr (pf [47, 48, 51] []) z0 z → (L = 0 ∨ L = 1 ∨ L = 2 ∨ L = 3 ∨ L = 4 ∨ L = 5 ∨ L = 6 ∨ L = 7 ∨ L = 8 ∨ L = 9 → 1000 ≤ r1) → Fo id (pf [47, 48, 51] []) z0 (go L x2 x3 x4 x5 x10 x11 x12 x13 w6 w8 w14 r1 t2 y0 y1 z)) (hz : fr (pf [47, 48, 51] []) z0 z) (hr1 : 1000 ≤ r1) : Fo id (pf [47, 48, 51] []) z0 (qm_X13_makeJones_1 K go x2 x3 x4 x5 x10 x11 x12 x13 w6 w8 w14 r1 t2 y0 y1 z) := by
  unfold qm_X13_makeJones_1
  exact (fo_if (hgo 2 _ _ _ _ _ _ _ _ _ _ _ _ _ _ _ z hz (fun _ => (by first | omega | decide))) (fo_wrJ (Or.inl (by decide)) hz (fun z4 h_z4 => (hgo 1 _ _ _ _ _ _ _ _ _ _ _ _ _ _ _ z4 h_z4 (fun _ => (by first | omega | decide))))))
theorem fb_X13_makeJones_2 {K : Nat} {z0 z : ow_MS}  {go : Nat → Int32 → Int32 → Int32 → Int32 → Int32 → Int32 → Int32 → Int32 → Int64 → Int64 → Int64 → Nat → Int32 → Int64 → Int64 → ow_MS → Option ow_MS} {x2 : Int32} {x3 : Int32} {x4 : Int32} {x5 : Int32} {x10 : Int32} {x11 : Int32} {x12 : Int32} {x13 : Int32} {w6 : Int64} {w8 : Int64} {w14 : Int64} {r1 : Nat} {t2 : Int32} {y0 : Int64} {y1 : Int64}  (hgo : ∀ (L : Nat) (x2 : Int32) (x3 : Int32) (x4 : Int32) (x5 : Int32) (x10 : Int32) (x11 : Int32) (x12 : Int32) (x13 : Int32) (w6 : Int64) (w8 : Int64) (w14 : Int64) (r1 : Nat) (t2 : Int32) (y0 : Int64) (y1 : Int64) (z : ow_MS), fr (pf [47, 48, 51] []) z0 z → (L = 0 ∨ L = 1 ∨ L = 2 ∨ L = 3 ∨ L = 4 ∨ L = 5 ∨ L = 6 ∨ L = 7 ∨ L = 8 ∨ L = 9 → 1000 ≤ r1) → Fo id (pf [47, 48, 51] []) z0 (go L x2 x3 x4 x5 x10 x11 x12 x13 w6 w8 w14 r1 t2 y0 y1 z)) (hz : fr (pf [47, 48, 51] []) z0 z) (hr1 : 1000 ≤ r1) : Fo id (pf [47, 48, 51] []) z0 (qm_X13_makeJones_2 K go x2 x3 x4 x5 x10 x11 x12 x13 w6 w8 w14 r1 t2 y0 y1 z) := by
  unfold qm_X13_makeJones_2
  exact (fo_if (hgo 3 _ _ _ _ _ _ _ _ _ _ _ _ _ _ _ z hz (fun _ => (by first | omega | decide))) (fo_cs0 (ff_X13_loops (by first | omega | decide)) (pf_sub (by decide) pf_0) hz (fun z5 h_z5 => (fo_cs1 (ff_X13_countLoops (by first | omega | decide)) (pf_sub (by decide) pf_0) h_z5 (fun v8 z7 h_z7 => (fo_rdJ (fun v9 => (fo_wrJ (Or.inl (by decide)) h_z7 (fun z10 h_z10 => (hgo 2 _ _ _ _ _ _ _ _ _ _ _ _ _ _ _ z10 h_z10 (fun _ => (by first | omega | decide))))))))))))
theorem fb_X13_makeJones_3 {K : Nat} {z0 z : ow_MS}  {go : Nat → Int32 → Int32 → Int32 → Int32 → Int32 → Int32 → Int32 → Int32 → Int64 → Int64 → Int64 → Nat → Int32 → Int64 → Int64 → ow_MS → Option ow_MS} {x2 : Int32} {x3 : Int32} {x4 : Int32} {x5 : Int32} {x10 : Int32} {x11 : Int32} {x12 : Int32} {x13 : Int32} {w6 : Int64} {w8 : Int64} {w14 : Int64} {r1 : Nat} {t2 : Int32} {y0 : Int64} {y1 : Int64}  (hgo : ∀ (L : Nat) (x2 : Int32) (x3 : Int32) (x4 : Int32) (x5 : Int32) (x10 : Int32) (x11 : Int32) (x12 : Int32) (x13 : Int32) (w6 : Int64) (w8 : Int64) (w14 : Int64) (r1 : Nat) (t2 : Int32) (y0 : Int64) (y1 : Int64) (z : ow_MS), fr (pf [47, 48, 51] []) z0 z → (L = 0 ∨ L = 1 ∨ L = 2 ∨ L = 3 ∨ L = 4 ∨ L = 5 ∨ L = 6 ∨ L = 7 ∨ L = 8 ∨ L = 9 → 1000 ≤ r1) → Fo id (pf [47, 48, 51] []) z0 (go L x2 x3 x4 x5 x10 x11 x12 x13 w6 w8 w14 r1 t2 y0 y1 z)) (hz : fr (pf [47, 48, 51] []) z0 z) (hr1 : 1000 ≤ r1) : Fo id (pf [47, 48, 51] []) z0 (qm_X13_makeJones_3 K go x2 x3 x4 x5 x10 x11 x12 x13 w6 w8 w14 r1 t2 y0 y1 z) := by
  unfold qm_X13_makeJones_3
  exact (fo_if (fo_cs1 (ff_X13_writheOf (by first | omega | decide)) (pf_sub (by decide) pf_0) hz (fun v12 z11 h_z11 => (hgo 4 _ _ _ _ _ _ _ _ _ _ _ _ _ _ _ z11 h_z11 (fun _ => (by first | omega | decide))))) (fo_wrJ (Or.inl (by decide)) hz (fun z13 h_z13 => (hgo 3 _ _ _ _ _ _ _ _ _ _ _ _ _ _ _ z13 h_z13 (fun _ => (by first | omega | decide))))))
theorem fb_X13_makeJones_4 {K : Nat} {z0 z : ow_MS}  {go : Nat → Int32 → Int32 → Int32 → Int32 → Int32 → Int32 → Int32 → Int32 → Int64 → Int64 → Int64 → Nat → Int32 → Int64 → Int64 → ow_MS → Option ow_MS} {x2 : Int32} {x3 : Int32} {x4 : Int32} {x5 : Int32} {x10 : Int32} {x11 : Int32} {x12 : Int32} {x13 : Int32} {w6 : Int64} {w8 : Int64} {w14 : Int64} {r1 : Nat} {t2 : Int32} {y0 : Int64} {y1 : Int64}  (hgo : ∀ (L : Nat) (x2 : Int32) (x3 : Int32) (x4 : Int32) (x5 : Int32) (x10 : Int32) (x11 : Int32) (x12 : Int32) (x13 : Int32) (w6 : Int64) (w8 : Int64) (w14 : Int64) (r1 : Nat) (t2 : Int32) (y0 : Int64) (y1 : Int64) (z : ow_MS), fr (pf [47, 48, 51] []) z0 z → (L = 0 ∨ L = 1 ∨ L = 2 ∨ L = 3 ∨ L = 4 ∨ L = 5 ∨ L = 6 ∨ L = 7 ∨ L = 8 ∨ L = 9 → 1000 ≤ r1) → Fo id (pf [47, 48, 51] []) z0 (go L x2 x3 x4 x5 x10 x11 x12 x13 w6 w8 w14 r1 t2 y0 y1 z)) (hz : fr (pf [47, 48, 51] []) z0 z) (hr1 : 1000 ≤ r1) : Fo id (pf [47, 48, 51] []) z0 (qm_X13_makeJones_4 K go x2 x3 x4 x5 x10 x11 x12 x13 w6 w8 w14 r1 t2 y0 y1 z) := by
  unfold qm_X13_makeJones_4
  exact (fo_if (fo_some hz) (fo_if (hgo 5 _ _ _ _ _ _ _ _ _ _ _ _ _ _ _ z hz (fun _ => (by first | omega | decide))) (hgo 5 _ _ _ _ _ _ _ _ _ _ _ _ _ _ _ z hz (fun _ => (by first | omega | decide)))))
theorem fb_X13_makeJones_5 {K : Nat} {z0 z : ow_MS}  {go : Nat → Int32 → Int32 → Int32 → Int32 → Int32 → Int32 → Int32 → Int32 → Int64 → Int64 → Int64 → Nat → Int32 → Int64 → Int64 → ow_MS → Option ow_MS} {x2 : Int32} {x3 : Int32} {x4 : Int32} {x5 : Int32} {x10 : Int32} {x11 : Int32} {x12 : Int32} {x13 : Int32} {w6 : Int64} {w8 : Int64} {w14 : Int64} {r1 : Nat} {t2 : Int32} {y0 : Int64} {y1 : Int64}  (hgo : ∀ (L : Nat) (x2 : Int32) (x3 : Int32) (x4 : Int32) (x5 : Int32) (x10 : Int32) (x11 : Int32) (x12 : Int32) (x13 : Int32) (w6 : Int64) (w8 : Int64) (w14 : Int64) (r1 : Nat) (t2 : Int32) (y0 : Int64) (y1 : Int64) (z : ow_MS), fr (pf [47, 48, 51] []) z0 z → (L = 0 ∨ L = 1 ∨ L = 2 ∨ L = 3 ∨ L = 4 ∨ L = 5 ∨ L = 6 ∨ L = 7 ∨ L = 8 ∨ L = 9 → 1000 ≤ r1) → Fo id (pf [47, 48, 51] []) z0 (go L x2 x3 x4 x5 x10 x11 x12 x13 w6 w8 w14 r1 t2 y0 y1 z)) (hz : fr (pf [47, 48, 51] []) z0 z) (hr1 : 1000 ≤ r1) : Fo id (pf [47, 48, 51] []) z0 (qm_X13_makeJones_5 K go x2 x3 x4 x5 x10 x11 x12 x13 w6 w8 w14 r1 t2 y0 y1 z) := by
  unfold qm_X13_makeJones_5
  exact (hgo 6 _ _ _ _ _ _ _ _ _ _ _ _ _ _ _ z hz (fun _ => (by first | omega | decide)))
theorem fb_X13_makeJones_6 {K : Nat} {z0 z : ow_MS}  {go : Nat → Int32 → Int32 → Int32 → Int32 → Int32 → Int32 → Int32 → Int32 → Int64 → Int64 → Int64 → Nat → Int32 → Int64 → Int64 → ow_MS → Option ow_MS} {x2 : Int32} {x3 : Int32} {x4 : Int32} {x5 : Int32} {x10 : Int32} {x11 : Int32} {x12 : Int32} {x13 : Int32} {w6 : Int64} {w8 : Int64} {w14 : Int64} {r1 : Nat} {t2 : Int32} {y0 : Int64} {y1 : Int64}  (hgo : ∀ (L : Nat) (x2 : Int32) (x3 : Int32) (x4 : Int32) (x5 : Int32) (x10 : Int32) (x11 : Int32) (x12 : Int32) (x13 : Int32) (w6 : Int64) (w8 : Int64) (w14 : Int64) (r1 : Nat) (t2 : Int32) (y0 : Int64) (y1 : Int64) (z : ow_MS), fr (pf [47, 48, 51] []) z0 z → (L = 0 ∨ L = 1 ∨ L = 2 ∨ L = 3 ∨ L = 4 ∨ L = 5 ∨ L = 6 ∨ L = 7 ∨ L = 8 ∨ L = 9 → 1000 ≤ r1) → Fo id (pf [47, 48, 51] []) z0 (go L x2 x3 x4 x5 x10 x11 x12 x13 w6 w8 w14 r1 t2 y0 y1 z)) (hz : fr (pf [47, 48, 51] []) z0 z) (hr1 : 1000 ≤ r1) : Fo id (pf [47, 48, 51] []) z0 (qm_X13_makeJones_6 K go x2 x3 x4 x5 x10 x11 x12 x13 w6 w8 w14 r1 t2 y0 y1 z) := by
  unfold qm_X13_makeJones_6
  exact (fo_if (hgo 4 _ _ _ _ _ _ _ _ _ _ _ _ _ _ _ z hz (fun _ => (by first | omega | decide))) (hgo 7 _ _ _ _ _ _ _ _ _ _ _ _ _ _ _ z hz (fun _ => (by first | omega | decide))))
theorem fb_X13_makeJones_7 {K : Nat} {z0 z : ow_MS}  {go : Nat → Int32 → Int32 → Int32 → Int32 → Int32 → Int32 → Int32 → Int32 → Int64 → Int64 → Int64 → Nat → Int32 → Int64 → Int64 → ow_MS → Option ow_MS} {x2 : Int32} {x3 : Int32} {x4 : Int32} {x5 : Int32} {x10 : Int32} {x11 : Int32} {x12 : Int32} {x13 : Int32} {w6 : Int64} {w8 : Int64} {w14 : Int64} {r1 : Nat} {t2 : Int32} {y0 : Int64} {y1 : Int64}  (hgo : ∀ (L : Nat) (x2 : Int32) (x3 : Int32) (x4 : Int32) (x5 : Int32) (x10 : Int32) (x11 : Int32) (x12 : Int32) (x13 : Int32) (w6 : Int64) (w8 : Int64) (w14 : Int64) (r1 : Nat) (t2 : Int32) (y0 : Int64) (y1 : Int64) (z : ow_MS), fr (pf [47, 48, 51] []) z0 z → (L = 0 ∨ L = 1 ∨ L = 2 ∨ L = 3 ∨ L = 4 ∨ L = 5 ∨ L = 6 ∨ L = 7 ∨ L = 8 ∨ L = 9 → 1000 ≤ r1) → Fo id (pf [47, 48, 51] []) z0 (go L x2 x3 x4 x5 x10 x11 x12 x13 w6 w8 w14 r1 t2 y0 y1 z)) (hz : fr (pf [47, 48, 51] []) z0 z) (hr1 : 1000 ≤ r1) : Fo id (pf [47, 48, 51] []) z0 (qm_X13_makeJones_7 K go x2 x3 x4 x5 x10 x11 x12 x13 w6 w8 w14 r1 t2 y0 y1 z) := by
  unfold qm_X13_makeJones_7
  exact (fo_if (fo_nzJ (hgo 6 _ _ _ _ _ _ _ _ _ _ _ _ _ _ _ z hz (fun _ => (by first | omega | decide)))) (fo_rdJ (fun v14 => (fo_if (hgo 9 _ _ _ _ _ _ _ _ _ _ _ _ _ _ _ z hz (fun _ => (by first | omega | decide))) (fo_rdJ (fun v15 => (fo_if (hgo 8 _ _ _ _ _ _ _ _ _ _ _ _ _ _ _ z hz (fun _ => (by first | omega | decide))) (hgo 8 _ _ _ _ _ _ _ _ _ _ _ _ _ _ _ z hz (fun _ => (by first | omega | decide))))))))))
theorem fb_X13_makeJones_8 {K : Nat} {z0 z : ow_MS}  {go : Nat → Int32 → Int32 → Int32 → Int32 → Int32 → Int32 → Int32 → Int32 → Int64 → Int64 → Int64 → Nat → Int32 → Int64 → Int64 → ow_MS → Option ow_MS} {x2 : Int32} {x3 : Int32} {x4 : Int32} {x5 : Int32} {x10 : Int32} {x11 : Int32} {x12 : Int32} {x13 : Int32} {w6 : Int64} {w8 : Int64} {w14 : Int64} {r1 : Nat} {t2 : Int32} {y0 : Int64} {y1 : Int64}  (hgo : ∀ (L : Nat) (x2 : Int32) (x3 : Int32) (x4 : Int32) (x5 : Int32) (x10 : Int32) (x11 : Int32) (x12 : Int32) (x13 : Int32) (w6 : Int64) (w8 : Int64) (w14 : Int64) (r1 : Nat) (t2 : Int32) (y0 : Int64) (y1 : Int64) (z : ow_MS), fr (pf [47, 48, 51] []) z0 z → (L = 0 ∨ L = 1 ∨ L = 2 ∨ L = 3 ∨ L = 4 ∨ L = 5 ∨ L = 6 ∨ L = 7 ∨ L = 8 ∨ L = 9 → 1000 ≤ r1) → Fo id (pf [47, 48, 51] []) z0 (go L x2 x3 x4 x5 x10 x11 x12 x13 w6 w8 w14 r1 t2 y0 y1 z)) (hz : fr (pf [47, 48, 51] []) z0 z) (hr1 : 1000 ≤ r1) : Fo id (pf [47, 48, 51] []) z0 (qm_X13_makeJones_8 K go x2 x3 x4 x5 x10 x11 x12 x13 w6 w8 w14 r1 t2 y0 y1 z) := by
  unfold qm_X13_makeJones_8
  exact (fo_wrJ (Or.inl (by decide)) hz (fun z16 h_z16 => (hgo 9 _ _ _ _ _ _ _ _ _ _ _ _ _ _ _ z16 h_z16 (fun _ => (by first | omega | decide)))))
theorem fb_X13_makeJones_9 {K : Nat} {z0 z : ow_MS}  {go : Nat → Int32 → Int32 → Int32 → Int32 → Int32 → Int32 → Int32 → Int32 → Int64 → Int64 → Int64 → Nat → Int32 → Int64 → Int64 → ow_MS → Option ow_MS} {x2 : Int32} {x3 : Int32} {x4 : Int32} {x5 : Int32} {x10 : Int32} {x11 : Int32} {x12 : Int32} {x13 : Int32} {w6 : Int64} {w8 : Int64} {w14 : Int64} {r1 : Nat} {t2 : Int32} {y0 : Int64} {y1 : Int64}  (hgo : ∀ (L : Nat) (x2 : Int32) (x3 : Int32) (x4 : Int32) (x5 : Int32) (x10 : Int32) (x11 : Int32) (x12 : Int32) (x13 : Int32) (w6 : Int64) (w8 : Int64) (w14 : Int64) (r1 : Nat) (t2 : Int32) (y0 : Int64) (y1 : Int64) (z : ow_MS), fr (pf [47, 48, 51] []) z0 z → (L = 0 ∨ L = 1 ∨ L = 2 ∨ L = 3 ∨ L = 4 ∨ L = 5 ∨ L = 6 ∨ L = 7 ∨ L = 8 ∨ L = 9 → 1000 ≤ r1) → Fo id (pf [47, 48, 51] []) z0 (go L x2 x3 x4 x5 x10 x11 x12 x13 w6 w8 w14 r1 t2 y0 y1 z)) (hz : fr (pf [47, 48, 51] []) z0 z) (hr1 : 1000 ≤ r1) : Fo id (pf [47, 48, 51] []) z0 (qm_X13_makeJones_9 K go x2 x3 x4 x5 x10 x11 x12 x13 w6 w8 w14 r1 t2 y0 y1 z) := by
  unfold qm_X13_makeJones_9
  exact (hgo 7 _ _ _ _ _ _ _ _ _ _ _ _ _ _ _ z hz (fun _ => (by first | omega | decide)))
theorem fq_X13_makeJones {K : Nat} {z0 : ow_MS}   : ∀ (k L : Nat) (x2 : Int32) (x3 : Int32) (x4 : Int32) (x5 : Int32) (x10 : Int32) (x11 : Int32) (x12 : Int32) (x13 : Int32) (w6 : Int64) (w8 : Int64) (w14 : Int64) (r1 : Nat) (t2 : Int32) (y0 : Int64) (y1 : Int64) (z : ow_MS), fr (pf [47, 48, 51] []) z0 z → (L = 0 ∨ L = 1 ∨ L = 2 ∨ L = 3 ∨ L = 4 ∨ L = 5 ∨ L = 6 ∨ L = 7 ∨ L = 8 ∨ L = 9 → 1000 ≤ r1) → Fo id (pf [47, 48, 51] []) z0 (q_X13_makeJones K k L x2 x3 x4 x5 x10 x11 x12 x13 w6 w8 w14 r1 t2 y0 y1 z)
  | 0 => by
    intros
    exact fo_none
  | k + 1 => by
    intro L x2 x3 x4 x5 x10 x11 x12 x13 w6 w8 w14 r1 t2 y0 y1 z hz h9_r1
    show Fo id (pf [47, 48, 51] []) z0 (qb_X13_makeJones K (q_X13_makeJones K k) L x2 x3 x4 x5 x10 x11 x12 x13 w6 w8 w14 r1 t2 y0 y1 z)
    unfold qb_X13_makeJones
    split
    · exact fb_X13_makeJones_0 (fq_X13_makeJones k) hz (h9_r1 (by decide))
    · exact fb_X13_makeJones_1 (fq_X13_makeJones k) hz (h9_r1 (by decide))
    · exact fb_X13_makeJones_2 (fq_X13_makeJones k) hz (h9_r1 (by decide))
    · exact fb_X13_makeJones_3 (fq_X13_makeJones k) hz (h9_r1 (by decide))
    · exact fb_X13_makeJones_4 (fq_X13_makeJones k) hz (h9_r1 (by decide))
    · exact fb_X13_makeJones_5 (fq_X13_makeJones k) hz (h9_r1 (by decide))
    · exact fb_X13_makeJones_6 (fq_X13_makeJones k) hz (h9_r1 (by decide))
    · exact fb_X13_makeJones_7 (fq_X13_makeJones k) hz (h9_r1 (by decide))
    · exact fb_X13_makeJones_8 (fq_X13_makeJones k) hz (h9_r1 (by decide))
    · exact fb_X13_makeJones_9 (fq_X13_makeJones k) hz (h9_r1 (by decide))
    · exact fo_none
theorem ff_X13_makeJones {K : Nat} {r1 : Nat} {z : ow_MS} (hr1 : 1000 ≤ r1) : Fo id (pf [47, 48, 51] []) z (qe_X13_makeJones K r1 z) := fq_X13_makeJones K 0 _ _ _ _ _ _ _ _ _ _ _ _ _ _ _ z fr_rf (fun _ => (by first | omega | decide))
theorem fb_X13_jones_0 {K : Nat} {z0 z : ow_MS}  {go : Nat → Int32 → Int32 → Int32 → ow_MS → Option (Int32 × ow_MS)} {x1 : Int32} {x2 : Int32} {x3 : Int32}  (hgo : ∀ (L : Nat) (x1 : Int32) (x2 : Int32) (x3 : Int32) (z : ow_MS), fr (pf [1, 47, 48, 50, 51] []) z0 z → Fo Prod.snd (pf [1, 47, 48, 50, 51] []) z0 (go L x1 x2 x3 z)) (hz : fr (pf [1, 47, 48, 50, 51] []) z0 z)  : Fo Prod.snd (pf [1, 47, 48, 50, 51] []) z0 (qm_X13_jones_0 K go x1 x2 x3 z) := by
  unfold qm_X13_jones_0
  exact (fo_wrF (Or.inl (by decide)) hz (fun z1 h_z1 => (fo_cs1 (ff_X13_has) (pf_sub (by decide) pf_0) h_z1 (fun v3 z2 h_z2 => (fo_if (fo_cs1 (ff_X13_fails) (pf_sub (by decide) pf_0) h_z2 (fun v9 z8 h_z8 => (fo_some h_z8))) (fo_cs1 (ff_X13_isSame) (pf_sub (by decide) pf_0) h_z2 (fun v5 z4 h_z4 => (fo_if (fo_cs0 (ff_X13_open (by first | omega | decide)) (pf_sub (by decide) pf_0) h_z4 (fun z6 h_z6 => (fo_cs0 (ff_X13_makeJones (by first | omega | decide)) (pf_sub (by decide) pf_0) h_z6 (fun z7 h_z7 => (hgo 1 _ _ _ z7 h_z7))))) (hgo 2 _ _ _ z4 h_z4)))))))))
theorem fb_X13_jones_1 {K : Nat} {z0 z : ow_MS}  {go : Nat → Int32 → Int32 → Int32 → ow_MS → Option (Int32 × ow_MS)} {x1 : Int32} {x2 : Int32} {x3 : Int32}  (hgo : ∀ (L : Nat) (x1 : Int32) (x2 : Int32) (x3 : Int32) (z : ow_MS), fr (pf [1, 47, 48, 50, 51] []) z0 z → Fo Prod.snd (pf [1, 47, 48, 50, 51] []) z0 (go L x1 x2 x3 z)) (hz : fr (pf [1, 47, 48, 50, 51] []) z0 z)  : Fo Prod.snd (pf [1, 47, 48, 50, 51] []) z0 (qm_X13_jones_1 K go x1 x2 x3 z) := by
  unfold qm_X13_jones_1
  exact (fo_if (hgo 2 _ _ _ z hz) (fo_rdI (fun v10 => (fo_wrI (Or.inl (by decide)) hz (fun z11 h_z11 => (hgo 1 _ _ _ z11 h_z11))))))
theorem fb_X13_jones_2 {K : Nat} {z0 z : ow_MS}  {go : Nat → Int32 → Int32 → Int32 → ow_MS → Option (Int32 × ow_MS)} {x1 : Int32} {x2 : Int32} {x3 : Int32}  (hgo : ∀ (L : Nat) (x1 : Int32) (x2 : Int32) (x3 : Int32) (z : ow_MS), fr (pf [1, 47, 48, 50, 51] []) z0 z → Fo Prod.snd (pf [1, 47, 48, 50, 51] []) z0 (go L x1 x2 x3 z)) (hz : fr (pf [1, 47, 48, 50, 51] []) z0 z)  : Fo Prod.snd (pf [1, 47, 48, 50, 51] []) z0 (qm_X13_jones_2 K go x1 x2 x3 z) := by
  unfold qm_X13_jones_2
  exact (fo_if (hgo 3 _ _ _ z hz) (fo_if (fo_rdJ (fun v12 => (fo_some hz))) (hgo 3 _ _ _ z hz)))
theorem fb_X13_jones_3 {K : Nat} {z0 z : ow_MS}  {go : Nat → Int32 → Int32 → Int32 → ow_MS → Option (Int32 × ow_MS)} {x1 : Int32} {x2 : Int32} {x3 : Int32}  (hgo : ∀ (L : Nat) (x1 : Int32) (x2 : Int32) (x3 : Int32) (z : ow_MS), fr (pf [1, 47, 48, 50, 51] []) z0 z → Fo Prod.snd (pf [1, 47, 48, 50, 51] []) z0 (go L x1 x2 x3 z)) (hz : fr (pf [1, 47, 48, 50, 51] []) z0 z)  : Fo Prod.snd (pf [1, 47, 48, 50, 51] []) z0 (qm_X13_jones_3 K go x1 x2 x3 z) := by
  unfold qm_X13_jones_3
  exact (fo_some hz)
theorem fq_X13_jones {K : Nat} {z0 : ow_MS}   : ∀ (k L : Nat) (x1 : Int32) (x2 : Int32) (x3 : Int32) (z : ow_MS), fr (pf [1, 47, 48, 50, 51] []) z0 z → Fo Prod.snd (pf [1, 47, 48, 50, 51] []) z0 (q_X13_jones K k L x1 x2 x3 z)
  | 0 => by
    intros
    exact fo_none
  | k + 1 => by
    intro L x1 x2 x3 z hz 
    show Fo Prod.snd (pf [1, 47, 48, 50, 51] []) z0 (qb_X13_jones K (q_X13_jones K k) L x1 x2 x3 z)
    unfold qb_X13_jones
    split
    · exact fb_X13_jones_0 (fq_X13_jones k) hz 
    · exact fb_X13_jones_1 (fq_X13_jones k) hz 
    · exact fb_X13_jones_2 (fq_X13_jones k) hz 
    · exact fb_X13_jones_3 (fq_X13_jones k) hz 
    · exact fo_none
theorem ff_X13_jones {K : Nat} {x1 : Int32} {x2 : Int32} {z : ow_MS}  : Fo Prod.snd (pf [1, 47, 48, 50, 51] []) z (qe_X13_jones K x1 x2 z) := fq_X13_jones K 0 _ _ _ z fr_rf 
theorem fb_X13_colourFaces_0 {K : Nat} {z0 z : ow_MS}  {go : Nat → Int32 → Int32 → Int32 → Int32 → Int32 → Int32 → Nat → Int32 → Int32 → ow_MS → Option (Int32 × ow_MS)} {x2 : Int32} {x3 : Int32} {x4 : Int32} {x5 : Int32} {x6 : Int32} {x7 : Int32} {r1 : Nat} {t0 : Int32} {t1 : Int32}  (hgo : ∀ (L : Nat) (x2 : Int32) (x3 : Int32) (x4 : Int32) (x5 : Int32) (x6 : Int32) (x7 : Int32) (r1 : Nat) (t0 : Int32) (t1 : Int32) (z : ow_MS), fr (pf [52, 53] []) z0 z → (L = 0 ∨ L = 1 ∨ L = 2 ∨ L = 3 ∨ L = 4 ∨ L = 5 ∨ L = 6 ∨ L = 7 ∨ L = 8 ∨ L = 9 → 1000 ≤ r1) → Fo Prod.snd (pf [52, 53] []) z0 (go L x2 x3 x4 x5 x6 x7 r1 t0 t1 z)) (hz : fr (pf [52, 53] []) z0 z) (hr1 : 1000 ≤ r1) : Fo Prod.snd (pf [52, 53] []) z0 (qm_X13_colourFaces_0 K go x2 x3 x4 x5 x6 x7 r1 t0 t1 z) := by
  unfold qm_X13_colourFaces_0
  exact (fo_rdI (fun v1 => (fo_rdI (fun v2 => (hgo 1 _ _ _ _ _ _ _ _ _ z hz (fun _ => (by first | omega | decide)))))))
theorem fb_X13_colourFaces_1 {K : Nat} {z0 z : ow_MS}  {go : Nat → Int32 → Int32 → Int32 → Int32 → Int32 → Int32 → Nat → Int32 → Int32 → ow_MS → Option (Int32 × ow_MS)} {x2 : Int32} {x3 : Int32} {x4 : Int32} {x5 : Int32} {x6 : Int32} {x7 : Int32} {r1 : Nat} {t0 : Int32} {t1 : Int32}  (hgo : ∀ (L : Nat) (x2 : Int32) (x3 : Int32) (x4 : Int32) (x5 : Int32) (x6 : Int32) (x7 : Int32) (r1 : Nat) (t0 : Int32) (t1 : Int32) (z : ow_MS), fr (pf [52, 53] []) z0 z → (L = 0 ∨ L = 1 ∨ L = 2 ∨ L = 3 ∨ L = 4 ∨ L = 5 ∨ L = 6 ∨ L = 7 ∨ L = 8 ∨ L = 9 → 1000 ≤ r1) → Fo Prod.snd (pf [52, 53] []) z0 (go L x2 x3 x4 x5 x6 x7 r1 t0 t1 z)) (hz : fr (pf [52, 53] []) z0 z) (hr1 : 1000 ≤ r1) : Fo Prod.snd (pf [52, 53] []) z0 (qm_X13_colourFaces_1 K go x2 x3 x4 x5 x6 x7 r1 t0 t1 z) := by
  unfold qm_X13_colourFaces_1
  exact (fo_if (fo_rdI (fun v3 => (fo_wrI (Or.inl (by decide)) hz (fun z4 h_z4 => (hgo 2 _ _ _ _ _ _ _ _ _ z4 h_z4 (fun _ => (by first | omega | decide))))))) (fo_wrI (Or.inl (by decide)) hz (fun z5 h_z5 => (hgo 1 _ _ _ _ _ _ _ _ _ z5 h_z5 (fun _ => (by first | omega | decide))))))
theorem fb_X13_colourFaces_2 {K : Nat} {z0 z : ow_MS}  {go : Nat → Int32 → Int32 → Int32 → Int32 → Int32 → Int32 → Nat → Int32 → Int32 → ow_MS → Option (Int32 × ow_MS)} {x2 : Int32} {x3 : Int32} {x4 : Int32} {x5 : Int32} {x6 : Int32} {x7 : Int32} {r1 : Nat} {t0 : Int32} {t1 : Int32}  (hgo : ∀ (L : Nat) (x2 : Int32) (x3 : Int32) (x4 : Int32) (x5 : Int32) (x6 : Int32) (x7 : Int32) (r1 : Nat) (t0 : Int32) (t1 : Int32) (z : ow_MS), fr (pf [52, 53] []) z0 z → (L = 0 ∨ L = 1 ∨ L = 2 ∨ L = 3 ∨ L = 4 ∨ L = 5 ∨ L = 6 ∨ L = 7 ∨ L = 8 ∨ L = 9 → 1000 ≤ r1) → Fo Prod.snd (pf [52, 53] []) z0 (go L x2 x3 x4 x5 x6 x7 r1 t0 t1 z)) (hz : fr (pf [52, 53] []) z0 z) (hr1 : 1000 ≤ r1) : Fo Prod.snd (pf [52, 53] []) z0 (qm_X13_colourFaces_2 K go x2 x3 x4 x5 x6 x7 r1 t0 t1 z) := by
  unfold qm_X13_colourFaces_2
  exact (fo_if (hgo 8 _ _ _ _ _ _ _ _ _ z hz (fun _ => (by first | omega | decide))) (hgo 3 _ _ _ _ _ _ _ _ _ z hz (fun _ => (by first | omega | decide))))
theorem fb_X13_colourFaces_3 {K : Nat} {z0 z : ow_MS}  {go : Nat → Int32 → Int32 → Int32 → Int32 → Int32 → Int32 → Nat → Int32 → Int32 → ow_MS → Option (Int32 × ow_MS)} {x2 : Int32} {x3 : Int32} {x4 : Int32} {x5 : Int32} {x6 : Int32} {x7 : Int32} {r1 : Nat} {t0 : Int32} {t1 : Int32}  (hgo : ∀ (L : Nat) (x2 : Int32) (x3 : Int32) (x4 : Int32) (x5 : Int32) (x6 : Int32) (x7 : Int32) (r1 : Nat) (t0 : Int32) (t1 : Int32) (z : ow_MS), fr (pf [52, 53] []) z0 z → (L = 0 ∨ L = 1 ∨ L = 2 ∨ L = 3 ∨ L = 4 ∨ L = 5 ∨ L = 6 ∨ L = 7 ∨ L = 8 ∨ L = 9 → 1000 ≤ r1) → Fo Prod.snd (pf [52, 53] []) z0 (go L x2 x3 x4 x5 x6 x7 r1 t0 t1 z)) (hz : fr (pf [52, 53] []) z0 z) (hr1 : 1000 ≤ r1) : Fo Prod.snd (pf [52, 53] []) z0 (qm_X13_colourFaces_3 K go x2 x3 x4 x5 x6 x7 r1 t0 t1 z) := by
  unfold qm_X13_colourFaces_3
  exact (fo_rdF (fun v6 => (fo_if (hgo 2 _ _ _ _ _ _ _ _ _ z hz (fun _ => (by first | omega | decide))) (fo_rdI (fun v7 => (fo_rdI (fun v8 => (fo_rdI (fun v9 => (fo_rdI (fun v10 => (fo_if (fo_rdI (fun v11 => (fo_if (hgo 4 _ _ _ _ _ _ _ _ _ z hz (fun _ => (by first | omega | decide))) (hgo 4 _ _ _ _ _ _ _ _ _ z hz (fun _ => (by first | omega | decide)))))) (hgo 7 _ _ _ _ _ _ _ _ _ z hz (fun _ => (by first | omega | decide)))))))))))))))
theorem fb_X13_colourFaces_4 {K : Nat} {z0 z : ow_MS}  {go : Nat → Int32 → Int32 → Int32 → Int32 → Int32 → Int32 → Nat → Int32 → Int32 → ow_MS → Option (Int32 × ow_MS)} {x2 : Int32} {x3 : Int32} {x4 : Int32} {x5 : Int32} {x6 : Int32} {x7 : Int32} {r1 : Nat} {t0 : Int32} {t1 : Int32}  (hgo : ∀ (L : Nat) (x2 : Int32) (x3 : Int32) (x4 : Int32) (x5 : Int32) (x6 : Int32) (x7 : Int32) (r1 : Nat) (t0 : Int32) (t1 : Int32) (z : ow_MS), fr (pf [52, 53] []) z0 z → (L = 0 ∨ L = 1 ∨ L = 2 ∨ L = 3 ∨ L = 4 ∨ L = 5 ∨ L = 6 ∨ L = 7 ∨ L = 8 ∨ L = 9 → 1000 ≤ r1) → Fo Prod.snd (pf [52, 53] []) z0 (go L x2 x3 x4 x5 x6 x7 r1 t0 t1 z)) (hz : fr (pf [52, 53] []) z0 z) (hr1 : 1000 ≤ r1) : Fo Prod.snd (pf [52, 53] []) z0 (qm_X13_colourFaces_4 K go x2 x3 x4 x5 x6 x7 r1 t0 t1 z) := by
  unfold qm_X13_colourFaces_4
  exact (fo_rdI (fun v12 => (fo_if (hgo 5 _ _ _ _ _ _ _ _ _ z hz (fun _ => (by first | omega | decide))) (hgo 5 _ _ _ _ _ _ _ _ _ z hz (fun _ => (by first | omega | decide))))))
theorem fb_X13_colourFaces_5 {K : Nat} {z0 z : ow_MS}  {go : Nat → Int32 → Int32 → Int32 → Int32 → Int32 → Int32 → Nat → Int32 → Int32 → ow_MS → Option (Int32 × ow_MS)} {x2 : Int32} {x3 : Int32} {x4 : Int32} {x5 : Int32} {x6 : Int32} {x7 : Int32} {r1 : Nat} {t0 : Int32} {t1 : Int32}  (hgo : ∀ (L : Nat) (x2 : Int32) (x3 : Int32) (x4 : Int32) (x5 : Int32) (x6 : Int32) (x7 : Int32) (r1 : Nat) (t0 : Int32) (t1 : Int32) (z : ow_MS), fr (pf [52, 53] []) z0 z → (L = 0 ∨ L = 1 ∨ L = 2 ∨ L = 3 ∨ L = 4 ∨ L = 5 ∨ L = 6 ∨ L = 7 ∨ L = 8 ∨ L = 9 → 1000 ≤ r1) → Fo Prod.snd (pf [52, 53] []) z0 (go L x2 x3 x4 x5 x6 x7 r1 t0 t1 z)) (hz : fr (pf [52, 53] []) z0 z) (hr1 : 1000 ≤ r1) : Fo Prod.snd (pf [52, 53] []) z0 (qm_X13_colourFaces_5 K go x2 x3 x4 x5 x6 x7 r1 t0 t1 z) := by
  unfold qm_X13_colourFaces_5
  exact (fo_if (hgo 7 _ _ _ _ _ _ _ _ _ z hz (fun _ => (by first | omega | decide))) (fo_rdI (fun v13 => (fo_if (fo_rdI (fun v16 => (fo_wrI (Or.inl (by decide)) hz (fun z17 h_z17 => (hgo 6 _ _ _ _ _ _ _ _ _ z17 h_z17 (fun _ => (by first | omega | decide))))))) (fo_rdI (fun v14 => (fo_wrI (Or.inl (by decide)) hz (fun z15 h_z15 => (hgo 6 _ _ _ _ _ _ _ _ _ z15 h_z15 (fun _ => (by first | omega | decide)))))))))))
theorem fb_X13_colourFaces_6 {K : Nat} {z0 z : ow_MS}  {go : Nat → Int32 → Int32 → Int32 → Int32 → Int32 → Int32 → Nat → Int32 → Int32 → ow_MS → Option (Int32 × ow_MS)} {x2 : Int32} {x3 : Int32} {x4 : Int32} {x5 : Int32} {x6 : Int32} {x7 : Int32} {r1 : Nat} {t0 : Int32} {t1 : Int32}  (hgo : ∀ (L : Nat) (x2 : Int32) (x3 : Int32) (x4 : Int32) (x5 : Int32) (x6 : Int32) (x7 : Int32) (r1 : Nat) (t0 : Int32) (t1 : Int32) (z : ow_MS), fr (pf [52, 53] []) z0 z → (L = 0 ∨ L = 1 ∨ L = 2 ∨ L = 3 ∨ L = 4 ∨ L = 5 ∨ L = 6 ∨ L = 7 ∨ L = 8 ∨ L = 9 → 1000 ≤ r1) → Fo Prod.snd (pf [52, 53] []) z0 (go L x2 x3 x4 x5 x6 x7 r1 t0 t1 z)) (hz : fr (pf [52, 53] []) z0 z) (hr1 : 1000 ≤ r1) : Fo Prod.snd (pf [52, 53] []) z0 (qm_X13_colourFaces_6 K go x2 x3 x4 x5 x6 x7 r1 t0 t1 z) := by
  unfold qm_X13_colourFaces_6
  exact (hgo 7 _ _ _ _ _ _ _ _ _ z hz (fun _ => (by first | omega | decide)))
theorem fb_X13_colourFaces_7 {K : Nat} {z0 z : ow_MS}  {go : Nat → Int32 → Int32 → Int32 → Int32 → Int32 → Int32 → Nat → Int32 → Int32 → ow_MS → Option (Int32 × ow_MS)} {x2 : Int32} {x3 : Int32} {x4 : Int32} {x5 : Int32} {x6 : Int32} {x7 : Int32} {r1 : Nat} {t0 : Int32} {t1 : Int32}  (hgo : ∀ (L : Nat) (x2 : Int32) (x3 : Int32) (x4 : Int32) (x5 : Int32) (x6 : Int32) (x7 : Int32) (r1 : Nat) (t0 : Int32) (t1 : Int32) (z : ow_MS), fr (pf [52, 53] []) z0 z → (L = 0 ∨ L = 1 ∨ L = 2 ∨ L = 3 ∨ L = 4 ∨ L = 5 ∨ L = 6 ∨ L = 7 ∨ L = 8 ∨ L = 9 → 1000 ≤ r1) → Fo Prod.snd (pf [52, 53] []) z0 (go L x2 x3 x4 x5 x6 x7 r1 t0 t1 z)) (hz : fr (pf [52, 53] []) z0 z) (hr1 : 1000 ≤ r1) : Fo Prod.snd (pf [52, 53] []) z0 (qm_X13_colourFaces_7 K go x2 x3 x4 x5 x6 x7 r1 t0 t1 z) := by
  unfold qm_X13_colourFaces_7
  exact (hgo 3 _ _ _ _ _ _ _ _ _ z hz (fun _ => (by first | omega | decide)))
theorem fb_X13_colourFaces_8 {K : Nat} {z0 z : ow_MS}  {go : Nat → Int32 → Int32 → Int32 → Int32 → Int32 → Int32 → Nat → Int32 → Int32 → ow_MS → Option (Int32 × ow_MS)} {x2 : Int32} {x3 : Int32} {x4 : Int32} {x5 : Int32} {x6 : Int32} {x7 : Int32} {r1 : Nat} {t0 : Int32} {t1 : Int32}  (hgo : ∀ (L : Nat) (x2 : Int32) (x3 : Int32) (x4 : Int32) (x5 : Int32) (x6 : Int32) (x7 : Int32) (r1 : Nat) (t0 : Int32) (t1 : Int32) (z : ow_MS), fr (pf [52, 53] []) z0 z → (L = 0 ∨ L = 1 ∨ L = 2 ∨ L = 3 ∨ L = 4 ∨ L = 5 ∨ L = 6 ∨ L = 7 ∨ L = 8 ∨ L = 9 → 1000 ≤ r1) → Fo Prod.snd (pf [52, 53] []) z0 (go L x2 x3 x4 x5 x6 x7 r1 t0 t1 z)) (hz : fr (pf [52, 53] []) z0 z) (hr1 : 1000 ≤ r1) : Fo Prod.snd (pf [52, 53] []) z0 (qm_X13_colourFaces_8 K go x2 x3 x4 x5 x6 x7 r1 t0 t1 z) := by
  unfold qm_X13_colourFaces_8
  exact (fo_rdF (fun v18 => (fo_if (fo_some hz) (fo_rdI (fun v19 => (fo_if (fo_wrI (Or.inl (by decide)) hz (fun z20 h_z20 => (hgo 9 _ _ _ _ _ _ _ _ _ z20 h_z20 (fun _ => (by first | omega | decide))))) (hgo 9 _ _ _ _ _ _ _ _ _ z hz (fun _ => (by first | omega | decide)))))))))
theorem fb_X13_colourFaces_9 {K : Nat} {z0 z : ow_MS}  {go : Nat → Int32 → Int32 → Int32 → Int32 → Int32 → Int32 → Nat → Int32 → Int32 → ow_MS → Option (Int32 × ow_MS)} {x2 : Int32} {x3 : Int32} {x4 : Int32} {x5 : Int32} {x6 : Int32} {x7 : Int32} {r1 : Nat} {t0 : Int32} {t1 : Int32}  (hgo : ∀ (L : Nat) (x2 : Int32) (x3 : Int32) (x4 : Int32) (x5 : Int32) (x6 : Int32) (x7 : Int32) (r1 : Nat) (t0 : Int32) (t1 : Int32) (z : ow_MS), fr (pf [52, 53] []) z0 z → (L = 0 ∨ L = 1 ∨ L = 2 ∨ L = 3 ∨ L = 4 ∨ L = 5 ∨ L = 6 ∨ L = 7 ∨ L = 8 ∨ L = 9 → 1000 ≤ r1) → Fo Prod.snd (pf [52, 53] []) z0 (go L x2 x3 x4 x5 x6 x7 r1 t0 t1 z)) (hz : fr (pf [52, 53] []) z0 z) (hr1 : 1000 ≤ r1) : Fo Prod.snd (pf [52, 53] []) z0 (qm_X13_colourFaces_9 K go x2 x3 x4 x5 x6 x7 r1 t0 t1 z) := by
  unfold qm_X13_colourFaces_9
  exact (hgo 8 _ _ _ _ _ _ _ _ _ z hz (fun _ => (by first | omega | decide)))
theorem fq_X13_colourFaces {K : Nat} {z0 : ow_MS}   : ∀ (k L : Nat) (x2 : Int32) (x3 : Int32) (x4 : Int32) (x5 : Int32) (x6 : Int32) (x7 : Int32) (r1 : Nat) (t0 : Int32) (t1 : Int32) (z : ow_MS), fr (pf [52, 53] []) z0 z → (L = 0 ∨ L = 1 ∨ L = 2 ∨ L = 3 ∨ L = 4 ∨ L = 5 ∨ L = 6 ∨ L = 7 ∨ L = 8 ∨ L = 9 → 1000 ≤ r1) → Fo Prod.snd (pf [52, 53] []) z0 (q_X13_colourFaces K k L x2 x3 x4 x5 x6 x7 r1 t0 t1 z)
  | 0 => by
    intros
    exact fo_none
  | k + 1 => by
    intro L x2 x3 x4 x5 x6 x7 r1 t0 t1 z hz h9_r1
    show Fo Prod.snd (pf [52, 53] []) z0 (qb_X13_colourFaces K (q_X13_colourFaces K k) L x2 x3 x4 x5 x6 x7 r1 t0 t1 z)
    unfold qb_X13_colourFaces
    split
    · exact fb_X13_colourFaces_0 (fq_X13_colourFaces k) hz (h9_r1 (by decide))
    · exact fb_X13_colourFaces_1 (fq_X13_colourFaces k) hz (h9_r1 (by decide))
    · exact fb_X13_colourFaces_2 (fq_X13_colourFaces k) hz (h9_r1 (by decide))
    · exact fb_X13_colourFaces_3 (fq_X13_colourFaces k) hz (h9_r1 (by decide))
    · exact fb_X13_colourFaces_4 (fq_X13_colourFaces k) hz (h9_r1 (by decide))
    · exact fb_X13_colourFaces_5 (fq_X13_colourFaces k) hz (h9_r1 (by decide))
    · exact fb_X13_colourFaces_6 (fq_X13_colourFaces k) hz (h9_r1 (by decide))
    · exact fb_X13_colourFaces_7 (fq_X13_colourFaces k) hz (h9_r1 (by decide))
    · exact fb_X13_colourFaces_8 (fq_X13_colourFaces k) hz (h9_r1 (by decide))
    · exact fb_X13_colourFaces_9 (fq_X13_colourFaces k) hz (h9_r1 (by decide))
    · exact fo_none
theorem ff_X13_colourFaces {K : Nat} {r1 : Nat} {x2 : Int32} {z : ow_MS} (hr1 : 1000 ≤ r1) : Fo Prod.snd (pf [52, 53] []) z (qe_X13_colourFaces K r1 x2 z) := fq_X13_colourFaces K 0 _ _ _ _ _ _ _ _ _ z fr_rf (fun _ => (by first | omega | decide))
theorem fb_X13_changes_0 {K : Nat} {z0 z : ow_MS}  {go : Nat → Int32 → Int32 → Int32 → Int32 → Int32 → Int32 → Int32 → Int32 → ow_MS → Option (Int32 × ow_MS)} {x1 : Int32} {x2 : Int32} {x3 : Int32} {x4 : Int32} {x5 : Int32} {x6 : Int32} {t0 : Int32} {t1 : Int32}  (hgo : ∀ (L : Nat) (x1 : Int32) (x2 : Int32) (x3 : Int32) (x4 : Int32) (x5 : Int32) (x6 : Int32) (t0 : Int32) (t1 : Int32) (z : ow_MS), fr (pf [] []) z0 z → Fo Prod.snd (pf [] []) z0 (go L x1 x2 x3 x4 x5 x6 t0 t1 z)) (hz : fr (pf [] []) z0 z)  : Fo Prod.snd (pf [] []) z0 (qm_X13_changes_0 K go x1 x2 x3 x4 x5 x6 t0 t1 z) := by
  unfold qm_X13_changes_0
  exact (hgo 1 _ _ _ _ _ _ _ _ z hz)
theorem fb_X13_changes_1 {K : Nat} {z0 z : ow_MS}  {go : Nat → Int32 → Int32 → Int32 → Int32 → Int32 → Int32 → Int32 → Int32 → ow_MS → Option (Int32 × ow_MS)} {x1 : Int32} {x2 : Int32} {x3 : Int32} {x4 : Int32} {x5 : Int32} {x6 : Int32} {t0 : Int32} {t1 : Int32}  (hgo : ∀ (L : Nat) (x1 : Int32) (x2 : Int32) (x3 : Int32) (x4 : Int32) (x5 : Int32) (x6 : Int32) (t0 : Int32) (t1 : Int32) (z : ow_MS), fr (pf [] []) z0 z → Fo Prod.snd (pf [] []) z0 (go L x1 x2 x3 x4 x5 x6 t0 t1 z)) (hz : fr (pf [] []) z0 z)  : Fo Prod.snd (pf [] []) z0 (qm_X13_changes_1 K go x1 x2 x3 x4 x5 x6 t0 t1 z) := by
  unfold qm_X13_changes_1
  exact (fo_if (fo_some hz) (fo_rdJ (fun v1 => (fo_if (hgo 2 _ _ _ _ _ _ _ _ z hz) (fo_if (hgo 2 _ _ _ _ _ _ _ _ z hz) (hgo 2 _ _ _ _ _ _ _ _ z hz))))))
theorem fb_X13_changes_2 {K : Nat} {z0 z : ow_MS}  {go : Nat → Int32 → Int32 → Int32 → Int32 → Int32 → Int32 → Int32 → Int32 → ow_MS → Option (Int32 × ow_MS)} {x1 : Int32} {x2 : Int32} {x3 : Int32} {x4 : Int32} {x5 : Int32} {x6 : Int32} {t0 : Int32} {t1 : Int32}  (hgo : ∀ (L : Nat) (x1 : Int32) (x2 : Int32) (x3 : Int32) (x4 : Int32) (x5 : Int32) (x6 : Int32) (t0 : Int32) (t1 : Int32) (z : ow_MS), fr (pf [] []) z0 z → Fo Prod.snd (pf [] []) z0 (go L x1 x2 x3 x4 x5 x6 t0 t1 z)) (hz : fr (pf [] []) z0 z)  : Fo Prod.snd (pf [] []) z0 (qm_X13_changes_2 K go x1 x2 x3 x4 x5 x6 t0 t1 z) := by
  unfold qm_X13_changes_2
  exact (fo_if (hgo 5 _ _ _ _ _ _ _ _ z hz) (fo_if (hgo 3 _ _ _ _ _ _ _ _ z hz) (fo_if (hgo 3 _ _ _ _ _ _ _ _ z hz) (hgo 4 _ _ _ _ _ _ _ _ z hz))))
theorem fb_X13_changes_3 {K : Nat} {z0 z : ow_MS}  {go : Nat → Int32 → Int32 → Int32 → Int32 → Int32 → Int32 → Int32 → Int32 → ow_MS → Option (Int32 × ow_MS)} {x1 : Int32} {x2 : Int32} {x3 : Int32} {x4 : Int32} {x5 : Int32} {x6 : Int32} {t0 : Int32} {t1 : Int32}  (hgo : ∀ (L : Nat) (x1 : Int32) (x2 : Int32) (x3 : Int32) (x4 : Int32) (x5 : Int32) (x6 : Int32) (t0 : Int32) (t1 : Int32) (z : ow_MS), fr (pf [] []) z0 z → Fo Prod.snd (pf [] []) z0 (go L x1 x2 x3 x4 x5 x6 t0 t1 z)) (hz : fr (pf [] []) z0 z)  : Fo Prod.snd (pf [] []) z0 (qm_X13_changes_3 K go x1 x2 x3 x4 x5 x6 t0 t1 z) := by
  unfold qm_X13_changes_3
  exact (hgo 4 _ _ _ _ _ _ _ _ z hz)
theorem fb_X13_changes_4 {K : Nat} {z0 z : ow_MS}  {go : Nat → Int32 → Int32 → Int32 → Int32 → Int32 → Int32 → Int32 → Int32 → ow_MS → Option (Int32 × ow_MS)} {x1 : Int32} {x2 : Int32} {x3 : Int32} {x4 : Int32} {x5 : Int32} {x6 : Int32} {t0 : Int32} {t1 : Int32}  (hgo : ∀ (L : Nat) (x1 : Int32) (x2 : Int32) (x3 : Int32) (x4 : Int32) (x5 : Int32) (x6 : Int32) (t0 : Int32) (t1 : Int32) (z : ow_MS), fr (pf [] []) z0 z → Fo Prod.snd (pf [] []) z0 (go L x1 x2 x3 x4 x5 x6 t0 t1 z)) (hz : fr (pf [] []) z0 z)  : Fo Prod.snd (pf [] []) z0 (qm_X13_changes_4 K go x1 x2 x3 x4 x5 x6 t0 t1 z) := by
  unfold qm_X13_changes_4
  exact (hgo 5 _ _ _ _ _ _ _ _ z hz)
theorem fb_X13_changes_5 {K : Nat} {z0 z : ow_MS}  {go : Nat → Int32 → Int32 → Int32 → Int32 → Int32 → Int32 → Int32 → Int32 → ow_MS → Option (Int32 × ow_MS)} {x1 : Int32} {x2 : Int32} {x3 : Int32} {x4 : Int32} {x5 : Int32} {x6 : Int32} {t0 : Int32} {t1 : Int32}  (hgo : ∀ (L : Nat) (x1 : Int32) (x2 : Int32) (x3 : Int32) (x4 : Int32) (x5 : Int32) (x6 : Int32) (t0 : Int32) (t1 : Int32) (z : ow_MS), fr (pf [] []) z0 z → Fo Prod.snd (pf [] []) z0 (go L x1 x2 x3 x4 x5 x6 t0 t1 z)) (hz : fr (pf [] []) z0 z)  : Fo Prod.snd (pf [] []) z0 (qm_X13_changes_5 K go x1 x2 x3 x4 x5 x6 t0 t1 z) := by
  unfold qm_X13_changes_5
  exact (hgo 1 _ _ _ _ _ _ _ _ z hz)
theorem fq_X13_changes {K : Nat} {z0 : ow_MS}   : ∀ (k L : Nat) (x1 : Int32) (x2 : Int32) (x3 : Int32) (x4 : Int32) (x5 : Int32) (x6 : Int32) (t0 : Int32) (t1 : Int32) (z : ow_MS), fr (pf [] []) z0 z → Fo Prod.snd (pf [] []) z0 (q_X13_changes K k L x1 x2 x3 x4 x5 x6 t0 t1 z)
  | 0 => by
    intros
    exact fo_none
  | k + 1 => by
    intro L x1 x2 x3 x4 x5 x6 t0 t1 z hz 
    show Fo Prod.snd (pf [] []) z0 (qb_X13_changes K (q_X13_changes K k) L x1 x2 x3 x4 x5 x6 t0 t1 z)
    unfold qb_X13_changes
    split
    · exact fb_X13_changes_0 (fq_X13_changes k) hz 
    · exact fb_X13_changes_1 (fq_X13_changes k) hz 
    · exact fb_X13_changes_2 (fq_X13_changes k) hz 
    · exact fb_X13_changes_3 (fq_X13_changes k) hz 
    · exact fb_X13_changes_4 (fq_X13_changes k) hz 
    · exact fb_X13_changes_5 (fq_X13_changes k) hz 
    · exact fo_none
theorem ff_X13_changes {K : Nat} {x1 : Int32} {x2 : Int32} {z : ow_MS}  : Fo Prod.snd (pf [] []) z (qe_X13_changes K x1 x2 z) := fq_X13_changes K 0 _ _ _ _ _ _ _ _ z fr_rf 
theorem fb_X13_times_0 {K : Nat} {z0 z : ow_MS}  {go : Nat → Int32 → Int32 → Int32 → Int32 → Int64 → ow_MS → Option ow_MS} {x1 : Int32} {x2 : Int32} {x3 : Int32} {x6 : Int32} {w4 : Int64}  (hgo : ∀ (L : Nat) (x1 : Int32) (x2 : Int32) (x3 : Int32) (x6 : Int32) (w4 : Int64) (z : ow_MS), fr (pf [55] []) z0 z → Fo id (pf [55] []) z0 (go L x1 x2 x3 x6 w4 z)) (hz : fr (pf [55] []) z0 z)  : Fo id (pf [55] []) z0 (qm_X13_times_0 K go x1 x2 x3 x6 w4 z) := by
  unfold qm_X13_times_0
  exact (hgo 1 _ _ _ _ _ z hz)
theorem fb_X13_times_1 {K : Nat} {z0 z : ow_MS}  {go : Nat → Int32 → Int32 → Int32 → Int32 → Int64 → ow_MS → Option ow_MS} {x1 : Int32} {x2 : Int32} {x3 : Int32} {x6 : Int32} {w4 : Int64}  (hgo : ∀ (L : Nat) (x1 : Int32) (x2 : Int32) (x3 : Int32) (x6 : Int32) (w4 : Int64) (z : ow_MS), fr (pf [55] []) z0 z → Fo id (pf [55] []) z0 (go L x1 x2 x3 x6 w4 z)) (hz : fr (pf [55] []) z0 z)  : Fo id (pf [55] []) z0 (qm_X13_times_1 K go x1 x2 x3 x6 w4 z) := by
  unfold qm_X13_times_1
  exact (fo_if (fo_some hz) (hgo 2 _ _ _ _ _ z hz))
theorem fb_X13_times_2 {K : Nat} {z0 z : ow_MS}  {go : Nat → Int32 → Int32 → Int32 → Int32 → Int64 → ow_MS → Option ow_MS} {x1 : Int32} {x2 : Int32} {x3 : Int32} {x6 : Int32} {w4 : Int64}  (hgo : ∀ (L : Nat) (x1 : Int32) (x2 : Int32) (x3 : Int32) (x6 : Int32) (w4 : Int64) (z : ow_MS), fr (pf [55] []) z0 z → Fo id (pf [55] []) z0 (go L x1 x2 x3 x6 w4 z)) (hz : fr (pf [55] []) z0 z)  : Fo id (pf [55] []) z0 (qm_X13_times_2 K go x1 x2 x3 x6 w4 z) := by
  unfold qm_X13_times_2
  exact (fo_if (hgo 1 _ _ _ _ _ z hz) (hgo 3 _ _ _ _ _ z hz))
theorem fb_X13_times_3 {K : Nat} {z0 z : ow_MS}  {go : Nat → Int32 → Int32 → Int32 → Int32 → Int64 → ow_MS → Option ow_MS} {x1 : Int32} {x2 : Int32} {x3 : Int32} {x6 : Int32} {w4 : Int64}  (hgo : ∀ (L : Nat) (x1 : Int32) (x2 : Int32) (x3 : Int32) (x6 : Int32) (w4 : Int64) (z : ow_MS), fr (pf [55] []) z0 z → Fo id (pf [55] []) z0 (go L x1 x2 x3 x6 w4 z)) (hz : fr (pf [55] []) z0 z)  : Fo id (pf [55] []) z0 (qm_X13_times_3 K go x1 x2 x3 x6 w4 z) := by
  unfold qm_X13_times_3
  exact (fo_if (fo_wrJ (Or.inl (by decide)) hz (fun z1 h_z1 => (hgo 2 _ _ _ _ _ z1 h_z1))) (fo_rdJ (fun v2 => (fo_rdJ (fun v3 => (hgo 3 _ _ _ _ _ z hz))))))
theorem fq_X13_times {K : Nat} {z0 : ow_MS}   : ∀ (k L : Nat) (x1 : Int32) (x2 : Int32) (x3 : Int32) (x6 : Int32) (w4 : Int64) (z : ow_MS), fr (pf [55] []) z0 z → Fo id (pf [55] []) z0 (q_X13_times K k L x1 x2 x3 x6 w4 z)
  | 0 => by
    intros
    exact fo_none
  | k + 1 => by
    intro L x1 x2 x3 x6 w4 z hz 
    show Fo id (pf [55] []) z0 (qb_X13_times K (q_X13_times K k) L x1 x2 x3 x6 w4 z)
    unfold qb_X13_times
    split
    · exact fb_X13_times_0 (fq_X13_times k) hz 
    · exact fb_X13_times_1 (fq_X13_times k) hz 
    · exact fb_X13_times_2 (fq_X13_times k) hz 
    · exact fb_X13_times_3 (fq_X13_times k) hz 
    · exact fo_none
theorem ff_X13_times {K : Nat} {x1 : Int32} {z : ow_MS}  : Fo id (pf [55] []) z (qe_X13_times K x1 z) := fq_X13_times K 0 _ _ _ _ _ z fr_rf 
theorem fb_X13_rootsOf_0 {K : Nat} {z0 z : ow_MS}  {go : Nat → Int32 → Int32 → Int32 → Int32 → Int32 → Int64 → Int32 → Int64 → Int64 → ow_MS → Option (Int32 × ow_MS)} {x1 : Int32} {x2 : Int32} {x3 : Int32} {x4 : Int32} {x5 : Int32} {w3 : Int64} {t2 : Int32} {y0 : Int64} {y1 : Int64}  (hgo : ∀ (L : Nat) (x1 : Int32) (x2 : Int32) (x3 : Int32) (x4 : Int32) (x5 : Int32) (w3 : Int64) (t2 : Int32) (y0 : Int64) (y1 : Int64) (z : ow_MS), fr (pf [55, 56, 57] []) z0 z → Fo Prod.snd (pf [55, 56, 57] []) z0 (go L x1 x2 x3 x4 x5 w3 t2 y0 y1 z)) (hz : fr (pf [55, 56, 57] []) z0 z)  : Fo Prod.snd (pf [55, 56, 57] []) z0 (qm_X13_rootsOf_0 K go x1 x2 x3 x4 x5 w3 t2 y0 y1 z) := by
  unfold qm_X13_rootsOf_0
  exact (hgo 1 _ _ _ _ _ _ _ _ _ z hz)
theorem fb_X13_rootsOf_1 {K : Nat} {z0 z : ow_MS}  {go : Nat → Int32 → Int32 → Int32 → Int32 → Int32 → Int64 → Int32 → Int64 → Int64 → ow_MS → Option (Int32 × ow_MS)} {x1 : Int32} {x2 : Int32} {x3 : Int32} {x4 : Int32} {x5 : Int32} {w3 : Int64} {t2 : Int32} {y0 : Int64} {y1 : Int64}  (hgo : ∀ (L : Nat) (x1 : Int32) (x2 : Int32) (x3 : Int32) (x4 : Int32) (x5 : Int32) (w3 : Int64) (t2 : Int32) (y0 : Int64) (y1 : Int64) (z : ow_MS), fr (pf [55, 56, 57] []) z0 z → Fo Prod.snd (pf [55, 56, 57] []) z0 (go L x1 x2 x3 x4 x5 w3 t2 y0 y1 z)) (hz : fr (pf [55, 56, 57] []) z0 z)  : Fo Prod.snd (pf [55, 56, 57] []) z0 (qm_X13_rootsOf_1 K go x1 x2 x3 x4 x5 w3 t2 y0 y1 z) := by
  unfold qm_X13_rootsOf_1
  exact (fo_if (fo_wrJ (Or.inl (by decide)) hz (fun z1 h_z1 => (hgo 2 _ _ _ _ _ _ _ _ _ z1 h_z1))) (fo_wrJ (Or.inl (by decide)) hz (fun z2 h_z2 => (hgo 1 _ _ _ _ _ _ _ _ _ z2 h_z2))))
theorem fb_X13_rootsOf_2 {K : Nat} {z0 z : ow_MS}  {go : Nat → Int32 → Int32 → Int32 → Int32 → Int32 → Int64 → Int32 → Int64 → Int64 → ow_MS → Option (Int32 × ow_MS)} {x1 : Int32} {x2 : Int32} {x3 : Int32} {x4 : Int32} {x5 : Int32} {w3 : Int64} {t2 : Int32} {y0 : Int64} {y1 : Int64}  (hgo : ∀ (L : Nat) (x1 : Int32) (x2 : Int32) (x3 : Int32) (x4 : Int32) (x5 : Int32) (w3 : Int64) (t2 : Int32) (y0 : Int64) (y1 : Int64) (z : ow_MS), fr (pf [55, 56, 57] []) z0 z → Fo Prod.snd (pf [55, 56, 57] []) z0 (go L x1 x2 x3 x4 x5 w3 t2 y0 y1 z)) (hz : fr (pf [55, 56, 57] []) z0 z)  : Fo Prod.snd (pf [55, 56, 57] []) z0 (qm_X13_rootsOf_2 K go x1 x2 x3 x4 x5 w3 t2 y0 y1 z) := by
  unfold qm_X13_rootsOf_2
  exact (fo_if (fo_cs1 (ff_X13_changes) (pf_sub (by decide) pf_0) hz (fun v4 z3 h_z3 => (fo_cs1 (ff_X13_changes) (pf_sub (by decide) pf_0) h_z3 (fun v6 z5 h_z5 => (fo_some h_z5))))) (fo_cs0 (ff_X13_times) (pf_sub (by decide) pf_0) hz (fun z7 h_z7 => (hgo 3 _ _ _ _ _ _ _ _ _ z7 h_z7))))
theorem fb_X13_rootsOf_3 {K : Nat} {z0 z : ow_MS}  {go : Nat → Int32 → Int32 → Int32 → Int32 → Int32 → Int64 → Int32 → Int64 → Int64 → ow_MS → Option (Int32 × ow_MS)} {x1 : Int32} {x2 : Int32} {x3 : Int32} {x4 : Int32} {x5 : Int32} {w3 : Int64} {t2 : Int32} {y0 : Int64} {y1 : Int64}  (hgo : ∀ (L : Nat) (x1 : Int32) (x2 : Int32) (x3 : Int32) (x4 : Int32) (x5 : Int32) (w3 : Int64) (t2 : Int32) (y0 : Int64) (y1 : Int64) (z : ow_MS), fr (pf [55, 56, 57] []) z0 z → Fo Prod.snd (pf [55, 56, 57] []) z0 (go L x1 x2 x3 x4 x5 w3 t2 y0 y1 z)) (hz : fr (pf [55, 56, 57] []) z0 z)  : Fo Prod.snd (pf [55, 56, 57] []) z0 (qm_X13_rootsOf_3 K go x1 x2 x3 x4 x5 w3 t2 y0 y1 z) := by
  unfold qm_X13_rootsOf_3
  exact (fo_if (fo_cs0 (ff_X13_times) (pf_sub (by decide) pf_0) hz (fun z8 h_z8 => (hgo 6 _ _ _ _ _ _ _ _ _ z8 h_z8))) (hgo 4 _ _ _ _ _ _ _ _ _ z hz))
theorem fb_X13_rootsOf_4 {K : Nat} {z0 z : ow_MS}  {go : Nat → Int32 → Int32 → Int32 → Int32 → Int32 → Int64 → Int32 → Int64 → Int64 → ow_MS → Option (Int32 × ow_MS)} {x1 : Int32} {x2 : Int32} {x3 : Int32} {x4 : Int32} {x5 : Int32} {w3 : Int64} {t2 : Int32} {y0 : Int64} {y1 : Int64}  (hgo : ∀ (L : Nat) (x1 : Int32) (x2 : Int32) (x3 : Int32) (x4 : Int32) (x5 : Int32) (w3 : Int64) (t2 : Int32) (y0 : Int64) (y1 : Int64) (z : ow_MS), fr (pf [55, 56, 57] []) z0 z → Fo Prod.snd (pf [55, 56, 57] []) z0 (go L x1 x2 x3 x4 x5 w3 t2 y0 y1 z)) (hz : fr (pf [55, 56, 57] []) z0 z)  : Fo Prod.snd (pf [55, 56, 57] []) z0 (qm_X13_rootsOf_4 K go x1 x2 x3 x4 x5 w3 t2 y0 y1 z) := by
  unfold qm_X13_rootsOf_4
  exact (fo_if (hgo 3 _ _ _ _ _ _ _ _ _ z hz) (fo_rdJ (fun v9 => (fo_if (fo_rdJ (fun v10 => (hgo 5 _ _ _ _ _ _ _ _ _ z hz))) (hgo 5 _ _ _ _ _ _ _ _ _ z hz)))))
theorem fb_X13_rootsOf_5 {K : Nat} {z0 z : ow_MS}  {go : Nat → Int32 → Int32 → Int32 → Int32 → Int32 → Int64 → Int32 → Int64 → Int64 → ow_MS → Option (Int32 × ow_MS)} {x1 : Int32} {x2 : Int32} {x3 : Int32} {x4 : Int32} {x5 : Int32} {w3 : Int64} {t2 : Int32} {y0 : Int64} {y1 : Int64}  (hgo : ∀ (L : Nat) (x1 : Int32) (x2 : Int32) (x3 : Int32) (x4 : Int32) (x5 : Int32) (w3 : Int64) (t2 : Int32) (y0 : Int64) (y1 : Int64) (z : ow_MS), fr (pf [55, 56, 57] []) z0 z → Fo Prod.snd (pf [55, 56, 57] []) z0 (go L x1 x2 x3 x4 x5 w3 t2 y0 y1 z)) (hz : fr (pf [55, 56, 57] []) z0 z)  : Fo Prod.snd (pf [55, 56, 57] []) z0 (qm_X13_rootsOf_5 K go x1 x2 x3 x4 x5 w3 t2 y0 y1 z) := by
  unfold qm_X13_rootsOf_5
  exact (fo_wrJ (Or.inl (by decide)) hz (fun z11 h_z11 => (hgo 4 _ _ _ _ _ _ _ _ _ z11 h_z11)))
theorem fb_X13_rootsOf_6 {K : Nat} {z0 z : ow_MS}  {go : Nat → Int32 → Int32 → Int32 → Int32 → Int32 → Int64 → Int32 → Int64 → Int64 → ow_MS → Option (Int32 × ow_MS)} {x1 : Int32} {x2 : Int32} {x3 : Int32} {x4 : Int32} {x5 : Int32} {w3 : Int64} {t2 : Int32} {y0 : Int64} {y1 : Int64}  (hgo : ∀ (L : Nat) (x1 : Int32) (x2 : Int32) (x3 : Int32) (x4 : Int32) (x5 : Int32) (w3 : Int64) (t2 : Int32) (y0 : Int64) (y1 : Int64) (z : ow_MS), fr (pf [55, 56, 57] []) z0 z → Fo Prod.snd (pf [55, 56, 57] []) z0 (go L x1 x2 x3 x4 x5 w3 t2 y0 y1 z)) (hz : fr (pf [55, 56, 57] []) z0 z)  : Fo Prod.snd (pf [55, 56, 57] []) z0 (qm_X13_rootsOf_6 K go x1 x2 x3 x4 x5 w3 t2 y0 y1 z) := by
  unfold qm_X13_rootsOf_6
  exact (fo_if (fo_nzJ (fo_wrJ (Or.inl (by decide)) hz (fun z12 h_z12 => (hgo 2 _ _ _ _ _ _ _ _ _ z12 h_z12)))) (fo_rdJ (fun v13 => (hgo 6 _ _ _ _ _ _ _ _ _ z hz))))
theorem fq_X13_rootsOf {K : Nat} {z0 : ow_MS}   : ∀ (k L : Nat) (x1 : Int32) (x2 : Int32) (x3 : Int32) (x4 : Int32) (x5 : Int32) (w3 : Int64) (t2 : Int32) (y0 : Int64) (y1 : Int64) (z : ow_MS), fr (pf [55, 56, 57] []) z0 z → Fo Prod.snd (pf [55, 56, 57] []) z0 (q_X13_rootsOf K k L x1 x2 x3 x4 x5 w3 t2 y0 y1 z)
  | 0 => by
    intros
    exact fo_none
  | k + 1 => by
    intro L x1 x2 x3 x4 x5 w3 t2 y0 y1 z hz 
    show Fo Prod.snd (pf [55, 56, 57] []) z0 (qb_X13_rootsOf K (q_X13_rootsOf K k) L x1 x2 x3 x4 x5 w3 t2 y0 y1 z)
    unfold qb_X13_rootsOf
    split
    · exact fb_X13_rootsOf_0 (fq_X13_rootsOf k) hz 
    · exact fb_X13_rootsOf_1 (fq_X13_rootsOf k) hz 
    · exact fb_X13_rootsOf_2 (fq_X13_rootsOf k) hz 
    · exact fb_X13_rootsOf_3 (fq_X13_rootsOf k) hz 
    · exact fb_X13_rootsOf_4 (fq_X13_rootsOf k) hz 
    · exact fb_X13_rootsOf_5 (fq_X13_rootsOf k) hz 
    · exact fb_X13_rootsOf_6 (fq_X13_rootsOf k) hz 
    · exact fo_none
theorem ff_X13_rootsOf {K : Nat} {x1 : Int32} {z : ow_MS}  : Fo Prod.snd (pf [55, 56, 57] []) z (qe_X13_rootsOf K x1 z) := fq_X13_rootsOf K 0 _ _ _ _ _ _ _ _ _ z fr_rf 
theorem fb_X13_signatureOf_0 {K : Nat} {z0 z : ow_MS}  {go : Nat → Int32 → Int32 → Int32 → Int32 → Int32 → Int32 → Int32 → Int32 → Int32 → Int32 → Int32 → Int32 → Int32 → Int32 → Int32 → Int32 → Nat → Int32 → Int32 → ow_MS → Option (Int32 × ow_MS)} {x2 : Int32} {x3 : Int32} {x4 : Int32} {x5 : Int32} {x6 : Int32} {x7 : Int32} {x8 : Int32} {x9 : Int32} {x10 : Int32} {x11 : Int32} {x12 : Int32} {x13 : Int32} {x14 : Int32} {x15 : Int32} {x16 : Int32} {x17 : Int32} {r1 : Nat} {t0 : Int32} {t1 : Int32}  (hgo : ∀ (L : Nat) (x2 : Int32) (x3 : Int32) (x4 : Int32) (x5 : Int32) (x6 : Int32) (x7 : Int32) (x8 : Int32) (x9 : Int32) (x10 : Int32) (x11 : Int32) (x12 : Int32) (x13 : Int32) (x14 : Int32) (x15 : Int32) (x16 : Int32) (x17 : Int32) (r1 : Nat) (t0 : Int32) (t1 : Int32) (z : ow_MS), fr (pf [52, 53, 54, 55, 56, 57] []) z0 z → (L = 0 ∨ L = 1 ∨ L = 2 ∨ L = 3 ∨ L = 4 ∨ L = 5 ∨ L = 6 ∨ L = 7 ∨ L = 8 ∨ L = 9 ∨ L = 10 → 1000 ≤ r1) → Fo Prod.snd (pf [52, 53, 54, 55, 56, 57] []) z0 (go L x2 x3 x4 x5 x6 x7 x8 x9 x10 x11 x12 x13 x14 x15 x16 x17 r1 t0 t1 z)) (hz : fr (pf [52, 53, 54, 55, 56, 57] []) z0 z) (hr1 : 1000 ≤ r1) : Fo Prod.snd (pf [52, 53, 54, 55, 56, 57] []) z0 (qm_X13_signatureOf_0 K go x2 x3 x4 x5 x6 x7 x8 x9 x10 x11 x12 x13 x14 x15 x16 x17 r1 t0 t1 z) := by
  unfold qm_X13_signatureOf_0
  exact (fo_rdI (fun v1 => (fo_rdI (fun v2 => (fo_cs1 (ff_X13_colourFaces (by first | omega | decide)) (pf_sub (by decide) pf_0) hz (fun v4 z3 h_z3 => (hgo 1 _ _ _ _ _ _ _ _ _ _ _ _ _ _ _ _ _ _ _ z3 h_z3 (fun _ => (by first | omega | decide)))))))))
theorem fb_X13_signatureOf_1 {K : Nat} {z0 z : ow_MS}  {go : Nat → Int32 → Int32 → Int32 → Int32 → Int32 → Int32 → Int32 → Int32 → Int32 → Int32 → Int32 → Int32 → Int32 → Int32 → Int32 → Int32 → Nat → Int32 → Int32 → ow_MS → Option (Int32 × ow_MS)} {x2 : Int32} {x3 : Int32} {x4 : Int32} {x5 : Int32} {x6 : Int32} {x7 : Int32} {x8 : Int32} {x9 : Int32} {x10 : Int32} {x11 : Int32} {x12 : Int32} {x13 : Int32} {x14 : Int32} {x15 : Int32} {x16 : Int32} {x17 : Int32} {r1 : Nat} {t0 : Int32} {t1 : Int32}  (hgo : ∀ (L : Nat) (x2 : Int32) (x3 : Int32) (x4 : Int32) (x5 : Int32) (x6 : Int32) (x7 : Int32) (x8 : Int32) (x9 : Int32) (x10 : Int32) (x11 : Int32) (x12 : Int32) (x13 : Int32) (x14 : Int32) (x15 : Int32) (x16 : Int32) (x17 : Int32) (r1 : Nat) (t0 : Int32) (t1 : Int32) (z : ow_MS), fr (pf [52, 53, 54, 55, 56, 57] []) z0 z → (L = 0 ∨ L = 1 ∨ L = 2 ∨ L = 3 ∨ L = 4 ∨ L = 5 ∨ L = 6 ∨ L = 7 ∨ L = 8 ∨ L = 9 ∨ L = 10 → 1000 ≤ r1) → Fo Prod.snd (pf [52, 53, 54, 55, 56, 57] []) z0 (go L x2 x3 x4 x5 x6 x7 x8 x9 x10 x11 x12 x13 x14 x15 x16 x17 r1 t0 t1 z)) (hz : fr (pf [52, 53, 54, 55, 56, 57] []) z0 z) (hr1 : 1000 ≤ r1) : Fo Prod.snd (pf [52, 53, 54, 55, 56, 57] []) z0 (qm_X13_signatureOf_1 K go x2 x3 x4 x5 x6 x7 x8 x9 x10 x11 x12 x13 x14 x15 x16 x17 r1 t0 t1 z) := by
  unfold qm_X13_signatureOf_1
  exact (fo_if (hgo 2 _ _ _ _ _ _ _ _ _ _ _ _ _ _ _ _ _ _ _ z hz (fun _ => (by first | omega | decide))) (fo_wrJ (Or.inl (by decide)) hz (fun z5 h_z5 => (hgo 1 _ _ _ _ _ _ _ _ _ _ _ _ _ _ _ _ _ _ _ z5 h_z5 (fun _ => (by first | omega | decide))))))
theorem fb_X13_signatureOf_2 {K : Nat} {z0 z : ow_MS}  {go : Nat → Int32 → Int32 → Int32 → Int32 → Int32 → Int32 → Int32 → Int32 → Int32 → Int32 → Int32 → Int32 → Int32 → Int32 → Int32 → Int32 → Nat → Int32 → Int32 → ow_MS → Option (Int32 × ow_MS)} {x2 : Int32} {x3 : Int32} {x4 : Int32} {x5 : Int32} {x6 : Int32} {x7 : Int32} {x8 : Int32} {x9 : Int32} {x10 : Int32} {x11 : Int32} {x12 : Int32} {x13 : Int32} {x14 : Int32} {x15 : Int32} {x16 : Int32} {x17 : Int32} {r1 : Nat} {t0 : Int32} {t1 : Int32}  (hgo : ∀ (L : Nat) (x2 : Int32) (x3 : Int32) (x4 : Int32) (x5 : Int32) (x6 : Int32) (x7 : Int32) (x8 : Int32) (x9 : Int32) (x10 : Int32) (x11 : Int32) (x12 : Int32) (x13 : Int32) (x14 : Int32) (x15 : Int32) (x16 : Int32) (x17 : Int32) (r1 : Nat) (t0 : Int32) (t1 : Int32) (z : ow_MS), fr (pf [52, 53, 54, 55, 56, 57] []) z0 z → (L = 0 ∨ L = 1 ∨ L = 2 ∨ L = 3 ∨ L = 4 ∨ L = 5 ∨ L = 6 ∨ L = 7 ∨ L = 8 ∨ L = 9 ∨ L = 10 → 1000 ≤ r1) → Fo Prod.snd (pf [52, 53, 54, 55, 56, 57] []) z0 (go L x2 x3 x4 x5 x6 x7 x8 x9 x10 x11 x12 x13 x14 x15 x16 x17 r1 t0 t1 z)) (hz : fr (pf [52, 53, 54, 55, 56, 57] []) z0 z) (hr1 : 1000 ≤ r1) : Fo Prod.snd (pf [52, 53, 54, 55, 56, 57] []) z0 (qm_X13_signatureOf_2 K go x2 x3 x4 x5 x6 x7 x8 x9 x10 x11 x12 x13 x14 x15 x16 x17 r1 t0 t1 z) := by
  unfold qm_X13_signatureOf_2
  exact (fo_rdF (fun v6 => (fo_if (fo_cs1 (ff_X13_rootsOf) (pf_sub (by decide) pf_0) hz (fun v8 z7 h_z7 => (fo_some h_z7))) (fo_rdI (fun v9 => (fo_if (fo_rdI (fun v10 => (fo_rdI (fun v11 => (fo_if (fo_rdI (fun v12 => (fo_rdI (fun v13 => (fo_if (hgo 3 _ _ _ _ _ _ _ _ _ _ _ _ _ _ _ _ _ _ _ z hz (fun _ => (by first | omega | decide))) (hgo 3 _ _ _ _ _ _ _ _ _ _ _ _ _ _ _ _ _ _ _ z hz (fun _ => (by first | omega | decide)))))))) (hgo 10 _ _ _ _ _ _ _ _ _ _ _ _ _ _ _ _ _ _ _ z hz (fun _ => (by first | omega | decide)))))))) (hgo 10 _ _ _ _ _ _ _ _ _ _ _ _ _ _ _ _ _ _ _ z hz (fun _ => (by first | omega | decide)))))))))
theorem fb_X13_signatureOf_3 {K : Nat} {z0 z : ow_MS}  {go : Nat → Int32 → Int32 → Int32 → Int32 → Int32 → Int32 → Int32 → Int32 → Int32 → Int32 → Int32 → Int32 → Int32 → Int32 → Int32 → Int32 → Nat → Int32 → Int32 → ow_MS → Option (Int32 × ow_MS)} {x2 : Int32} {x3 : Int32} {x4 : Int32} {x5 : Int32} {x6 : Int32} {x7 : Int32} {x8 : Int32} {x9 : Int32} {x10 : Int32} {x11 : Int32} {x12 : Int32} {x13 : Int32} {x14 : Int32} {x15 : Int32} {x16 : Int32} {x17 : Int32} {r1 : Nat} {t0 : Int32} {t1 : Int32}  (hgo : ∀ (L : Nat) (x2 : Int32) (x3 : Int32) (x4 : Int32) (x5 : Int32) (x6 : Int32) (x7 : Int32) (x8 : Int32) (x9 : Int32) (x10 : Int32) (x11 : Int32) (x12 : Int32) (x13 : Int32) (x14 : Int32) (x15 : Int32) (x16 : Int32) (x17 : Int32) (r1 : Nat) (t0 : Int32) (t1 : Int32) (z : ow_MS), fr (pf [52, 53, 54, 55, 56, 57] []) z0 z → (L = 0 ∨ L = 1 ∨ L = 2 ∨ L = 3 ∨ L = 4 ∨ L = 5 ∨ L = 6 ∨ L = 7 ∨ L = 8 ∨ L = 9 ∨ L = 10 → 1000 ≤ r1) → Fo Prod.snd (pf [52, 53, 54, 55, 56, 57] []) z0 (go L x2 x3 x4 x5 x6 x7 x8 x9 x10 x11 x12 x13 x14 x15 x16 x17 r1 t0 t1 z)) (hz : fr (pf [52, 53, 54, 55, 56, 57] []) z0 z) (hr1 : 1000 ≤ r1) : Fo Prod.snd (pf [52, 53, 54, 55, 56, 57] []) z0 (qm_X13_signatureOf_3 K go x2 x3 x4 x5 x6 x7 x8 x9 x10 x11 x12 x13 x14 x15 x16 x17 r1 t0 t1 z) := by
  unfold qm_X13_signatureOf_3
  exact (fo_if (fo_rdI (fun v14 => (hgo 4 _ _ _ _ _ _ _ _ _ _ _ _ _ _ _ _ _ _ _ z hz (fun _ => (by first | omega | decide))))) (hgo 4 _ _ _ _ _ _ _ _ _ _ _ _ _ _ _ _ _ _ _ z hz (fun _ => (by first | omega | decide))))
theorem fb_X13_signatureOf_4 {K : Nat} {z0 z : ow_MS}  {go : Nat → Int32 → Int32 → Int32 → Int32 → Int32 → Int32 → Int32 → Int32 → Int32 → Int32 → Int32 → Int32 → Int32 → Int32 → Int32 → Int32 → Nat → Int32 → Int32 → ow_MS → Option (Int32 × ow_MS)} {x2 : Int32} {x3 : Int32} {x4 : Int32} {x5 : Int32} {x6 : Int32} {x7 : Int32} {x8 : Int32} {x9 : Int32} {x10 : Int32} {x11 : Int32} {x12 : Int32} {x13 : Int32} {x14 : Int32} {x15 : Int32} {x16 : Int32} {x17 : Int32} {r1 : Nat} {t0 : Int32} {t1 : Int32}  (hgo : ∀ (L : Nat) (x2 : Int32) (x3 : Int32) (x4 : Int32) (x5 : Int32) (x6 : Int32) (x7 : Int32) (x8 : Int32) (x9 : Int32) (x10 : Int32) (x11 : Int32) (x12 : Int32) (x13 : Int32) (x14 : Int32) (x15 : Int32) (x16 : Int32) (x17 : Int32) (r1 : Nat) (t0 : Int32) (t1 : Int32) (z : ow_MS), fr (pf [52, 53, 54, 55, 56, 57] []) z0 z → (L = 0 ∨ L = 1 ∨ L = 2 ∨ L = 3 ∨ L = 4 ∨ L = 5 ∨ L = 6 ∨ L = 7 ∨ L = 8 ∨ L = 9 ∨ L = 10 → 1000 ≤ r1) → Fo Prod.snd (pf [52, 53, 54, 55, 56, 57] []) z0 (go L x2 x3 x4 x5 x6 x7 x8 x9 x10 x11 x12 x13 x14 x15 x16 x17 r1 t0 t1 z)) (hz : fr (pf [52, 53, 54, 55, 56, 57] []) z0 z) (hr1 : 1000 ≤ r1) : Fo Prod.snd (pf [52, 53, 54, 55, 56, 57] []) z0 (qm_X13_signatureOf_4 K go x2 x3 x4 x5 x6 x7 x8 x9 x10 x11 x12 x13 x14 x15 x16 x17 r1 t0 t1 z) := by
  unfold qm_X13_signatureOf_4
  exact (fo_rdI (fun v15 => (fo_rdI (fun v16 => (fo_rdI (fun v17 => (fo_rdI (fun v18 => (fo_rdI (fun v19 => (fo_rdI (fun v20 => (fo_rdI (fun v21 => (fo_rdI (fun v22 => (fo_if (hgo 5 _ _ _ _ _ _ _ _ _ _ _ _ _ _ _ _ _ _ _ z hz (fun _ => (by first | omega | decide))) (hgo 5 _ _ _ _ _ _ _ _ _ _ _ _ _ _ _ _ _ _ _ z hz (fun _ => (by first | omega | decide))))))))))))))))))))
theorem fb_X13_signatureOf_5 {K : Nat} {z0 z : ow_MS}  {go : Nat → Int32 → Int32 → Int32 → Int32 → Int32 → Int32 → Int32 → Int32 → Int32 → Int32 → Int32 → Int32 → Int32 → Int32 → Int32 → Int32 → Nat → Int32 → Int32 → ow_MS → Option (Int32 × ow_MS)} {x2 : Int32} {x3 : Int32} {x4 : Int32} {x5 : Int32} {x6 : Int32} {x7 : Int32} {x8 : Int32} {x9 : Int32} {x10 : Int32} {x11 : Int32} {x12 : Int32} {x13 : Int32} {x14 : Int32} {x15 : Int32} {x16 : Int32} {x17 : Int32} {r1 : Nat} {t0 : Int32} {t1 : Int32}  (hgo : ∀ (L : Nat) (x2 : Int32) (x3 : Int32) (x4 : Int32) (x5 : Int32) (x6 : Int32) (x7 : Int32) (x8 : Int32) (x9 : Int32) (x10 : Int32) (x11 : Int32) (x12 : Int32) (x13 : Int32) (x14 : Int32) (x15 : Int32) (x16 : Int32) (x17 : Int32) (r1 : Nat) (t0 : Int32) (t1 : Int32) (z : ow_MS), fr (pf [52, 53, 54, 55, 56, 57] []) z0 z → (L = 0 ∨ L = 1 ∨ L = 2 ∨ L = 3 ∨ L = 4 ∨ L = 5 ∨ L = 6 ∨ L = 7 ∨ L = 8 ∨ L = 9 ∨ L = 10 → 1000 ≤ r1) → Fo Prod.snd (pf [52, 53, 54, 55, 56, 57] []) z0 (go L x2 x3 x4 x5 x6 x7 x8 x9 x10 x11 x12 x13 x14 x15 x16 x17 r1 t0 t1 z)) (hz : fr (pf [52, 53, 54, 55, 56, 57] []) z0 z) (hr1 : 1000 ≤ r1) : Fo Prod.snd (pf [52, 53, 54, 55, 56, 57] []) z0 (qm_X13_signatureOf_5 K go x2 x3 x4 x5 x6 x7 x8 x9 x10 x11 x12 x13 x14 x15 x16 x17 r1 t0 t1 z) := by
  unfold qm_X13_signatureOf_5
  exact (fo_if (hgo 6 _ _ _ _ _ _ _ _ _ _ _ _ _ _ _ _ _ _ _ z hz (fun _ => (by first | omega | decide))) (hgo 6 _ _ _ _ _ _ _ _ _ _ _ _ _ _ _ _ _ _ _ z hz (fun _ => (by first | omega | decide))))
theorem fb_X13_signatureOf_6 {K : Nat} {z0 z : ow_MS}  {go : Nat → Int32 → Int32 → Int32 → Int32 → Int32 → Int32 → Int32 → Int32 → Int32 → Int32 → Int32 → Int32 → Int32 → Int32 → Int32 → Int32 → Nat → Int32 → Int32 → ow_MS → Option (Int32 × ow_MS)} {x2 : Int32} {x3 : Int32} {x4 : Int32} {x5 : Int32} {x6 : Int32} {x7 : Int32} {x8 : Int32} {x9 : Int32} {x10 : Int32} {x11 : Int32} {x12 : Int32} {x13 : Int32} {x14 : Int32} {x15 : Int32} {x16 : Int32} {x17 : Int32} {r1 : Nat} {t0 : Int32} {t1 : Int32}  (hgo : ∀ (L : Nat) (x2 : Int32) (x3 : Int32) (x4 : Int32) (x5 : Int32) (x6 : Int32) (x7 : Int32) (x8 : Int32) (x9 : Int32) (x10 : Int32) (x11 : Int32) (x12 : Int32) (x13 : Int32) (x14 : Int32) (x15 : Int32) (x16 : Int32) (x17 : Int32) (r1 : Nat) (t0 : Int32) (t1 : Int32) (z : ow_MS), fr (pf [52, 53, 54, 55, 56, 57] []) z0 z → (L = 0 ∨ L = 1 ∨ L = 2 ∨ L = 3 ∨ L = 4 ∨ L = 5 ∨ L = 6 ∨ L = 7 ∨ L = 8 ∨ L = 9 ∨ L = 10 → 1000 ≤ r1) → Fo Prod.snd (pf [52, 53, 54, 55, 56, 57] []) z0 (go L x2 x3 x4 x5 x6 x7 x8 x9 x10 x11 x12 x13 x14 x15 x16 x17 r1 t0 t1 z)) (hz : fr (pf [52, 53, 54, 55, 56, 57] []) z0 z) (hr1 : 1000 ≤ r1) : Fo Prod.snd (pf [52, 53, 54, 55, 56, 57] []) z0 (qm_X13_signatureOf_6 K go x2 x3 x4 x5 x6 x7 x8 x9 x10 x11 x12 x13 x14 x15 x16 x17 r1 t0 t1 z) := by
  unfold qm_X13_signatureOf_6
  exact (fo_if (hgo 7 _ _ _ _ _ _ _ _ _ _ _ _ _ _ _ _ _ _ _ z hz (fun _ => (by first | omega | decide))) (hgo 7 _ _ _ _ _ _ _ _ _ _ _ _ _ _ _ _ _ _ _ z hz (fun _ => (by first | omega | decide))))
theorem fb_X13_signatureOf_7 {K : Nat} {z0 z : ow_MS}  {go : Nat → Int32 → Int32 → Int32 → Int32 → Int32 → Int32 → Int32 → Int32 → Int32 → Int32 → Int32 → Int32 → Int32 → Int32 → Int32 → Int32 → Nat → Int32 → Int32 → ow_MS → Option (Int32 × ow_MS)} {x2 : Int32} {x3 : Int32} {x4 : Int32} {x5 : Int32} {x6 : Int32} {x7 : Int32} {x8 : Int32} {x9 : Int32} {x10 : Int32} {x11 : Int32} {x12 : Int32} {x13 : Int32} {x14 : Int32} {x15 : Int32} {x16 : Int32} {x17 : Int32} {r1 : Nat} {t0 : Int32} {t1 : Int32}  (hgo : ∀ (L : Nat) (x2 : Int32) (x3 : Int32) (x4 : Int32) (x5 : Int32) (x6 : Int32) (x7 : Int32) (x8 : Int32) (x9 : Int32) (x10 : Int32) (x11 : Int32) (x12 : Int32) (x13 : Int32) (x14 : Int32) (x15 : Int32) (x16 : Int32) (x17 : Int32) (r1 : Nat) (t0 : Int32) (t1 : Int32) (z : ow_MS), fr (pf [52, 53, 54, 55, 56, 57] []) z0 z → (L = 0 ∨ L = 1 ∨ L = 2 ∨ L = 3 ∨ L = 4 ∨ L = 5 ∨ L = 6 ∨ L = 7 ∨ L = 8 ∨ L = 9 ∨ L = 10 → 1000 ≤ r1) → Fo Prod.snd (pf [52, 53, 54, 55, 56, 57] []) z0 (go L x2 x3 x4 x5 x6 x7 x8 x9 x10 x11 x12 x13 x14 x15 x16 x17 r1 t0 t1 z)) (hz : fr (pf [52, 53, 54, 55, 56, 57] []) z0 z) (hr1 : 1000 ≤ r1) : Fo Prod.snd (pf [52, 53, 54, 55, 56, 57] []) z0 (qm_X13_signatureOf_7 K go x2 x3 x4 x5 x6 x7 x8 x9 x10 x11 x12 x13 x14 x15 x16 x17 r1 t0 t1 z) := by
  unfold qm_X13_signatureOf_7
  exact (fo_rdI (fun v23 => (fo_if (hgo 8 _ _ _ _ _ _ _ _ _ _ _ _ _ _ _ _ _ _ _ z hz (fun _ => (by first | omega | decide))) (hgo 8 _ _ _ _ _ _ _ _ _ _ _ _ _ _ _ _ _ _ _ z hz (fun _ => (by first | omega | decide))))))
theorem fb_X13_signatureOf_8 {K : Nat} {z0 z : ow_MS}  {go : Nat → Int32 → Int32 → Int32 → Int32 → Int32 → Int32 → Int32 → Int32 → Int32 → Int32 → Int32 → Int32 → Int32 → Int32 → Int32 → Int32 → Nat → Int32 → Int32 → ow_MS → Option (Int32 × ow_MS)} {x2 : Int32} {x3 : Int32} {x4 : Int32} {x5 : Int32} {x6 : Int32} {x7 : Int32} {x8 : Int32} {x9 : Int32} {x10 : Int32} {x11 : Int32} {x12 : Int32} {x13 : Int32} {x14 : Int32} {x15 : Int32} {x16 : Int32} {x17 : Int32} {r1 : Nat} {t0 : Int32} {t1 : Int32}  (hgo : ∀ (L : Nat) (x2 : Int32) (x3 : Int32) (x4 : Int32) (x5 : Int32) (x6 : Int32) (x7 : Int32) (x8 : Int32) (x9 : Int32) (x10 : Int32) (x11 : Int32) (x12 : Int32) (x13 : Int32) (x14 : Int32) (x15 : Int32) (x16 : Int32) (x17 : Int32) (r1 : Nat) (t0 : Int32) (t1 : Int32) (z : ow_MS), fr (pf [52, 53, 54, 55, 56, 57] []) z0 z → (L = 0 ∨ L = 1 ∨ L = 2 ∨ L = 3 ∨ L = 4 ∨ L = 5 ∨ L = 6 ∨ L = 7 ∨ L = 8 ∨ L = 9 ∨ L = 10 → 1000 ≤ r1) → Fo Prod.snd (pf [52, 53, 54, 55, 56, 57] []) z0 (go L x2 x3 x4 x5 x6 x7 x8 x9 x10 x11 x12 x13 x14 x15 x16 x17 r1 t0 t1 z)) (hz : fr (pf [52, 53, 54, 55, 56, 57] []) z0 z) (hr1 : 1000 ≤ r1) : Fo Prod.snd (pf [52, 53, 54, 55, 56, 57] []) z0 (qm_X13_signatureOf_8 K go x2 x3 x4 x5 x6 x7 x8 x9 x10 x11 x12 x13 x14 x15 x16 x17 r1 t0 t1 z) := by
  unfold qm_X13_signatureOf_8
  exact (fo_rdI (fun v24 => (fo_rdJ (fun v25 => (fo_wrJ (Or.inl (by decide)) hz (fun z26 h_z26 => (fo_rdJ (fun v27 => (fo_wrJ (Or.inl (by decide)) h_z26 (fun z28 h_z28 => (fo_rdJ (fun v29 => (fo_wrJ (Or.inl (by decide)) h_z28 (fun z30 h_z30 => (fo_rdJ (fun v31 => (fo_wrJ (Or.inl (by decide)) h_z30 (fun z32 h_z32 => (fo_if (fo_if (hgo 9 _ _ _ _ _ _ _ _ _ _ _ _ _ _ _ _ _ _ _ z32 h_z32 (fun _ => (by first | omega | decide))) (hgo 9 _ _ _ _ _ _ _ _ _ _ _ _ _ _ _ _ _ _ _ z32 h_z32 (fun _ => (by first | omega | decide)))) (hgo 9 _ _ _ _ _ _ _ _ _ _ _ _ _ _ _ _ _ _ _ z32 h_z32 (fun _ => (by first | omega | decide))))))))))))))))))))))
theorem fb_X13_signatureOf_9 {K : Nat} {z0 z : ow_MS}  {go : Nat → Int32 → Int32 → Int32 → Int32 → Int32 → Int32 → Int32 → Int32 → Int32 → Int32 → Int32 → Int32 → Int32 → Int32 → Int32 → Int32 → Nat → Int32 → Int32 → ow_MS → Option (Int32 × ow_MS)} {x2 : Int32} {x3 : Int32} {x4 : Int32} {x5 : Int32} {x6 : Int32} {x7 : Int32} {x8 : Int32} {x9 : Int32} {x10 : Int32} {x11 : Int32} {x12 : Int32} {x13 : Int32} {x14 : Int32} {x15 : Int32} {x16 : Int32} {x17 : Int32} {r1 : Nat} {t0 : Int32} {t1 : Int32}  (hgo : ∀ (L : Nat) (x2 : Int32) (x3 : Int32) (x4 : Int32) (x5 : Int32) (x6 : Int32) (x7 : Int32) (x8 : Int32) (x9 : Int32) (x10 : Int32) (x11 : Int32) (x12 : Int32) (x13 : Int32) (x14 : Int32) (x15 : Int32) (x16 : Int32) (x17 : Int32) (r1 : Nat) (t0 : Int32) (t1 : Int32) (z : ow_MS), fr (pf [52, 53, 54, 55, 56, 57] []) z0 z → (L = 0 ∨ L = 1 ∨ L = 2 ∨ L = 3 ∨ L = 4 ∨ L = 5 ∨ L = 6 ∨ L = 7 ∨ L = 8 ∨ L = 9 ∨ L = 10 → 1000 ≤ r1) → Fo Prod.snd (pf [52, 53, 54, 55, 56, 57] []) z0 (go L x2 x3 x4 x5 x6 x7 x8 x9 x10 x11 x12 x13 x14 x15 x16 x17 r1 t0 t1 z)) (hz : fr (pf [52, 53, 54, 55, 56, 57] []) z0 z) (hr1 : 1000 ≤ r1) : Fo Prod.snd (pf [52, 53, 54, 55, 56, 57] []) z0 (qm_X13_signatureOf_9 K go x2 x3 x4 x5 x6 x7 x8 x9 x10 x11 x12 x13 x14 x15 x16 x17 r1 t0 t1 z) := by
  unfold qm_X13_signatureOf_9
  exact (hgo 10 _ _ _ _ _ _ _ _ _ _ _ _ _ _ _ _ _ _ _ z hz (fun _ => (by first | omega | decide)))
theorem fb_X13_signatureOf_10 {K : Nat} {z0 z : ow_MS}  {go : Nat → Int32 → Int32 → Int32 → Int32 → Int32 → Int32 → Int32 → Int32 → Int32 → Int32 → Int32 → Int32 → Int32 → Int32 → Int32 → Int32 → Nat → Int32 → Int32 → ow_MS → Option (Int32 × ow_MS)} {x2 : Int32} {x3 : Int32} {x4 : Int32} {x5 : Int32} {x6 : Int32} {x7 : Int32} {x8 : Int32} {x9 : Int32} {x10 : Int32} {x11 : Int32} {x12 : Int32} {x13 : Int32} {x14 : Int32} {x15 : Int32} {x16 : Int32} {x17 : Int32} {r1 : Nat} {t0 : Int32} {t1 : Int32}  (hgo : ∀ (L : Nat) (x2 : Int32) (x3 : Int32) (x4 : Int32) (x5 : Int32) (x6 : Int32) (x7 : Int32) (x8 : Int32) (x9 : Int32) (x10 : Int32) (x11 : Int32) (x12 : Int32) (x13 : Int32) (x14 : Int32) (x15 : Int32) (x16 : Int32) (x17 : Int32) (r1 : Nat) (t0 : Int32) (t1 : Int32) (z : ow_MS), fr (pf [52, 53, 54, 55, 56, 57] []) z0 z → (L = 0 ∨ L = 1 ∨ L = 2 ∨ L = 3 ∨ L = 4 ∨ L = 5 ∨ L = 6 ∨ L = 7 ∨ L = 8 ∨ L = 9 ∨ L = 10 → 1000 ≤ r1) → Fo Prod.snd (pf [52, 53, 54, 55, 56, 57] []) z0 (go L x2 x3 x4 x5 x6 x7 x8 x9 x10 x11 x12 x13 x14 x15 x16 x17 r1 t0 t1 z)) (hz : fr (pf [52, 53, 54, 55, 56, 57] []) z0 z) (hr1 : 1000 ≤ r1) : Fo Prod.snd (pf [52, 53, 54, 55, 56, 57] []) z0 (qm_X13_signatureOf_10 K go x2 x3 x4 x5 x6 x7 x8 x9 x10 x11 x12 x13 x14 x15 x16 x17 r1 t0 t1 z) := by
  unfold qm_X13_signatureOf_10
  exact (hgo 2 _ _ _ _ _ _ _ _ _ _ _ _ _ _ _ _ _ _ _ z hz (fun _ => (by first | omega | decide)))
theorem fq_X13_signatureOf {K : Nat} {z0 : ow_MS}   : ∀ (k L : Nat) (x2 : Int32) (x3 : Int32) (x4 : Int32) (x5 : Int32) (x6 : Int32) (x7 : Int32) (x8 : Int32) (x9 : Int32) (x10 : Int32) (x11 : Int32) (x12 : Int32) (x13 : Int32) (x14 : Int32) (x15 : Int32) (x16 : Int32) (x17 : Int32) (r1 : Nat) (t0 : Int32) (t1 : Int32) (z : ow_MS), fr (pf [52, 53, 54, 55, 56, 57] []) z0 z → (L = 0 ∨ L = 1 ∨ L = 2 ∨ L = 3 ∨ L = 4 ∨ L = 5 ∨ L = 6 ∨ L = 7 ∨ L = 8 ∨ L = 9 ∨ L = 10 → 1000 ≤ r1) → Fo Prod.snd (pf [52, 53, 54, 55, 56, 57] []) z0 (q_X13_signatureOf K k L x2 x3 x4 x5 x6 x7 x8 x9 x10 x11 x12 x13 x14 x15 x16 x17 r1 t0 t1 z)
  | 0 => by
    intros
    exact fo_none
  | k + 1 => by
    intro L x2 x3 x4 x5 x6 x7 x8 x9 x10 x11 x12 x13 x14 x15 x16 x17 r1 t0 t1 z hz h9_r1
    show Fo Prod.snd (pf [52, 53, 54, 55, 56, 57] []) z0 (qb_X13_signatureOf K (q_X13_signatureOf K k) L x2 x3 x4 x5 x6 x7 x8 x9 x10 x11 x12 x13 x14 x15 x16 x17 r1 t0 t1 z)
    unfold qb_X13_signatureOf
    split
    · exact fb_X13_signatureOf_0 (fq_X13_signatureOf k) hz (h9_r1 (by decide))
    · exact fb_X13_signatureOf_1 (fq_X13_signatureOf k) hz (h9_r1 (by decide))
    · exact fb_X13_signatureOf_2 (fq_X13_signatureOf k) hz (h9_r1 (by decide))
    · exact fb_X13_signatureOf_3 (fq_X13_signatureOf k) hz (h9_r1 (by decide))
    · exact fb_X13_signatureOf_4 (fq_X13_signatureOf k) hz (h9_r1 (by decide))
    · exact fb_X13_signatureOf_5 (fq_X13_signatureOf k) hz (h9_r1 (by decide))
    · exact fb_X13_signatureOf_6 (fq_X13_signatureOf k) hz (h9_r1 (by decide))
    · exact fb_X13_signatureOf_7 (fq_X13_signatureOf k) hz (h9_r1 (by decide))
    · exact fb_X13_signatureOf_8 (fq_X13_signatureOf k) hz (h9_r1 (by decide))
    · exact fb_X13_signatureOf_9 (fq_X13_signatureOf k) hz (h9_r1 (by decide))
    · exact fb_X13_signatureOf_10 (fq_X13_signatureOf k) hz (h9_r1 (by decide))
    · exact fo_none
theorem ff_X13_signatureOf {K : Nat} {r1 : Nat} {x2 : Int32} {z : ow_MS} (hr1 : 1000 ≤ r1) : Fo Prod.snd (pf [52, 53, 54, 55, 56, 57] []) z (qe_X13_signatureOf K r1 x2 z) := fq_X13_signatureOf K 0 _ _ _ _ _ _ _ _ _ _ _ _ _ _ _ _ _ _ _ z fr_rf (fun _ => (by first | omega | decide))
theorem fb_X13_signature_0 {K : Nat} {z0 z : ow_MS}  {go : Nat → Int32 → Int32 → Int32 → Int32 → Int32 → Int32 → Int32 → ow_MS → Option (Int32 × ow_MS)} {x1 : Int32} {x2 : Int32} {x3 : Int32} {x4 : Int32} {x5 : Int32} {t0 : Int32} {t1 : Int32}  (hgo : ∀ (L : Nat) (x1 : Int32) (x2 : Int32) (x3 : Int32) (x4 : Int32) (x5 : Int32) (t0 : Int32) (t1 : Int32) (z : ow_MS), fr (pf [1, 52, 53, 54, 55, 56, 57] []) z0 z → Fo Prod.snd (pf [1, 52, 53, 54, 55, 56, 57] []) z0 (go L x1 x2 x3 x4 x5 t0 t1 z)) (hz : fr (pf [1, 52, 53, 54, 55, 56, 57] []) z0 z)  : Fo Prod.snd (pf [1, 52, 53, 54, 55, 56, 57] []) z0 (qm_X13_signature_0 K go x1 x2 x3 x4 x5 t0 t1 z) := by
  unfold qm_X13_signature_0
  exact (fo_wrF (Or.inl (by decide)) hz (fun z1 h_z1 => (fo_cs1 (ff_X13_has) (pf_sub (by decide) pf_0) h_z1 (fun v3 z2 h_z2 => (fo_if (fo_cs1 (ff_X13_fails) (pf_sub (by decide) pf_0) h_z2 (fun v8 z7 h_z7 => (fo_some h_z7))) (fo_cs0 (ff_X13_open (by first | omega | decide)) (pf_sub (by decide) pf_0) h_z2 (fun z4 h_z4 => (fo_cs0 (ff_X12_split (by first | omega | decide)) (pf_sub (by decide) pf_0) h_z4 (fun z5 h_z5 => (fo_cs0 (ff_X12_walk (by first | omega | decide)) (pf_sub (by decide) pf_0) h_z5 (fun z6 h_z6 => (hgo 1 _ _ _ _ _ _ _ z6 h_z6))))))))))))
theorem fb_X13_signature_1 {K : Nat} {z0 z : ow_MS}  {go : Nat → Int32 → Int32 → Int32 → Int32 → Int32 → Int32 → Int32 → ow_MS → Option (Int32 × ow_MS)} {x1 : Int32} {x2 : Int32} {x3 : Int32} {x4 : Int32} {x5 : Int32} {t0 : Int32} {t1 : Int32}  (hgo : ∀ (L : Nat) (x1 : Int32) (x2 : Int32) (x3 : Int32) (x4 : Int32) (x5 : Int32) (t0 : Int32) (t1 : Int32) (z : ow_MS), fr (pf [1, 52, 53, 54, 55, 56, 57] []) z0 z → Fo Prod.snd (pf [1, 52, 53, 54, 55, 56, 57] []) z0 (go L x1 x2 x3 x4 x5 t0 t1 z)) (hz : fr (pf [1, 52, 53, 54, 55, 56, 57] []) z0 z)  : Fo Prod.snd (pf [1, 52, 53, 54, 55, 56, 57] []) z0 (qm_X13_signature_1 K go x1 x2 x3 x4 x5 t0 t1 z) := by
  unfold qm_X13_signature_1
  exact (fo_rdF (fun v9 => (fo_if (fo_some hz) (fo_rdF (fun v10 => (hgo 2 _ _ _ _ _ _ _ z hz))))))
theorem fb_X13_signature_2 {K : Nat} {z0 z : ow_MS}  {go : Nat → Int32 → Int32 → Int32 → Int32 → Int32 → Int32 → Int32 → ow_MS → Option (Int32 × ow_MS)} {x1 : Int32} {x2 : Int32} {x3 : Int32} {x4 : Int32} {x5 : Int32} {t0 : Int32} {t1 : Int32}  (hgo : ∀ (L : Nat) (x1 : Int32) (x2 : Int32) (x3 : Int32) (x4 : Int32) (x5 : Int32) (t0 : Int32) (t1 : Int32) (z : ow_MS), fr (pf [1, 52, 53, 54, 55, 56, 57] []) z0 z → Fo Prod.snd (pf [1, 52, 53, 54, 55, 56, 57] []) z0 (go L x1 x2 x3 x4 x5 t0 t1 z)) (hz : fr (pf [1, 52, 53, 54, 55, 56, 57] []) z0 z)  : Fo Prod.snd (pf [1, 52, 53, 54, 55, 56, 57] []) z0 (qm_X13_signature_2 K go x1 x2 x3 x4 x5 t0 t1 z) := by
  unfold qm_X13_signature_2
  exact (fo_if (fo_if (hgo 4 _ _ _ _ _ _ _ z hz) (fo_cs1 (ff_X13_signatureOf (by first | omega | decide)) (pf_sub (by decide) pf_0) hz (fun v12 z11 h_z11 => (hgo 4 _ _ _ _ _ _ _ z11 h_z11)))) (fo_rdI (fun v13 => (fo_rdI (fun v14 => (fo_if (hgo 3 _ _ _ _ _ _ _ z hz) (hgo 3 _ _ _ _ _ _ _ z hz)))))))
theorem fb_X13_signature_3 {K : Nat} {z0 z : ow_MS}  {go : Nat → Int32 → Int32 → Int32 → Int32 → Int32 → Int32 → Int32 → ow_MS → Option (Int32 × ow_MS)} {x1 : Int32} {x2 : Int32} {x3 : Int32} {x4 : Int32} {x5 : Int32} {t0 : Int32} {t1 : Int32}  (hgo : ∀ (L : Nat) (x1 : Int32) (x2 : Int32) (x3 : Int32) (x4 : Int32) (x5 : Int32) (t0 : Int32) (t1 : Int32) (z : ow_MS), fr (pf [1, 52, 53, 54, 55, 56, 57] []) z0 z → Fo Prod.snd (pf [1, 52, 53, 54, 55, 56, 57] []) z0 (go L x1 x2 x3 x4 x5 t0 t1 z)) (hz : fr (pf [1, 52, 53, 54, 55, 56, 57] []) z0 z)  : Fo Prod.snd (pf [1, 52, 53, 54, 55, 56, 57] []) z0 (qm_X13_signature_3 K go x1 x2 x3 x4 x5 t0 t1 z) := by
  unfold qm_X13_signature_3
  exact (hgo 2 _ _ _ _ _ _ _ z hz)
theorem fb_X13_signature_4 {K : Nat} {z0 z : ow_MS}  {go : Nat → Int32 → Int32 → Int32 → Int32 → Int32 → Int32 → Int32 → ow_MS → Option (Int32 × ow_MS)} {x1 : Int32} {x2 : Int32} {x3 : Int32} {x4 : Int32} {x5 : Int32} {t0 : Int32} {t1 : Int32}  (hgo : ∀ (L : Nat) (x1 : Int32) (x2 : Int32) (x3 : Int32) (x4 : Int32) (x5 : Int32) (t0 : Int32) (t1 : Int32) (z : ow_MS), fr (pf [1, 52, 53, 54, 55, 56, 57] []) z0 z → Fo Prod.snd (pf [1, 52, 53, 54, 55, 56, 57] []) z0 (go L x1 x2 x3 x4 x5 t0 t1 z)) (hz : fr (pf [1, 52, 53, 54, 55, 56, 57] []) z0 z)  : Fo Prod.snd (pf [1, 52, 53, 54, 55, 56, 57] []) z0 (qm_X13_signature_4 K go x1 x2 x3 x4 x5 t0 t1 z) := by
  unfold qm_X13_signature_4
  exact (hgo 1 _ _ _ _ _ _ _ z hz)
theorem fq_X13_signature {K : Nat} {z0 : ow_MS}   : ∀ (k L : Nat) (x1 : Int32) (x2 : Int32) (x3 : Int32) (x4 : Int32) (x5 : Int32) (t0 : Int32) (t1 : Int32) (z : ow_MS), fr (pf [1, 52, 53, 54, 55, 56, 57] []) z0 z → Fo Prod.snd (pf [1, 52, 53, 54, 55, 56, 57] []) z0 (q_X13_signature K k L x1 x2 x3 x4 x5 t0 t1 z)
  | 0 => by
    intros
    exact fo_none
  | k + 1 => by
    intro L x1 x2 x3 x4 x5 t0 t1 z hz 
    show Fo Prod.snd (pf [1, 52, 53, 54, 55, 56, 57] []) z0 (qb_X13_signature K (q_X13_signature K k) L x1 x2 x3 x4 x5 t0 t1 z)
    unfold qb_X13_signature
    split
    · exact fb_X13_signature_0 (fq_X13_signature k) hz 
    · exact fb_X13_signature_1 (fq_X13_signature k) hz 
    · exact fb_X13_signature_2 (fq_X13_signature k) hz 
    · exact fb_X13_signature_3 (fq_X13_signature k) hz 
    · exact fb_X13_signature_4 (fq_X13_signature k) hz 
    · exact fo_none
theorem ff_X13_signature {K : Nat} {x1 : Int32} {z : ow_MS}  : Fo Prod.snd (pf [1, 52, 53, 54, 55, 56, 57] []) z (qe_X13_signature K x1 z) := fq_X13_signature K 0 _ _ _ _ _ _ _ z fr_rf 
theorem fb_X13_makeArcs_0 {K : Nat} {z0 z : ow_MS}  {go : Nat → Int32 → Int32 → Int32 → Nat → Int32 → ow_MS → Option ow_MS} {x2 : Int32} {x3 : Int32} {x4 : Int32} {r1 : Nat} {t0 : Int32}  (hgo : ∀ (L : Nat) (x2 : Int32) (x3 : Int32) (x4 : Int32) (r1 : Nat) (t0 : Int32) (z : ow_MS), fr (pf [58, 59, 60, 61, 62, 63] []) z0 z → (L = 0 ∨ L = 1 ∨ L = 2 ∨ L = 3 ∨ L = 4 ∨ L = 5 ∨ L = 6 ∨ L = 7 ∨ L = 8 ∨ L = 9 → 1000 ≤ r1) → Fo id (pf [58, 59, 60, 61, 62, 63] []) z0 (go L x2 x3 x4 r1 t0 z)) (hz : fr (pf [58, 59, 60, 61, 62, 63] []) z0 z) (hr1 : 1000 ≤ r1) : Fo id (pf [58, 59, 60, 61, 62, 63] []) z0 (qm_X13_makeArcs_0 K go x2 x3 x4 r1 t0 z) := by
  unfold qm_X13_makeArcs_0
  exact (fo_wrF (Or.inl (by decide)) hz (fun z1 h_z1 => (hgo 1 _ _ _ _ _ z1 h_z1 (fun _ => (by first | omega | decide)))))
theorem fb_X13_makeArcs_1 {K : Nat} {z0 z : ow_MS}  {go : Nat → Int32 → Int32 → Int32 → Nat → Int32 → ow_MS → Option ow_MS} {x2 : Int32} {x3 : Int32} {x4 : Int32} {r1 : Nat} {t0 : Int32}  (hgo : ∀ (L : Nat) (x2 : Int32) (x3 : Int32) (x4 : Int32) (r1 : Nat) (t0 : Int32) (z : ow_MS), fr (pf [58, 59, 60, 61, 62, 63] []) z0 z → (L = 0 ∨ L = 1 ∨ L = 2 ∨ L = 3 ∨ L = 4 ∨ L = 5 ∨ L = 6 ∨ L = 7 ∨ L = 8 ∨ L = 9 → 1000 ≤ r1) → Fo id (pf [58, 59, 60, 61, 62, 63] []) z0 (go L x2 x3 x4 r1 t0 z)) (hz : fr (pf [58, 59, 60, 61, 62, 63] []) z0 z) (hr1 : 1000 ≤ r1) : Fo id (pf [58, 59, 60, 61, 62, 63] []) z0 (qm_X13_makeArcs_1 K go x2 x3 x4 r1 t0 z) := by
  unfold qm_X13_makeArcs_1
  exact (fo_rdF (fun v2 => (fo_if (hgo 8 _ _ _ _ _ z hz (fun _ => (by first | omega | decide))) (fo_rdI (fun v3 => (hgo 2 _ _ _ _ _ z hz (fun _ => (by first | omega | decide))))))))
theorem fb_X13_makeArcs_2 {K : Nat} {z0 z : ow_MS}  {go : Nat → Int32 → Int32 → Int32 → Nat → Int32 → ow_MS → Option ow_MS} {x2 : Int32} {x3 : Int32} {x4 : Int32} {r1 : Nat} {t0 : Int32}  (hgo : ∀ (L : Nat) (x2 : Int32) (x3 : Int32) (x4 : Int32) (r1 : Nat) (t0 : Int32) (z : ow_MS), fr (pf [58, 59, 60, 61, 62, 63] []) z0 z → (L = 0 ∨ L = 1 ∨ L = 2 ∨ L = 3 ∨ L = 4 ∨ L = 5 ∨ L = 6 ∨ L = 7 ∨ L = 8 ∨ L = 9 → 1000 ≤ r1) → Fo id (pf [58, 59, 60, 61, 62, 63] []) z0 (go L x2 x3 x4 r1 t0 z)) (hz : fr (pf [58, 59, 60, 61, 62, 63] []) z0 z) (hr1 : 1000 ≤ r1) : Fo id (pf [58, 59, 60, 61, 62, 63] []) z0 (qm_X13_makeArcs_2 K go x2 x3 x4 r1 t0 z) := by
  unfold qm_X13_makeArcs_2
  exact (fo_rdI (fun v4 => (fo_if (fo_if (fo_rdI (fun v5 => (hgo 4 _ _ _ _ _ z hz (fun _ => (by first | omega | decide))))) (hgo 5 _ _ _ _ _ z hz (fun _ => (by first | omega | decide)))) (fo_rdI (fun v6 => (fo_if (hgo 3 _ _ _ _ _ z hz (fun _ => (by first | omega | decide))) (hgo 3 _ _ _ _ _ z hz (fun _ => (by first | omega | decide)))))))))
theorem fb_X13_makeArcs_3 {K : Nat} {z0 z : ow_MS}  {go : Nat → Int32 → Int32 → Int32 → Nat → Int32 → ow_MS → Option ow_MS} {x2 : Int32} {x3 : Int32} {x4 : Int32} {r1 : Nat} {t0 : Int32}  (hgo : ∀ (L : Nat) (x2 : Int32) (x3 : Int32) (x4 : Int32) (r1 : Nat) (t0 : Int32) (z : ow_MS), fr (pf [58, 59, 60, 61, 62, 63] []) z0 z → (L = 0 ∨ L = 1 ∨ L = 2 ∨ L = 3 ∨ L = 4 ∨ L = 5 ∨ L = 6 ∨ L = 7 ∨ L = 8 ∨ L = 9 → 1000 ≤ r1) → Fo id (pf [58, 59, 60, 61, 62, 63] []) z0 (go L x2 x3 x4 r1 t0 z)) (hz : fr (pf [58, 59, 60, 61, 62, 63] []) z0 z) (hr1 : 1000 ≤ r1) : Fo id (pf [58, 59, 60, 61, 62, 63] []) z0 (qm_X13_makeArcs_3 K go x2 x3 x4 r1 t0 z) := by
  unfold qm_X13_makeArcs_3
  exact (hgo 2 _ _ _ _ _ z hz (fun _ => (by first | omega | decide)))
theorem fb_X13_makeArcs_4 {K : Nat} {z0 z : ow_MS}  {go : Nat → Int32 → Int32 → Int32 → Nat → Int32 → ow_MS → Option ow_MS} {x2 : Int32} {x3 : Int32} {x4 : Int32} {r1 : Nat} {t0 : Int32}  (hgo : ∀ (L : Nat) (x2 : Int32) (x3 : Int32) (x4 : Int32) (r1 : Nat) (t0 : Int32) (z : ow_MS), fr (pf [58, 59, 60, 61, 62, 63] []) z0 z → (L = 0 ∨ L = 1 ∨ L = 2 ∨ L = 3 ∨ L = 4 ∨ L = 5 ∨ L = 6 ∨ L = 7 ∨ L = 8 ∨ L = 9 → 1000 ≤ r1) → Fo id (pf [58, 59, 60, 61, 62, 63] []) z0 (go L x2 x3 x4 r1 t0 z)) (hz : fr (pf [58, 59, 60, 61, 62, 63] []) z0 z) (hr1 : 1000 ≤ r1) : Fo id (pf [58, 59, 60, 61, 62, 63] []) z0 (qm_X13_makeArcs_4 K go x2 x3 x4 r1 t0 z) := by
  unfold qm_X13_makeArcs_4
  exact (fo_rdI (fun v7 => (fo_if (fo_rdF (fun v8 => (fo_wrF (Or.inl (by decide)) hz (fun z9 h_z9 => (hgo 7 _ _ _ _ _ z9 h_z9 (fun _ => (by first | omega | decide))))))) (fo_rdF (fun v10 => (fo_wrI (Or.inl (by decide)) hz (fun z11 h_z11 => (hgo 4 _ _ _ _ _ z11 h_z11 (fun _ => (by first | omega | decide))))))))))
theorem fb_X13_makeArcs_5 {K : Nat} {z0 z : ow_MS}  {go : Nat → Int32 → Int32 → Int32 → Nat → Int32 → ow_MS → Option ow_MS} {x2 : Int32} {x3 : Int32} {x4 : Int32} {r1 : Nat} {t0 : Int32}  (hgo : ∀ (L : Nat) (x2 : Int32) (x3 : Int32) (x4 : Int32) (r1 : Nat) (t0 : Int32) (z : ow_MS), fr (pf [58, 59, 60, 61, 62, 63] []) z0 z → (L = 0 ∨ L = 1 ∨ L = 2 ∨ L = 3 ∨ L = 4 ∨ L = 5 ∨ L = 6 ∨ L = 7 ∨ L = 8 ∨ L = 9 → 1000 ≤ r1) → Fo id (pf [58, 59, 60, 61, 62, 63] []) z0 (go L x2 x3 x4 r1 t0 z)) (hz : fr (pf [58, 59, 60, 61, 62, 63] []) z0 z) (hr1 : 1000 ≤ r1) : Fo id (pf [58, 59, 60, 61, 62, 63] []) z0 (qm_X13_makeArcs_5 K go x2 x3 x4 r1 t0 z) := by
  unfold qm_X13_makeArcs_5
  exact (fo_rdF (fun v12 => (fo_wrI (Or.inl (by decide)) hz (fun z13 h_z13 => (fo_rdI (fun v14 => (hgo 6 _ _ _ _ _ z13 h_z13 (fun _ => (by first | omega | decide)))))))))
theorem fb_X13_makeArcs_6 {K : Nat} {z0 z : ow_MS}  {go : Nat → Int32 → Int32 → Int32 → Nat → Int32 → ow_MS → Option ow_MS} {x2 : Int32} {x3 : Int32} {x4 : Int32} {r1 : Nat} {t0 : Int32}  (hgo : ∀ (L : Nat) (x2 : Int32) (x3 : Int32) (x4 : Int32) (r1 : Nat) (t0 : Int32) (z : ow_MS), fr (pf [58, 59, 60, 61, 62, 63] []) z0 z → (L = 0 ∨ L = 1 ∨ L = 2 ∨ L = 3 ∨ L = 4 ∨ L = 5 ∨ L = 6 ∨ L = 7 ∨ L = 8 ∨ L = 9 → 1000 ≤ r1) → Fo id (pf [58, 59, 60, 61, 62, 63] []) z0 (go L x2 x3 x4 r1 t0 z)) (hz : fr (pf [58, 59, 60, 61, 62, 63] []) z0 z) (hr1 : 1000 ≤ r1) : Fo id (pf [58, 59, 60, 61, 62, 63] []) z0 (qm_X13_makeArcs_6 K go x2 x3 x4 r1 t0 z) := by
  unfold qm_X13_makeArcs_6
  exact (fo_rdI (fun v15 => (fo_if (fo_rdF (fun v20 => (fo_wrI (Or.inl (by decide)) hz (fun z21 h_z21 => (fo_rdI (fun v22 => (hgo 6 _ _ _ _ _ z21 h_z21 (fun _ => (by first | omega | decide))))))))) (fo_rdF (fun v16 => (fo_wrI (Or.inl (by decide)) hz (fun z17 h_z17 => (fo_rdF (fun v18 => (fo_wrF (Or.inl (by decide)) h_z17 (fun z19 h_z19 => (fo_if (hgo 7 _ _ _ _ _ z19 h_z19 (fun _ => (by first | omega | decide))) (hgo 5 _ _ _ _ _ z19 h_z19 (fun _ => (by first | omega | decide)))))))))))))))
theorem fb_X13_makeArcs_7 {K : Nat} {z0 z : ow_MS}  {go : Nat → Int32 → Int32 → Int32 → Nat → Int32 → ow_MS → Option ow_MS} {x2 : Int32} {x3 : Int32} {x4 : Int32} {r1 : Nat} {t0 : Int32}  (hgo : ∀ (L : Nat) (x2 : Int32) (x3 : Int32) (x4 : Int32) (r1 : Nat) (t0 : Int32) (z : ow_MS), fr (pf [58, 59, 60, 61, 62, 63] []) z0 z → (L = 0 ∨ L = 1 ∨ L = 2 ∨ L = 3 ∨ L = 4 ∨ L = 5 ∨ L = 6 ∨ L = 7 ∨ L = 8 ∨ L = 9 → 1000 ≤ r1) → Fo id (pf [58, 59, 60, 61, 62, 63] []) z0 (go L x2 x3 x4 r1 t0 z)) (hz : fr (pf [58, 59, 60, 61, 62, 63] []) z0 z) (hr1 : 1000 ≤ r1) : Fo id (pf [58, 59, 60, 61, 62, 63] []) z0 (qm_X13_makeArcs_7 K go x2 x3 x4 r1 t0 z) := by
  unfold qm_X13_makeArcs_7
  exact (hgo 1 _ _ _ _ _ z hz (fun _ => (by first | omega | decide)))
theorem fb_X13_makeArcs_8 {K : Nat} {z0 z : ow_MS}  {go : Nat → Int32 → Int32 → Int32 → Nat → Int32 → ow_MS → Option ow_MS} {x2 : Int32} {x3 : Int32} {x4 : Int32} {r1 : Nat} {t0 : Int32}  (hgo : ∀ (L : Nat) (x2 : Int32) (x3 : Int32) (x4 : Int32) (r1 : Nat) (t0 : Int32) (z : ow_MS), fr (pf [58, 59, 60, 61, 62, 63] []) z0 z → (L = 0 ∨ L = 1 ∨ L = 2 ∨ L = 3 ∨ L = 4 ∨ L = 5 ∨ L = 6 ∨ L = 7 ∨ L = 8 ∨ L = 9 → 1000 ≤ r1) → Fo id (pf [58, 59, 60, 61, 62, 63] []) z0 (go L x2 x3 x4 r1 t0 z)) (hz : fr (pf [58, 59, 60, 61, 62, 63] []) z0 z) (hr1 : 1000 ≤ r1) : Fo id (pf [58, 59, 60, 61, 62, 63] []) z0 (qm_X13_makeArcs_8 K go x2 x3 x4 r1 t0 z) := by
  unfold qm_X13_makeArcs_8
  exact (fo_rdF (fun v23 => (fo_if (fo_some hz) (fo_rdI (fun v24 => (fo_rdI (fun v25 => (fo_if (fo_rdI (fun v30 => (fo_wrI (Or.inl (by decide)) hz (fun z31 h_z31 => (hgo 9 _ _ _ _ _ z31 h_z31 (fun _ => (by first | omega | decide))))))) (fo_rdI (fun v26 => (fo_wrI (Or.inl (by decide)) hz (fun z27 h_z27 => (fo_rdI (fun v28 => (fo_wrI (Or.inl (by decide)) h_z27 (fun z29 h_z29 => (hgo 9 _ _ _ _ _ z29 h_z29 (fun _ => (by first | omega | decide)))))))))))))))))))
theorem fb_X13_makeArcs_9 {K : Nat} {z0 z : ow_MS}  {go : Nat → Int32 → Int32 → Int32 → Nat → Int32 → ow_MS → Option ow_MS} {x2 : Int32} {x3 : Int32} {x4 : Int32} {r1 : Nat} {t0 : Int32}  (hgo : ∀ (L : Nat) (x2 : Int32) (x3 : Int32) (x4 : Int32) (r1 : Nat) (t0 : Int32) (z : ow_MS), fr (pf [58, 59, 60, 61, 62, 63] []) z0 z → (L = 0 ∨ L = 1 ∨ L = 2 ∨ L = 3 ∨ L = 4 ∨ L = 5 ∨ L = 6 ∨ L = 7 ∨ L = 8 ∨ L = 9 → 1000 ≤ r1) → Fo id (pf [58, 59, 60, 61, 62, 63] []) z0 (go L x2 x3 x4 r1 t0 z)) (hz : fr (pf [58, 59, 60, 61, 62, 63] []) z0 z) (hr1 : 1000 ≤ r1) : Fo id (pf [58, 59, 60, 61, 62, 63] []) z0 (qm_X13_makeArcs_9 K go x2 x3 x4 r1 t0 z) := by
  unfold qm_X13_makeArcs_9
  exact (hgo 8 _ _ _ _ _ z hz (fun _ => (by first | omega | decide)))
theorem fq_X13_makeArcs {K : Nat} {z0 : ow_MS}   : ∀ (k L : Nat) (x2 : Int32) (x3 : Int32) (x4 : Int32) (r1 : Nat) (t0 : Int32) (z : ow_MS), fr (pf [58, 59, 60, 61, 62, 63] []) z0 z → (L = 0 ∨ L = 1 ∨ L = 2 ∨ L = 3 ∨ L = 4 ∨ L = 5 ∨ L = 6 ∨ L = 7 ∨ L = 8 ∨ L = 9 → 1000 ≤ r1) → Fo id (pf [58, 59, 60, 61, 62, 63] []) z0 (q_X13_makeArcs K k L x2 x3 x4 r1 t0 z)
  | 0 => by
    intros
    exact fo_none
  | k + 1 => by
    intro L x2 x3 x4 r1 t0 z hz h9_r1
    show Fo id (pf [58, 59, 60, 61, 62, 63] []) z0 (qb_X13_makeArcs K (q_X13_makeArcs K k) L x2 x3 x4 r1 t0 z)
    unfold qb_X13_makeArcs
    split
    · exact fb_X13_makeArcs_0 (fq_X13_makeArcs k) hz (h9_r1 (by decide))
    · exact fb_X13_makeArcs_1 (fq_X13_makeArcs k) hz (h9_r1 (by decide))
    · exact fb_X13_makeArcs_2 (fq_X13_makeArcs k) hz (h9_r1 (by decide))
    · exact fb_X13_makeArcs_3 (fq_X13_makeArcs k) hz (h9_r1 (by decide))
    · exact fb_X13_makeArcs_4 (fq_X13_makeArcs k) hz (h9_r1 (by decide))
    · exact fb_X13_makeArcs_5 (fq_X13_makeArcs k) hz (h9_r1 (by decide))
    · exact fb_X13_makeArcs_6 (fq_X13_makeArcs k) hz (h9_r1 (by decide))
    · exact fb_X13_makeArcs_7 (fq_X13_makeArcs k) hz (h9_r1 (by decide))
    · exact fb_X13_makeArcs_8 (fq_X13_makeArcs k) hz (h9_r1 (by decide))
    · exact fb_X13_makeArcs_9 (fq_X13_makeArcs k) hz (h9_r1 (by decide))
    · exact fo_none
theorem ff_X13_makeArcs {K : Nat} {r1 : Nat} {z : ow_MS} (hr1 : 1000 ≤ r1) : Fo id (pf [58, 59, 60, 61, 62, 63] []) z (qe_X13_makeArcs K r1 z) := fq_X13_makeArcs K 0 _ _ _ _ _ z fr_rf (fun _ => (by first | omega | decide))
theorem fb_X13_unit_0 {K : Nat} {z0 z : ow_MS}  {go : Nat → Int32 → Int32 → Int32 → Int32 → Int32 → Int32 → ow_MS → Option (Int32 × ow_MS)} {x1 : Int32} {x2 : Int32} {x3 : Int32} {x4 : Int32} {x5 : Int32} {x6 : Int32}  (hgo : ∀ (L : Nat) (x1 : Int32) (x2 : Int32) (x3 : Int32) (x4 : Int32) (x5 : Int32) (x6 : Int32) (z : ow_MS), fr (pf [64] []) z0 z → Fo Prod.snd (pf [64] []) z0 (go L x1 x2 x3 x4 x5 x6 z)) (hz : fr (pf [64] []) z0 z)  : Fo Prod.snd (pf [64] []) z0 (qm_X13_unit_0 K go x1 x2 x3 x4 x5 x6 z) := by
  unfold qm_X13_unit_0
  exact (hgo 1 _ _ _ _ _ _ z hz)
theorem fb_X13_unit_1 {K : Nat} {z0 z : ow_MS}  {go : Nat → Int32 → Int32 → Int32 → Int32 → Int32 → Int32 → ow_MS → Option (Int32 × ow_MS)} {x1 : Int32} {x2 : Int32} {x3 : Int32} {x4 : Int32} {x5 : Int32} {x6 : Int32}  (hgo : ∀ (L : Nat) (x1 : Int32) (x2 : Int32) (x3 : Int32) (x4 : Int32) (x5 : Int32) (x6 : Int32) (z : ow_MS), fr (pf [64] []) z0 z → Fo Prod.snd (pf [64] []) z0 (go L x1 x2 x3 x4 x5 x6 z)) (hz : fr (pf [64] []) z0 z)  : Fo Prod.snd (pf [64] []) z0 (qm_X13_unit_1 K go x1 x2 x3 x4 x5 x6 z) := by
  unfold qm_X13_unit_1
  exact (fo_if (hgo 5 _ _ _ _ _ _ z hz) (fo_if (hgo 2 _ _ _ _ _ _ z hz) (hgo 5 _ _ _ _ _ _ z hz)))
theorem fb_X13_unit_2 {K : Nat} {z0 z : ow_MS}  {go : Nat → Int32 → Int32 → Int32 → Int32 → Int32 → Int32 → ow_MS → Option (Int32 × ow_MS)} {x1 : Int32} {x2 : Int32} {x3 : Int32} {x4 : Int32} {x5 : Int32} {x6 : Int32}  (hgo : ∀ (L : Nat) (x1 : Int32) (x2 : Int32) (x3 : Int32) (x4 : Int32) (x5 : Int32) (x6 : Int32) (z : ow_MS), fr (pf [64] []) z0 z → Fo Prod.snd (pf [64] []) z0 (go L x1 x2 x3 x4 x5 x6 z)) (hz : fr (pf [64] []) z0 z)  : Fo Prod.snd (pf [64] []) z0 (qm_X13_unit_2 K go x1 x2 x3 x4 x5 x6 z) := by
  unfold qm_X13_unit_2
  exact (fo_rdF (fun v1 => (fo_if (hgo 4 _ _ _ _ _ _ z hz) (fo_if (fo_rdJ (fun v2 => (fo_if (hgo 3 _ _ _ _ _ _ z hz) (hgo 3 _ _ _ _ _ _ z hz)))) (hgo 4 _ _ _ _ _ _ z hz)))))
theorem fb_X13_unit_3 {K : Nat} {z0 z : ow_MS}  {go : Nat → Int32 → Int32 → Int32 → Int32 → Int32 → Int32 → ow_MS → Option (Int32 × ow_MS)} {x1 : Int32} {x2 : Int32} {x3 : Int32} {x4 : Int32} {x5 : Int32} {x6 : Int32}  (hgo : ∀ (L : Nat) (x1 : Int32) (x2 : Int32) (x3 : Int32) (x4 : Int32) (x5 : Int32) (x6 : Int32) (z : ow_MS), fr (pf [64] []) z0 z → Fo Prod.snd (pf [64] []) z0 (go L x1 x2 x3 x4 x5 x6 z)) (hz : fr (pf [64] []) z0 z)  : Fo Prod.snd (pf [64] []) z0 (qm_X13_unit_3 K go x1 x2 x3 x4 x5 x6 z) := by
  unfold qm_X13_unit_3
  exact (hgo 2 _ _ _ _ _ _ z hz)
theorem fb_X13_unit_4 {K : Nat} {z0 z : ow_MS}  {go : Nat → Int32 → Int32 → Int32 → Int32 → Int32 → Int32 → ow_MS → Option (Int32 × ow_MS)} {x1 : Int32} {x2 : Int32} {x3 : Int32} {x4 : Int32} {x5 : Int32} {x6 : Int32}  (hgo : ∀ (L : Nat) (x1 : Int32) (x2 : Int32) (x3 : Int32) (x4 : Int32) (x5 : Int32) (x6 : Int32) (z : ow_MS), fr (pf [64] []) z0 z → Fo Prod.snd (pf [64] []) z0 (go L x1 x2 x3 x4 x5 x6 z)) (hz : fr (pf [64] []) z0 z)  : Fo Prod.snd (pf [64] []) z0 (qm_X13_unit_4 K go x1 x2 x3 x4 x5 x6 z) := by
  unfold qm_X13_unit_4
  exact (hgo 1 _ _ _ _ _ _ z hz)
theorem fb_X13_unit_5 {K : Nat} {z0 z : ow_MS}  {go : Nat → Int32 → Int32 → Int32 → Int32 → Int32 → Int32 → ow_MS → Option (Int32 × ow_MS)} {x1 : Int32} {x2 : Int32} {x3 : Int32} {x4 : Int32} {x5 : Int32} {x6 : Int32}  (hgo : ∀ (L : Nat) (x1 : Int32) (x2 : Int32) (x3 : Int32) (x4 : Int32) (x5 : Int32) (x6 : Int32) (z : ow_MS), fr (pf [64] []) z0 z → Fo Prod.snd (pf [64] []) z0 (go L x1 x2 x3 x4 x5 x6 z)) (hz : fr (pf [64] []) z0 z)  : Fo Prod.snd (pf [64] []) z0 (qm_X13_unit_5 K go x1 x2 x3 x4 x5 x6 z) := by
  unfold qm_X13_unit_5
  exact (fo_if (fo_okZ (fo_some hz)) (hgo 6 _ _ _ _ _ _ z hz))
theorem fb_X13_unit_6 {K : Nat} {z0 z : ow_MS}  {go : Nat → Int32 → Int32 → Int32 → Int32 → Int32 → Int32 → ow_MS → Option (Int32 × ow_MS)} {x1 : Int32} {x2 : Int32} {x3 : Int32} {x4 : Int32} {x5 : Int32} {x6 : Int32}  (hgo : ∀ (L : Nat) (x1 : Int32) (x2 : Int32) (x3 : Int32) (x4 : Int32) (x5 : Int32) (x6 : Int32) (z : ow_MS), fr (pf [64] []) z0 z → Fo Prod.snd (pf [64] []) z0 (go L x1 x2 x3 x4 x5 x6 z)) (hz : fr (pf [64] []) z0 z)  : Fo Prod.snd (pf [64] []) z0 (qm_X13_unit_6 K go x1 x2 x3 x4 x5 x6 z) := by
  unfold qm_X13_unit_6
  exact (fo_rdF (fun v3 => (fo_if (hgo 7 _ _ _ _ _ _ z hz) (fo_rdJ (fun v4 => (fo_rdJ (fun v5 => (fo_wrJ (Or.inl (by decide)) hz (fun z6 h_z6 => (fo_wrJ (Or.inl (by decide)) h_z6 (fun z7 h_z7 => (hgo 6 _ _ _ _ _ _ z7 h_z7))))))))))))
theorem fb_X13_unit_7 {K : Nat} {z0 z : ow_MS}  {go : Nat → Int32 → Int32 → Int32 → Int32 → Int32 → Int32 → ow_MS → Option (Int32 × ow_MS)} {x1 : Int32} {x2 : Int32} {x3 : Int32} {x4 : Int32} {x5 : Int32} {x6 : Int32}  (hgo : ∀ (L : Nat) (x1 : Int32) (x2 : Int32) (x3 : Int32) (x4 : Int32) (x5 : Int32) (x6 : Int32) (z : ow_MS), fr (pf [64] []) z0 z → Fo Prod.snd (pf [64] []) z0 (go L x1 x2 x3 x4 x5 x6 z)) (hz : fr (pf [64] []) z0 z)  : Fo Prod.snd (pf [64] []) z0 (qm_X13_unit_7 K go x1 x2 x3 x4 x5 x6 z) := by
  unfold qm_X13_unit_7
  exact (fo_if (fo_okZ (fo_some hz)) (fo_rdJ (fun v8 => (fo_rdJ (fun v9 => (fo_wrJ (Or.inl (by decide)) hz (fun z10 h_z10 => (fo_wrJ (Or.inl (by decide)) h_z10 (fun z11 h_z11 => (hgo 7 _ _ _ _ _ _ z11 h_z11))))))))))
theorem fq_X13_unit {K : Nat} {z0 : ow_MS}   : ∀ (k L : Nat) (x1 : Int32) (x2 : Int32) (x3 : Int32) (x4 : Int32) (x5 : Int32) (x6 : Int32) (z : ow_MS), fr (pf [64] []) z0 z → Fo Prod.snd (pf [64] []) z0 (q_X13_unit K k L x1 x2 x3 x4 x5 x6 z)
  | 0 => by
    intros
    exact fo_none
  | k + 1 => by
    intro L x1 x2 x3 x4 x5 x6 z hz 
    show Fo Prod.snd (pf [64] []) z0 (qb_X13_unit K (q_X13_unit K k) L x1 x2 x3 x4 x5 x6 z)
    unfold qb_X13_unit
    split
    · exact fb_X13_unit_0 (fq_X13_unit k) hz 
    · exact fb_X13_unit_1 (fq_X13_unit k) hz 
    · exact fb_X13_unit_2 (fq_X13_unit k) hz 
    · exact fb_X13_unit_3 (fq_X13_unit k) hz 
    · exact fb_X13_unit_4 (fq_X13_unit k) hz 
    · exact fb_X13_unit_5 (fq_X13_unit k) hz 
    · exact fb_X13_unit_6 (fq_X13_unit k) hz 
    · exact fb_X13_unit_7 (fq_X13_unit k) hz 
    · exact fo_none
theorem ff_X13_unit {K : Nat} {x1 : Int32} {x2 : Int32} {z : ow_MS}  : Fo Prod.snd (pf [64] []) z (qe_X13_unit K x1 x2 z) := fq_X13_unit K 0 _ _ _ _ _ _ z fr_rf 
theorem fb_X13_leave_0 {K : Nat} {z0 z : ow_MS}  {go : Nat → Int32 → Int32 → Int32 → Int32 → Int32 → Int32 → Int32 → ow_MS → Option ow_MS} {x1 : Int32} {x2 : Int32} {x3 : Int32} {x4 : Int32} {x5 : Int32} {t0 : Int32} {t1 : Int32}  (hgo : ∀ (L : Nat) (x1 : Int32) (x2 : Int32) (x3 : Int32) (x4 : Int32) (x5 : Int32) (t0 : Int32) (t1 : Int32) (z : ow_MS), fr (pf [68, 69, 70, 71] []) z0 z → Fo id (pf [68, 69, 70, 71] []) z0 (go L x1 x2 x3 x4 x5 t0 t1 z)) (hz : fr (pf [68, 69, 70, 71] []) z0 z)  : Fo id (pf [68, 69, 70, 71] []) z0 (qm_X13_leave_0 K go x1 x2 x3 x4 x5 t0 t1 z) := by
  unfold qm_X13_leave_0
  exact (fo_wrF (Or.inl (by decide)) hz (fun z1 h_z1 => (hgo 1 _ _ _ _ _ _ _ z1 h_z1)))
theorem fb_X13_leave_1 {K : Nat} {z0 z : ow_MS}  {go : Nat → Int32 → Int32 → Int32 → Int32 → Int32 → Int32 → Int32 → ow_MS → Option ow_MS} {x1 : Int32} {x2 : Int32} {x3 : Int32} {x4 : Int32} {x5 : Int32} {t0 : Int32} {t1 : Int32}  (hgo : ∀ (L : Nat) (x1 : Int32) (x2 : Int32) (x3 : Int32) (x4 : Int32) (x5 : Int32) (t0 : Int32) (t1 : Int32) (z : ow_MS), fr (pf [68, 69, 70, 71] []) z0 z → Fo id (pf [68, 69, 70, 71] []) z0 (go L x1 x2 x3 x4 x5 t0 t1 z)) (hz : fr (pf [68, 69, 70, 71] []) z0 z)  : Fo id (pf [68, 69, 70, 71] []) z0 (qm_X13_leave_1 K go x1 x2 x3 x4 x5 t0 t1 z) := by
  unfold qm_X13_leave_1
  exact (fo_if (fo_wrF (Or.inl (by decide)) hz (fun z2 h_z2 => (hgo 5 _ _ _ _ _ _ _ z2 h_z2))) (hgo 2 _ _ _ _ _ _ _ z hz))
theorem fb_X13_leave_2 {K : Nat} {z0 z : ow_MS}  {go : Nat → Int32 → Int32 → Int32 → Int32 → Int32 → Int32 → Int32 → ow_MS → Option ow_MS} {x1 : Int32} {x2 : Int32} {x3 : Int32} {x4 : Int32} {x5 : Int32} {t0 : Int32} {t1 : Int32}  (hgo : ∀ (L : Nat) (x1 : Int32) (x2 : Int32) (x3 : Int32) (x4 : Int32) (x5 : Int32) (t0 : Int32) (t1 : Int32) (z : ow_MS), fr (pf [68, 69, 70, 71] []) z0 z → Fo id (pf [68, 69, 70, 71] []) z0 (go L x1 x2 x3 x4 x5 t0 t1 z)) (hz : fr (pf [68, 69, 70, 71] []) z0 z)  : Fo id (pf [68, 69, 70, 71] []) z0 (qm_X13_leave_2 K go x1 x2 x3 x4 x5 t0 t1 z) := by
  unfold qm_X13_leave_2
  exact (fo_rdF (fun v3 => (fo_if (fo_if (hgo 4 _ _ _ _ _ _ _ z hz) (fo_rdF (fun v4 => (fo_wrI (Or.inl (by decide)) hz (fun z5 h_z5 => (fo_rdF (fun v6 => (fo_wrF (Or.inl (by decide)) h_z5 (fun z7 h_z7 => (hgo 4 _ _ _ _ _ _ _ z7 h_z7)))))))))) (fo_rdJ (fun v8 => (fo_if (hgo 3 _ _ _ _ _ _ _ z hz) (hgo 3 _ _ _ _ _ _ _ z hz)))))))
theorem fb_X13_leave_3 {K : Nat} {z0 z : ow_MS}  {go : Nat → Int32 → Int32 → Int32 → Int32 → Int32 → Int32 → Int32 → ow_MS → Option ow_MS} {x1 : Int32} {x2 : Int32} {x3 : Int32} {x4 : Int32} {x5 : Int32} {t0 : Int32} {t1 : Int32}  (hgo : ∀ (L : Nat) (x1 : Int32) (x2 : Int32) (x3 : Int32) (x4 : Int32) (x5 : Int32) (t0 : Int32) (t1 : Int32) (z : ow_MS), fr (pf [68, 69, 70, 71] []) z0 z → Fo id (pf [68, 69, 70, 71] []) z0 (go L x1 x2 x3 x4 x5 t0 t1 z)) (hz : fr (pf [68, 69, 70, 71] []) z0 z)  : Fo id (pf [68, 69, 70, 71] []) z0 (qm_X13_leave_3 K go x1 x2 x3 x4 x5 t0 t1 z) := by
  unfold qm_X13_leave_3
  exact (hgo 2 _ _ _ _ _ _ _ z hz)
theorem fb_X13_leave_4 {K : Nat} {z0 z : ow_MS}  {go : Nat → Int32 → Int32 → Int32 → Int32 → Int32 → Int32 → Int32 → ow_MS → Option ow_MS} {x1 : Int32} {x2 : Int32} {x3 : Int32} {x4 : Int32} {x5 : Int32} {t0 : Int32} {t1 : Int32}  (hgo : ∀ (L : Nat) (x1 : Int32) (x2 : Int32) (x3 : Int32) (x4 : Int32) (x5 : Int32) (t0 : Int32) (t1 : Int32) (z : ow_MS), fr (pf [68, 69, 70, 71] []) z0 z → Fo id (pf [68, 69, 70, 71] []) z0 (go L x1 x2 x3 x4 x5 t0 t1 z)) (hz : fr (pf [68, 69, 70, 71] []) z0 z)  : Fo id (pf [68, 69, 70, 71] []) z0 (qm_X13_leave_4 K go x1 x2 x3 x4 x5 t0 t1 z) := by
  unfold qm_X13_leave_4
  exact (hgo 1 _ _ _ _ _ _ _ z hz)
theorem fb_X13_leave_5 {K : Nat} {z0 z : ow_MS}  {go : Nat → Int32 → Int32 → Int32 → Int32 → Int32 → Int32 → Int32 → ow_MS → Option ow_MS} {x1 : Int32} {x2 : Int32} {x3 : Int32} {x4 : Int32} {x5 : Int32} {t0 : Int32} {t1 : Int32}  (hgo : ∀ (L : Nat) (x1 : Int32) (x2 : Int32) (x3 : Int32) (x4 : Int32) (x5 : Int32) (t0 : Int32) (t1 : Int32) (z : ow_MS), fr (pf [68, 69, 70, 71] []) z0 z → Fo id (pf [68, 69, 70, 71] []) z0 (go L x1 x2 x3 x4 x5 t0 t1 z)) (hz : fr (pf [68, 69, 70, 71] []) z0 z)  : Fo id (pf [68, 69, 70, 71] []) z0 (qm_X13_leave_5 K go x1 x2 x3 x4 x5 t0 t1 z) := by
  unfold qm_X13_leave_5
  exact (fo_rdF (fun v9 => (fo_if (fo_some hz) (hgo 6 _ _ _ _ _ _ _ z hz))))
theorem fb_X13_leave_6 {K : Nat} {z0 z : ow_MS}  {go : Nat → Int32 → Int32 → Int32 → Int32 → Int32 → Int32 → Int32 → ow_MS → Option ow_MS} {x1 : Int32} {x2 : Int32} {x3 : Int32} {x4 : Int32} {x5 : Int32} {t0 : Int32} {t1 : Int32}  (hgo : ∀ (L : Nat) (x1 : Int32) (x2 : Int32) (x3 : Int32) (x4 : Int32) (x5 : Int32) (t0 : Int32) (t1 : Int32) (z : ow_MS), fr (pf [68, 69, 70, 71] []) z0 z → Fo id (pf [68, 69, 70, 71] []) z0 (go L x1 x2 x3 x4 x5 t0 t1 z)) (hz : fr (pf [68, 69, 70, 71] []) z0 z)  : Fo id (pf [68, 69, 70, 71] []) z0 (qm_X13_leave_6 K go x1 x2 x3 x4 x5 t0 t1 z) := by
  unfold qm_X13_leave_6
  exact (fo_if (fo_if (hgo 8 _ _ _ _ _ _ _ z hz) (fo_rdF (fun v10 => (fo_wrI (Or.inl (by decide)) hz (fun z11 h_z11 => (fo_rdF (fun v12 => (fo_wrF (Or.inl (by decide)) h_z11 (fun z13 h_z13 => (hgo 8 _ _ _ _ _ _ _ z13 h_z13)))))))))) (fo_rdJ (fun v14 => (fo_if (hgo 7 _ _ _ _ _ _ _ z hz) (hgo 7 _ _ _ _ _ _ _ z hz)))))
theorem fb_X13_leave_7 {K : Nat} {z0 z : ow_MS}  {go : Nat → Int32 → Int32 → Int32 → Int32 → Int32 → Int32 → Int32 → ow_MS → Option ow_MS} {x1 : Int32} {x2 : Int32} {x3 : Int32} {x4 : Int32} {x5 : Int32} {t0 : Int32} {t1 : Int32}  (hgo : ∀ (L : Nat) (x1 : Int32) (x2 : Int32) (x3 : Int32) (x4 : Int32) (x5 : Int32) (t0 : Int32) (t1 : Int32) (z : ow_MS), fr (pf [68, 69, 70, 71] []) z0 z → Fo id (pf [68, 69, 70, 71] []) z0 (go L x1 x2 x3 x4 x5 t0 t1 z)) (hz : fr (pf [68, 69, 70, 71] []) z0 z)  : Fo id (pf [68, 69, 70, 71] []) z0 (qm_X13_leave_7 K go x1 x2 x3 x4 x5 t0 t1 z) := by
  unfold qm_X13_leave_7
  exact (hgo 6 _ _ _ _ _ _ _ z hz)
theorem fb_X13_leave_8 {K : Nat} {z0 z : ow_MS}  {go : Nat → Int32 → Int32 → Int32 → Int32 → Int32 → Int32 → Int32 → ow_MS → Option ow_MS} {x1 : Int32} {x2 : Int32} {x3 : Int32} {x4 : Int32} {x5 : Int32} {t0 : Int32} {t1 : Int32}  (hgo : ∀ (L : Nat) (x1 : Int32) (x2 : Int32) (x3 : Int32) (x4 : Int32) (x5 : Int32) (t0 : Int32) (t1 : Int32) (z : ow_MS), fr (pf [68, 69, 70, 71] []) z0 z → Fo id (pf [68, 69, 70, 71] []) z0 (go L x1 x2 x3 x4 x5 t0 t1 z)) (hz : fr (pf [68, 69, 70, 71] []) z0 z)  : Fo id (pf [68, 69, 70, 71] []) z0 (qm_X13_leave_8 K go x1 x2 x3 x4 x5 t0 t1 z) := by
  unfold qm_X13_leave_8
  exact (hgo 5 _ _ _ _ _ _ _ z hz)
theorem fq_X13_leave {K : Nat} {z0 : ow_MS}   : ∀ (k L : Nat) (x1 : Int32) (x2 : Int32) (x3 : Int32) (x4 : Int32) (x5 : Int32) (t0 : Int32) (t1 : Int32) (z : ow_MS), fr (pf [68, 69, 70, 71] []) z0 z → Fo id (pf [68, 69, 70, 71] []) z0 (q_X13_leave K k L x1 x2 x3 x4 x5 t0 t1 z)
  | 0 => by
    intros
    exact fo_none
  | k + 1 => by
    intro L x1 x2 x3 x4 x5 t0 t1 z hz 
    show Fo id (pf [68, 69, 70, 71] []) z0 (qb_X13_leave K (q_X13_leave K k) L x1 x2 x3 x4 x5 t0 t1 z)
    unfold qb_X13_leave
    split
    · exact fb_X13_leave_0 (fq_X13_leave k) hz 
    · exact fb_X13_leave_1 (fq_X13_leave k) hz 
    · exact fb_X13_leave_2 (fq_X13_leave k) hz 
    · exact fb_X13_leave_3 (fq_X13_leave k) hz 
    · exact fb_X13_leave_4 (fq_X13_leave k) hz 
    · exact fb_X13_leave_5 (fq_X13_leave k) hz 
    · exact fb_X13_leave_6 (fq_X13_leave k) hz 
    · exact fb_X13_leave_7 (fq_X13_leave k) hz 
    · exact fb_X13_leave_8 (fq_X13_leave k) hz 
    · exact fo_none
theorem ff_X13_leave {K : Nat} {x1 : Int32} {x2 : Int32} {z : ow_MS}  : Fo id (pf [68, 69, 70, 71] []) z (qe_X13_leave K x1 x2 z) := fq_X13_leave K 0 _ _ _ _ _ _ _ z fr_rf 
theorem fb_X13_minor_0 {K : Nat} {z0 z : ow_MS}  {go : Nat → Int32 → Int32 → Int32 → Int32 → Int32 → Int32 → Int32 → Int32 → Int32 → Int32 → Int64 → ow_MS → Option (Int64 × ow_MS)} {x1 : Int32} {x2 : Int32} {x3 : Int32} {x4 : Int32} {x5 : Int32} {x6 : Int32} {x7 : Int32} {x8 : Int32} {x9 : Int32} {x10 : Int32} {w5 : Int64}  (hgo : ∀ (L : Nat) (x1 : Int32) (x2 : Int32) (x3 : Int32) (x4 : Int32) (x5 : Int32) (x6 : Int32) (x7 : Int32) (x8 : Int32) (x9 : Int32) (x10 : Int32) (w5 : Int64) (z : ow_MS), fr (pf [72] []) z0 z → Fo Prod.snd (pf [72] []) z0 (go L x1 x2 x3 x4 x5 x6 x7 x8 x9 x10 w5 z)) (hz : fr (pf [72] []) z0 z)  : Fo Prod.snd (pf [72] []) z0 (qm_X13_minor_0 K go x1 x2 x3 x4 x5 x6 x7 x8 x9 x10 w5 z) := by
  unfold qm_X13_minor_0
  exact (hgo 1 _ _ _ _ _ _ _ _ _ _ _ z hz)
theorem fb_X13_minor_1 {K : Nat} {z0 z : ow_MS}  {go : Nat → Int32 → Int32 → Int32 → Int32 → Int32 → Int32 → Int32 → Int32 → Int32 → Int32 → Int64 → ow_MS → Option (Int64 × ow_MS)} {x1 : Int32} {x2 : Int32} {x3 : Int32} {x4 : Int32} {x5 : Int32} {x6 : Int32} {x7 : Int32} {x8 : Int32} {x9 : Int32} {x10 : Int32} {w5 : Int64}  (hgo : ∀ (L : Nat) (x1 : Int32) (x2 : Int32) (x3 : Int32) (x4 : Int32) (x5 : Int32) (x6 : Int32) (x7 : Int32) (x8 : Int32) (x9 : Int32) (x10 : Int32) (w5 : Int64) (z : ow_MS), fr (pf [72] []) z0 z → Fo Prod.snd (pf [72] []) z0 (go L x1 x2 x3 x4 x5 x6 x7 x8 x9 x10 w5 z)) (hz : fr (pf [72] []) z0 z)  : Fo Prod.snd (pf [72] []) z0 (qm_X13_minor_1 K go x1 x2 x3 x4 x5 x6 x7 x8 x9 x10 w5 z) := by
  unfold qm_X13_minor_1
  exact (fo_rdF (fun v1 => (fo_if (hgo 5 _ _ _ _ _ _ _ _ _ _ _ z hz) (fo_if (hgo 2 _ _ _ _ _ _ _ _ _ _ _ z hz) (hgo 4 _ _ _ _ _ _ _ _ _ _ _ z hz)))))
theorem fb_X13_minor_2 {K : Nat} {z0 z : ow_MS}  {go : Nat → Int32 → Int32 → Int32 → Int32 → Int32 → Int32 → Int32 → Int32 → Int32 → Int32 → Int64 → ow_MS → Option (Int64 × ow_MS)} {x1 : Int32} {x2 : Int32} {x3 : Int32} {x4 : Int32} {x5 : Int32} {x6 : Int32} {x7 : Int32} {x8 : Int32} {x9 : Int32} {x10 : Int32} {w5 : Int64}  (hgo : ∀ (L : Nat) (x1 : Int32) (x2 : Int32) (x3 : Int32) (x4 : Int32) (x5 : Int32) (x6 : Int32) (x7 : Int32) (x8 : Int32) (x9 : Int32) (x10 : Int32) (w5 : Int64) (z : ow_MS), fr (pf [72] []) z0 z → Fo Prod.snd (pf [72] []) z0 (go L x1 x2 x3 x4 x5 x6 x7 x8 x9 x10 w5 z)) (hz : fr (pf [72] []) z0 z)  : Fo Prod.snd (pf [72] []) z0 (qm_X13_minor_2 K go x1 x2 x3 x4 x5 x6 x7 x8 x9 x10 w5 z) := by
  unfold qm_X13_minor_2
  exact (fo_rdF (fun v2 => (fo_if (hgo 4 _ _ _ _ _ _ _ _ _ _ _ z hz) (fo_if (fo_rdI (fun v3 => (fo_rdI (fun v4 => (fo_rdJ (fun v5 => (fo_wrJ (Or.inl (by decide)) hz (fun z6 h_z6 => (hgo 3 _ _ _ _ _ _ _ _ _ _ _ z6 h_z6))))))))) (hgo 3 _ _ _ _ _ _ _ _ _ _ _ z hz)))))
theorem fb_X13_minor_3 {K : Nat} {z0 z : ow_MS}  {go : Nat → Int32 → Int32 → Int32 → Int32 → Int32 → Int32 → Int32 → Int32 → Int32 → Int32 → Int64 → ow_MS → Option (Int64 × ow_MS)} {x1 : Int32} {x2 : Int32} {x3 : Int32} {x4 : Int32} {x5 : Int32} {x6 : Int32} {x7 : Int32} {x8 : Int32} {x9 : Int32} {x10 : Int32} {w5 : Int64}  (hgo : ∀ (L : Nat) (x1 : Int32) (x2 : Int32) (x3 : Int32) (x4 : Int32) (x5 : Int32) (x6 : Int32) (x7 : Int32) (x8 : Int32) (x9 : Int32) (x10 : Int32) (w5 : Int64) (z : ow_MS), fr (pf [72] []) z0 z → Fo Prod.snd (pf [72] []) z0 (go L x1 x2 x3 x4 x5 x6 x7 x8 x9 x10 w5 z)) (hz : fr (pf [72] []) z0 z)  : Fo Prod.snd (pf [72] []) z0 (qm_X13_minor_3 K go x1 x2 x3 x4 x5 x6 x7 x8 x9 x10 w5 z) := by
  unfold qm_X13_minor_3
  exact (hgo 2 _ _ _ _ _ _ _ _ _ _ _ z hz)
theorem fb_X13_minor_4 {K : Nat} {z0 z : ow_MS}  {go : Nat → Int32 → Int32 → Int32 → Int32 → Int32 → Int32 → Int32 → Int32 → Int32 → Int32 → Int64 → ow_MS → Option (Int64 × ow_MS)} {x1 : Int32} {x2 : Int32} {x3 : Int32} {x4 : Int32} {x5 : Int32} {x6 : Int32} {x7 : Int32} {x8 : Int32} {x9 : Int32} {x10 : Int32} {w5 : Int64}  (hgo : ∀ (L : Nat) (x1 : Int32) (x2 : Int32) (x3 : Int32) (x4 : Int32) (x5 : Int32) (x6 : Int32) (x7 : Int32) (x8 : Int32) (x9 : Int32) (x10 : Int32) (w5 : Int64) (z : ow_MS), fr (pf [72] []) z0 z → Fo Prod.snd (pf [72] []) z0 (go L x1 x2 x3 x4 x5 x6 x7 x8 x9 x10 w5 z)) (hz : fr (pf [72] []) z0 z)  : Fo Prod.snd (pf [72] []) z0 (qm_X13_minor_4 K go x1 x2 x3 x4 x5 x6 x7 x8 x9 x10 w5 z) := by
  unfold qm_X13_minor_4
  exact (hgo 1 _ _ _ _ _ _ _ _ _ _ _ z hz)
theorem fb_X13_minor_5 {K : Nat} {z0 z : ow_MS}  {go : Nat → Int32 → Int32 → Int32 → Int32 → Int32 → Int32 → Int32 → Int32 → Int32 → Int32 → Int64 → ow_MS → Option (Int64 × ow_MS)} {x1 : Int32} {x2 : Int32} {x3 : Int32} {x4 : Int32} {x5 : Int32} {x6 : Int32} {x7 : Int32} {x8 : Int32} {x9 : Int32} {x10 : Int32} {w5 : Int64}  (hgo : ∀ (L : Nat) (x1 : Int32) (x2 : Int32) (x3 : Int32) (x4 : Int32) (x5 : Int32) (x6 : Int32) (x7 : Int32) (x8 : Int32) (x9 : Int32) (x10 : Int32) (w5 : Int64) (z : ow_MS), fr (pf [72] []) z0 z → Fo Prod.snd (pf [72] []) z0 (go L x1 x2 x3 x4 x5 x6 x7 x8 x9 x10 w5 z)) (hz : fr (pf [72] []) z0 z)  : Fo Prod.snd (pf [72] []) z0 (qm_X13_minor_5 K go x1 x2 x3 x4 x5 x6 x7 x8 x9 x10 w5 z) := by
  unfold qm_X13_minor_5
  exact (fo_if (fo_rdJ (fun v7 => (fo_some hz))) (hgo 6 _ _ _ _ _ _ _ _ _ _ _ z hz))
theorem fb_X13_minor_6 {K : Nat} {z0 z : ow_MS}  {go : Nat → Int32 → Int32 → Int32 → Int32 → Int32 → Int32 → Int32 → Int32 → Int32 → Int32 → Int64 → ow_MS → Option (Int64 × ow_MS)} {x1 : Int32} {x2 : Int32} {x3 : Int32} {x4 : Int32} {x5 : Int32} {x6 : Int32} {x7 : Int32} {x8 : Int32} {x9 : Int32} {x10 : Int32} {w5 : Int64}  (hgo : ∀ (L : Nat) (x1 : Int32) (x2 : Int32) (x3 : Int32) (x4 : Int32) (x5 : Int32) (x6 : Int32) (x7 : Int32) (x8 : Int32) (x9 : Int32) (x10 : Int32) (w5 : Int64) (z : ow_MS), fr (pf [72] []) z0 z → Fo Prod.snd (pf [72] []) z0 (go L x1 x2 x3 x4 x5 x6 x7 x8 x9 x10 w5 z)) (hz : fr (pf [72] []) z0 z)  : Fo Prod.snd (pf [72] []) z0 (qm_X13_minor_6 K go x1 x2 x3 x4 x5 x6 x7 x8 x9 x10 w5 z) := by
  unfold qm_X13_minor_6
  exact (fo_if (hgo 7 _ _ _ _ _ _ _ _ _ _ _ z hz) (fo_rdJ (fun v8 => (fo_if (hgo 6 _ _ _ _ _ _ _ _ _ _ _ z hz) (hgo 7 _ _ _ _ _ _ _ _ _ _ _ z hz)))))
theorem fb_X13_minor_7 {K : Nat} {z0 z : ow_MS}  {go : Nat → Int32 → Int32 → Int32 → Int32 → Int32 → Int32 → Int32 → Int32 → Int32 → Int32 → Int64 → ow_MS → Option (Int64 × ow_MS)} {x1 : Int32} {x2 : Int32} {x3 : Int32} {x4 : Int32} {x5 : Int32} {x6 : Int32} {x7 : Int32} {x8 : Int32} {x9 : Int32} {x10 : Int32} {w5 : Int64}  (hgo : ∀ (L : Nat) (x1 : Int32) (x2 : Int32) (x3 : Int32) (x4 : Int32) (x5 : Int32) (x6 : Int32) (x7 : Int32) (x8 : Int32) (x9 : Int32) (x10 : Int32) (w5 : Int64) (z : ow_MS), fr (pf [72] []) z0 z → Fo Prod.snd (pf [72] []) z0 (go L x1 x2 x3 x4 x5 x6 x7 x8 x9 x10 w5 z)) (hz : fr (pf [72] []) z0 z)  : Fo Prod.snd (pf [72] []) z0 (qm_X13_minor_7 K go x1 x2 x3 x4 x5 x6 x7 x8 x9 x10 w5 z) := by
  unfold qm_X13_minor_7
  exact (fo_if (fo_some hz) (hgo 8 _ _ _ _ _ _ _ _ _ _ _ z hz))
theorem fb_X13_minor_8 {K : Nat} {z0 z : ow_MS}  {go : Nat → Int32 → Int32 → Int32 → Int32 → Int32 → Int32 → Int32 → Int32 → Int32 → Int32 → Int64 → ow_MS → Option (Int64 × ow_MS)} {x1 : Int32} {x2 : Int32} {x3 : Int32} {x4 : Int32} {x5 : Int32} {x6 : Int32} {x7 : Int32} {x8 : Int32} {x9 : Int32} {x10 : Int32} {w5 : Int64}  (hgo : ∀ (L : Nat) (x1 : Int32) (x2 : Int32) (x3 : Int32) (x4 : Int32) (x5 : Int32) (x6 : Int32) (x7 : Int32) (x8 : Int32) (x9 : Int32) (x10 : Int32) (w5 : Int64) (z : ow_MS), fr (pf [72] []) z0 z → Fo Prod.snd (pf [72] []) z0 (go L x1 x2 x3 x4 x5 x6 x7 x8 x9 x10 w5 z)) (hz : fr (pf [72] []) z0 z)  : Fo Prod.snd (pf [72] []) z0 (qm_X13_minor_8 K go x1 x2 x3 x4 x5 x6 x7 x8 x9 x10 w5 z) := by
  unfold qm_X13_minor_8
  exact (fo_if (hgo 9 _ _ _ _ _ _ _ _ _ _ _ z hz) (fo_rdJ (fun v9 => (fo_rdJ (fun v10 => (fo_wrJ (Or.inl (by decide)) hz (fun z11 h_z11 => (fo_wrJ (Or.inl (by decide)) h_z11 (fun z12 h_z12 => (hgo 8 _ _ _ _ _ _ _ _ _ _ _ z12 h_z12))))))))))
theorem fb_X13_minor_9 {K : Nat} {z0 z : ow_MS}  {go : Nat → Int32 → Int32 → Int32 → Int32 → Int32 → Int32 → Int32 → Int32 → Int32 → Int32 → Int64 → ow_MS → Option (Int64 × ow_MS)} {x1 : Int32} {x2 : Int32} {x3 : Int32} {x4 : Int32} {x5 : Int32} {x6 : Int32} {x7 : Int32} {x8 : Int32} {x9 : Int32} {x10 : Int32} {w5 : Int64}  (hgo : ∀ (L : Nat) (x1 : Int32) (x2 : Int32) (x3 : Int32) (x4 : Int32) (x5 : Int32) (x6 : Int32) (x7 : Int32) (x8 : Int32) (x9 : Int32) (x10 : Int32) (w5 : Int64) (z : ow_MS), fr (pf [72] []) z0 z → Fo Prod.snd (pf [72] []) z0 (go L x1 x2 x3 x4 x5 x6 x7 x8 x9 x10 w5 z)) (hz : fr (pf [72] []) z0 z)  : Fo Prod.snd (pf [72] []) z0 (qm_X13_minor_9 K go x1 x2 x3 x4 x5 x6 x7 x8 x9 x10 w5 z) := by
  unfold qm_X13_minor_9
  exact (fo_if (fo_rdJ (fun v13 => (hgo 5 _ _ _ _ _ _ _ _ _ _ _ z hz))) (hgo 10 _ _ _ _ _ _ _ _ _ _ _ z hz))
theorem fb_X13_minor_10 {K : Nat} {z0 z : ow_MS}  {go : Nat → Int32 → Int32 → Int32 → Int32 → Int32 → Int32 → Int32 → Int32 → Int32 → Int32 → Int64 → ow_MS → Option (Int64 × ow_MS)} {x1 : Int32} {x2 : Int32} {x3 : Int32} {x4 : Int32} {x5 : Int32} {x6 : Int32} {x7 : Int32} {x8 : Int32} {x9 : Int32} {x10 : Int32} {w5 : Int64}  (hgo : ∀ (L : Nat) (x1 : Int32) (x2 : Int32) (x3 : Int32) (x4 : Int32) (x5 : Int32) (x6 : Int32) (x7 : Int32) (x8 : Int32) (x9 : Int32) (x10 : Int32) (w5 : Int64) (z : ow_MS), fr (pf [72] []) z0 z → Fo Prod.snd (pf [72] []) z0 (go L x1 x2 x3 x4 x5 x6 x7 x8 x9 x10 w5 z)) (hz : fr (pf [72] []) z0 z)  : Fo Prod.snd (pf [72] []) z0 (qm_X13_minor_10 K go x1 x2 x3 x4 x5 x6 x7 x8 x9 x10 w5 z) := by
  unfold qm_X13_minor_10
  exact (fo_if (hgo 9 _ _ _ _ _ _ _ _ _ _ _ z hz) (fo_rdJ (fun v14 => (fo_rdJ (fun v15 => (fo_rdJ (fun v16 => (fo_rdJ (fun v17 => (fo_nzJ (fo_wrJ (Or.inl (by decide)) hz (fun z18 h_z18 => (hgo 10 _ _ _ _ _ _ _ _ _ _ _ z18 h_z18)))))))))))))
theorem fq_X13_minor {K : Nat} {z0 : ow_MS}   : ∀ (k L : Nat) (x1 : Int32) (x2 : Int32) (x3 : Int32) (x4 : Int32) (x5 : Int32) (x6 : Int32) (x7 : Int32) (x8 : Int32) (x9 : Int32) (x10 : Int32) (w5 : Int64) (z : ow_MS), fr (pf [72] []) z0 z → Fo Prod.snd (pf [72] []) z0 (q_X13_minor K k L x1 x2 x3 x4 x5 x6 x7 x8 x9 x10 w5 z)
  | 0 => by
    intros
    exact fo_none
  | k + 1 => by
    intro L x1 x2 x3 x4 x5 x6 x7 x8 x9 x10 w5 z hz 
    show Fo Prod.snd (pf [72] []) z0 (qb_X13_minor K (q_X13_minor K k) L x1 x2 x3 x4 x5 x6 x7 x8 x9 x10 w5 z)
    unfold qb_X13_minor
    split
    · exact fb_X13_minor_0 (fq_X13_minor k) hz 
    · exact fb_X13_minor_1 (fq_X13_minor k) hz 
    · exact fb_X13_minor_2 (fq_X13_minor k) hz 
    · exact fb_X13_minor_3 (fq_X13_minor k) hz 
    · exact fb_X13_minor_4 (fq_X13_minor k) hz 
    · exact fb_X13_minor_5 (fq_X13_minor k) hz 
    · exact fb_X13_minor_6 (fq_X13_minor k) hz 
    · exact fb_X13_minor_7 (fq_X13_minor k) hz 
    · exact fb_X13_minor_8 (fq_X13_minor k) hz 
    · exact fb_X13_minor_9 (fq_X13_minor k) hz 
    · exact fb_X13_minor_10 (fq_X13_minor k) hz 
    · exact fo_none
theorem ff_X13_minor {K : Nat} {x1 : Int32} {x2 : Int32} {x3 : Int32} {z : ow_MS}  : Fo Prod.snd (pf [72] []) z (qe_X13_minor K x1 x2 x3 z) := fq_X13_minor K 0 _ _ _ _ _ _ _ _ _ _ _ z fr_rf 
theorem fb_X13_gcd_0 {K : Nat} {z0 z : ow_MS}  {go : Nat → Int64 → Int64 → Int64 → Int64 → ow_MS → Option (Int64 × ow_MS)} {w0 : Int64} {w2 : Int64} {w4 : Int64} {w6 : Int64}  (hgo : ∀ (L : Nat) (w0 : Int64) (w2 : Int64) (w4 : Int64) (w6 : Int64) (z : ow_MS), fr (pf [] []) z0 z → Fo Prod.snd (pf [] []) z0 (go L w0 w2 w4 w6 z)) (hz : fr (pf [] []) z0 z)  : Fo Prod.snd (pf [] []) z0 (qm_X13_gcd_0 K go w0 w2 w4 w6 z) := by
  unfold qm_X13_gcd_0
  exact (hgo 1 _ _ _ _ z hz)
theorem fb_X13_gcd_1 {K : Nat} {z0 z : ow_MS}  {go : Nat → Int64 → Int64 → Int64 → Int64 → ow_MS → Option (Int64 × ow_MS)} {w0 : Int64} {w2 : Int64} {w4 : Int64} {w6 : Int64}  (hgo : ∀ (L : Nat) (w0 : Int64) (w2 : Int64) (w4 : Int64) (w6 : Int64) (z : ow_MS), fr (pf [] []) z0 z → Fo Prod.snd (pf [] []) z0 (go L w0 w2 w4 w6 z)) (hz : fr (pf [] []) z0 z)  : Fo Prod.snd (pf [] []) z0 (qm_X13_gcd_1 K go w0 w2 w4 w6 z) := by
  unfold qm_X13_gcd_1
  exact (fo_if (fo_some hz) (fo_nzJ (hgo 1 _ _ _ _ z hz)))
theorem fq_X13_gcd {K : Nat} {z0 : ow_MS}   : ∀ (k L : Nat) (w0 : Int64) (w2 : Int64) (w4 : Int64) (w6 : Int64) (z : ow_MS), fr (pf [] []) z0 z → Fo Prod.snd (pf [] []) z0 (q_X13_gcd K k L w0 w2 w4 w6 z)
  | 0 => by
    intros
    exact fo_none
  | k + 1 => by
    intro L w0 w2 w4 w6 z hz 
    show Fo Prod.snd (pf [] []) z0 (qb_X13_gcd K (q_X13_gcd K k) L w0 w2 w4 w6 z)
    unfold qb_X13_gcd
    split
    · exact fb_X13_gcd_0 (fq_X13_gcd k) hz 
    · exact fb_X13_gcd_1 (fq_X13_gcd k) hz 
    · exact fo_none
theorem ff_X13_gcd {K : Nat} {w0 : Int64} {w2 : Int64} {z : ow_MS}  : Fo Prod.snd (pf [] []) z (qe_X13_gcd K w0 w2 z) := fq_X13_gcd K 0 _ _ _ _ z fr_rf 
theorem fb_X13_divisor_0 {K : Nat} {z0 z : ow_MS}  {go : Nat → Int32 → Int32 → Int32 → Int64 → Int64 → ow_MS → Option (Int64 × ow_MS)} {x1 : Int32} {x6 : Int32} {x7 : Int32} {w2 : Int64} {w4 : Int64}  (hgo : ∀ (L : Nat) (x1 : Int32) (x6 : Int32) (x7 : Int32) (w2 : Int64) (w4 : Int64) (z : ow_MS), fr (pf [72] []) z0 z → Fo Prod.snd (pf [72] []) z0 (go L x1 x6 x7 w2 w4 z)) (hz : fr (pf [72] []) z0 z)  : Fo Prod.snd (pf [72] []) z0 (qm_X13_divisor_0 K go x1 x6 x7 w2 w4 z) := by
  unfold qm_X13_divisor_0
  exact (hgo 1 _ _ _ _ _ z hz)
theorem fb_X13_divisor_1 {K : Nat} {z0 z : ow_MS}  {go : Nat → Int32 → Int32 → Int32 → Int64 → Int64 → ow_MS → Option (Int64 × ow_MS)} {x1 : Int32} {x6 : Int32} {x7 : Int32} {w2 : Int64} {w4 : Int64}  (hgo : ∀ (L : Nat) (x1 : Int32) (x6 : Int32) (x7 : Int32) (w2 : Int64) (w4 : Int64) (z : ow_MS), fr (pf [72] []) z0 z → Fo Prod.snd (pf [72] []) z0 (go L x1 x6 x7 w2 w4 z)) (hz : fr (pf [72] []) z0 z)  : Fo Prod.snd (pf [72] []) z0 (qm_X13_divisor_1 K go x1 x6 x7 w2 w4 z) := by
  unfold qm_X13_divisor_1
  exact (fo_rdF (fun v1 => (fo_if (fo_some hz) (fo_if (fo_some hz) (hgo 2 _ _ _ _ _ z hz)))))
theorem fb_X13_divisor_2 {K : Nat} {z0 z : ow_MS}  {go : Nat → Int32 → Int32 → Int32 → Int64 → Int64 → ow_MS → Option (Int64 × ow_MS)} {x1 : Int32} {x6 : Int32} {x7 : Int32} {w2 : Int64} {w4 : Int64}  (hgo : ∀ (L : Nat) (x1 : Int32) (x6 : Int32) (x7 : Int32) (w2 : Int64) (w4 : Int64) (z : ow_MS), fr (pf [72] []) z0 z → Fo Prod.snd (pf [72] []) z0 (go L x1 x6 x7 w2 w4 z)) (hz : fr (pf [72] []) z0 z)  : Fo Prod.snd (pf [72] []) z0 (qm_X13_divisor_2 K go x1 x6 x7 w2 w4 z) := by
  unfold qm_X13_divisor_2
  exact (fo_rdF (fun v2 => (fo_if (hgo 4 _ _ _ _ _ z hz) (fo_if (hgo 4 _ _ _ _ _ z hz) (fo_if (fo_if (fo_cs1 (ff_X13_minor) (pf_sub (by decide) pf_0) hz (fun v6 z5 h_z5 => (fo_cs1 (ff_X13_gcd) (pf_sub (by decide) pf_0) h_z5 (fun v8 z7 h_z7 => (hgo 3 _ _ _ _ _ z7 h_z7))))) (hgo 3 _ _ _ _ _ z hz)) (hgo 4 _ _ _ _ _ z hz))))))
theorem fb_X13_divisor_3 {K : Nat} {z0 z : ow_MS}  {go : Nat → Int32 → Int32 → Int32 → Int64 → Int64 → ow_MS → Option (Int64 × ow_MS)} {x1 : Int32} {x6 : Int32} {x7 : Int32} {w2 : Int64} {w4 : Int64}  (hgo : ∀ (L : Nat) (x1 : Int32) (x6 : Int32) (x7 : Int32) (w2 : Int64) (w4 : Int64) (z : ow_MS), fr (pf [72] []) z0 z → Fo Prod.snd (pf [72] []) z0 (go L x1 x6 x7 w2 w4 z)) (hz : fr (pf [72] []) z0 z)  : Fo Prod.snd (pf [72] []) z0 (qm_X13_divisor_3 K go x1 x6 x7 w2 w4 z) := by
  unfold qm_X13_divisor_3
  exact (hgo 2 _ _ _ _ _ z hz)
theorem fb_X13_divisor_4 {K : Nat} {z0 z : ow_MS}  {go : Nat → Int32 → Int32 → Int32 → Int64 → Int64 → ow_MS → Option (Int64 × ow_MS)} {x1 : Int32} {x6 : Int32} {x7 : Int32} {w2 : Int64} {w4 : Int64}  (hgo : ∀ (L : Nat) (x1 : Int32) (x6 : Int32) (x7 : Int32) (w2 : Int64) (w4 : Int64) (z : ow_MS), fr (pf [72] []) z0 z → Fo Prod.snd (pf [72] []) z0 (go L x1 x6 x7 w2 w4 z)) (hz : fr (pf [72] []) z0 z)  : Fo Prod.snd (pf [72] []) z0 (qm_X13_divisor_4 K go x1 x6 x7 w2 w4 z) := by
  unfold qm_X13_divisor_4
  exact (hgo 1 _ _ _ _ _ z hz)
theorem fq_X13_divisor {K : Nat} {z0 : ow_MS}   : ∀ (k L : Nat) (x1 : Int32) (x6 : Int32) (x7 : Int32) (w2 : Int64) (w4 : Int64) (z : ow_MS), fr (pf [72] []) z0 z → Fo Prod.snd (pf [72] []) z0 (q_X13_divisor K k L x1 x6 x7 w2 w4 z)
  | 0 => by
    intros
    exact fo_none
  | k + 1 => by
    intro L x1 x6 x7 w2 w4 z hz 
    show Fo Prod.snd (pf [72] []) z0 (qb_X13_divisor K (q_X13_divisor K k) L x1 x6 x7 w2 w4 z)
    unfold qb_X13_divisor
    split
    · exact fb_X13_divisor_0 (fq_X13_divisor k) hz 
    · exact fb_X13_divisor_1 (fq_X13_divisor k) hz 
    · exact fb_X13_divisor_2 (fq_X13_divisor k) hz 
    · exact fb_X13_divisor_3 (fq_X13_divisor k) hz 
    · exact fb_X13_divisor_4 (fq_X13_divisor k) hz 
    · exact fo_none
theorem ff_X13_divisor {K : Nat} {x1 : Int32} {w2 : Int64} {z : ow_MS}  : Fo Prod.snd (pf [72] []) z (qe_X13_divisor K x1 w2 z) := fq_X13_divisor K 0 _ _ _ _ _ z fr_rf 
theorem fb_X13_makeCover_0 {K : Nat} {z0 z : ow_MS}  {go : Nat → Int32 → Int32 → Int32 → Int32 → Int32 → Int32 → Int64 → Int64 → Int64 → Nat → ow_MS → Option ow_MS} {x2 : Int32} {x3 : Int32} {x4 : Int32} {x6 : Int32} {x7 : Int32} {x9 : Int32} {w4 : Int64} {w5 : Int64} {w7 : Int64} {r1 : Nat}  (hgo : ∀ (L : Nat) (x2 : Int32) (x3 : Int32) (x4 : Int32) (x6 : Int32) (x7 : Int32) (x9 : Int32) (w4 : Int64) (w5 : Int64) (w7 : Int64) (r1 : Nat) (z : ow_MS), fr (pf [58, 59, 60, 61, 62, 63, 64, 66, 67, 68, 69, 70, 71, 72] []) z0 z → (L = 0 ∨ L = 1 ∨ L = 2 ∨ L = 3 ∨ L = 4 ∨ L = 5 ∨ L = 6 ∨ L = 7 ∨ L = 8 ∨ L = 9 → 1000 ≤ r1) → Fo id (pf [58, 59, 60, 61, 62, 63, 64, 66, 67, 68, 69, 70, 71, 72] []) z0 (go L x2 x3 x4 x6 x7 x9 w4 w5 w7 r1 z)) (hz : fr (pf [58, 59, 60, 61, 62, 63, 64, 66, 67, 68, 69, 70, 71, 72] []) z0 z) (hr1 : 1000 ≤ r1) : Fo id (pf [58, 59, 60, 61, 62, 63, 64, 66, 67, 68, 69, 70, 71, 72] []) z0 (qm_X13_makeCover_0 K go x2 x3 x4 x6 x7 x9 w4 w5 w7 r1 z) := by
  unfold qm_X13_makeCover_0
  exact (fo_cs0 (ff_X13_makeArcs (by first | omega | decide)) (pf_sub (by decide) pf_0) hz (fun z1 h_z1 => (fo_rdF (fun v2 => (fo_nzI (hgo 1 _ _ _ _ _ _ _ _ _ _ z1 h_z1 (fun _ => (by first | omega | decide))))))))
theorem fb_X13_makeCover_1 {K : Nat} {z0 z : ow_MS}  {go : Nat → Int32 → Int32 → Int32 → Int32 → Int32 → Int32 → Int64 → Int64 → Int64 → Nat → ow_MS → Option ow_MS} {x2 : Int32} {x3 : Int32} {x4 : Int32} {x6 : Int32} {x7 : Int32} {x9 : Int32} {w4 : Int64} {w5 : Int64} {w7 : Int64} {r1 : Nat}  (hgo : ∀ (L : Nat) (x2 : Int32) (x3 : Int32) (x4 : Int32) (x6 : Int32) (x7 : Int32) (x9 : Int32) (w4 : Int64) (w5 : Int64) (w7 : Int64) (r1 : Nat) (z : ow_MS), fr (pf [58, 59, 60, 61, 62, 63, 64, 66, 67, 68, 69, 70, 71, 72] []) z0 z → (L = 0 ∨ L = 1 ∨ L = 2 ∨ L = 3 ∨ L = 4 ∨ L = 5 ∨ L = 6 ∨ L = 7 ∨ L = 8 ∨ L = 9 → 1000 ≤ r1) → Fo id (pf [58, 59, 60, 61, 62, 63, 64, 66, 67, 68, 69, 70, 71, 72] []) z0 (go L x2 x3 x4 x6 x7 x9 w4 w5 w7 r1 z)) (hz : fr (pf [58, 59, 60, 61, 62, 63, 64, 66, 67, 68, 69, 70, 71, 72] []) z0 z) (hr1 : 1000 ≤ r1) : Fo id (pf [58, 59, 60, 61, 62, 63, 64, 66, 67, 68, 69, 70, 71, 72] []) z0 (qm_X13_makeCover_1 K go x2 x3 x4 x6 x7 x9 w4 w5 w7 r1 z) := by
  unfold qm_X13_makeCover_1
  exact (fo_if (hgo 2 _ _ _ _ _ _ _ _ _ _ z hz (fun _ => (by first | omega | decide))) (fo_wrJ (Or.inl (by decide)) hz (fun z3 h_z3 => (hgo 1 _ _ _ _ _ _ _ _ _ _ z3 h_z3 (fun _ => (by first | omega | decide))))))
theorem fb_X13_makeCover_2 {K : Nat} {z0 z : ow_MS}  {go : Nat → Int32 → Int32 → Int32 → Int32 → Int32 → Int32 → Int64 → Int64 → Int64 → Nat → ow_MS → Option ow_MS} {x2 : Int32} {x3 : Int32} {x4 : Int32} {x6 : Int32} {x7 : Int32} {x9 : Int32} {w4 : Int64} {w5 : Int64} {w7 : Int64} {r1 : Nat}  (hgo : ∀ (L : Nat) (x2 : Int32) (x3 : Int32) (x4 : Int32) (x6 : Int32) (x7 : Int32) (x9 : Int32) (w4 : Int64) (w5 : Int64) (w7 : Int64) (r1 : Nat) (z : ow_MS), fr (pf [58, 59, 60, 61, 62, 63, 64, 66, 67, 68, 69, 70, 71, 72] []) z0 z → (L = 0 ∨ L = 1 ∨ L = 2 ∨ L = 3 ∨ L = 4 ∨ L = 5 ∨ L = 6 ∨ L = 7 ∨ L = 8 ∨ L = 9 → 1000 ≤ r1) → Fo id (pf [58, 59, 60, 61, 62, 63, 64, 66, 67, 68, 69, 70, 71, 72] []) z0 (go L x2 x3 x4 x6 x7 x9 w4 w5 w7 r1 z)) (hz : fr (pf [58, 59, 60, 61, 62, 63, 64, 66, 67, 68, 69, 70, 71, 72] []) z0 z) (hr1 : 1000 ≤ r1) : Fo id (pf [58, 59, 60, 61, 62, 63, 64, 66, 67, 68, 69, 70, 71, 72] []) z0 (qm_X13_makeCover_2 K go x2 x3 x4 x6 x7 x9 w4 w5 w7 r1 z) := by
  unfold qm_X13_makeCover_2
  exact (fo_if (hgo 3 _ _ _ _ _ _ _ _ _ _ z hz (fun _ => (by first | omega | decide))) (fo_rdI (fun v4 => (fo_rdJ (fun v5 => (fo_wrJ (Or.inl (by decide)) hz (fun z6 h_z6 => (fo_rdI (fun v7 => (fo_rdJ (fun v8 => (fo_wrJ (Or.inl (by decide)) h_z6 (fun z9 h_z9 => (fo_rdI (fun v10 => (fo_rdJ (fun v11 => (fo_wrJ (Or.inl (by decide)) h_z9 (fun z12 h_z12 => (hgo 2 _ _ _ _ _ _ _ _ _ _ z12 h_z12 (fun _ => (by first | omega | decide))))))))))))))))))))))
theorem fb_X13_makeCover_3 {K : Nat} {z0 z : ow_MS}  {go : Nat → Int32 → Int32 → Int32 → Int32 → Int32 → Int32 → Int64 → Int64 → Int64 → Nat → ow_MS → Option ow_MS} {x2 : Int32} {x3 : Int32} {x4 : Int32} {x6 : Int32} {x7 : Int32} {x9 : Int32} {w4 : Int64} {w5 : Int64} {w7 : Int64} {r1 : Nat}  (hgo : ∀ (L : Nat) (x2 : Int32) (x3 : Int32) (x4 : Int32) (x6 : Int32) (x7 : Int32) (x9 : Int32) (w4 : Int64) (w5 : Int64) (w7 : Int64) (r1 : Nat) (z : ow_MS), fr (pf [58, 59, 60, 61, 62, 63, 64, 66, 67, 68, 69, 70, 71, 72] []) z0 z → (L = 0 ∨ L = 1 ∨ L = 2 ∨ L = 3 ∨ L = 4 ∨ L = 5 ∨ L = 6 ∨ L = 7 ∨ L = 8 ∨ L = 9 → 1000 ≤ r1) → Fo id (pf [58, 59, 60, 61, 62, 63, 64, 66, 67, 68, 69, 70, 71, 72] []) z0 (go L x2 x3 x4 x6 x7 x9 w4 w5 w7 r1 z)) (hz : fr (pf [58, 59, 60, 61, 62, 63, 64, 66, 67, 68, 69, 70, 71, 72] []) z0 z) (hr1 : 1000 ≤ r1) : Fo id (pf [58, 59, 60, 61, 62, 63, 64, 66, 67, 68, 69, 70, 71, 72] []) z0 (qm_X13_makeCover_3 K go x2 x3 x4 x6 x7 x9 w4 w5 w7 r1 z) := by
  unfold qm_X13_makeCover_3
  exact (fo_if (hgo 6 _ _ _ _ _ _ _ _ _ _ z hz (fun _ => (by first | omega | decide))) (fo_rdF (fun v13 => (fo_if (hgo 6 _ _ _ _ _ _ _ _ _ _ z hz (fun _ => (by first | omega | decide))) (fo_cs1 (ff_X13_unit) (pf_sub (by decide) pf_0) hz (fun v15 z14 h_z14 => (fo_if (hgo 6 _ _ _ _ _ _ _ _ _ _ z14 h_z14 (fun _ => (by first | omega | decide))) (hgo 4 _ _ _ _ _ _ _ _ _ _ z14 h_z14 (fun _ => (by first | omega | decide))))))))))
theorem fb_X13_makeCover_4 {K : Nat} {z0 z : ow_MS}  {go : Nat → Int32 → Int32 → Int32 → Int32 → Int32 → Int32 → Int64 → Int64 → Int64 → Nat → ow_MS → Option ow_MS} {x2 : Int32} {x3 : Int32} {x4 : Int32} {x6 : Int32} {x7 : Int32} {x9 : Int32} {w4 : Int64} {w5 : Int64} {w7 : Int64} {r1 : Nat}  (hgo : ∀ (L : Nat) (x2 : Int32) (x3 : Int32) (x4 : Int32) (x6 : Int32) (x7 : Int32) (x9 : Int32) (w4 : Int64) (w5 : Int64) (w7 : Int64) (r1 : Nat) (z : ow_MS), fr (pf [58, 59, 60, 61, 62, 63, 64, 66, 67, 68, 69, 70, 71, 72] []) z0 z → (L = 0 ∨ L = 1 ∨ L = 2 ∨ L = 3 ∨ L = 4 ∨ L = 5 ∨ L = 6 ∨ L = 7 ∨ L = 8 ∨ L = 9 → 1000 ≤ r1) → Fo id (pf [58, 59, 60, 61, 62, 63, 64, 66, 67, 68, 69, 70, 71, 72] []) z0 (go L x2 x3 x4 x6 x7 x9 w4 w5 w7 r1 z)) (hz : fr (pf [58, 59, 60, 61, 62, 63, 64, 66, 67, 68, 69, 70, 71, 72] []) z0 z) (hr1 : 1000 ≤ r1) : Fo id (pf [58, 59, 60, 61, 62, 63, 64, 66, 67, 68, 69, 70, 71, 72] []) z0 (qm_X13_makeCover_4 K go x2 x3 x4 x6 x7 x9 w4 w5 w7 r1 z) := by
  unfold qm_X13_makeCover_4
  exact (fo_if (hgo 3 _ _ _ _ _ _ _ _ _ _ z hz (fun _ => (by first | omega | decide))) (fo_rdJ (fun v16 => (fo_rdJ (fun v17 => (hgo 5 _ _ _ _ _ _ _ _ _ _ z hz (fun _ => (by first | omega | decide))))))))
theorem fb_X13_makeCover_5 {K : Nat} {z0 z : ow_MS}  {go : Nat → Int32 → Int32 → Int32 → Int32 → Int32 → Int32 → Int64 → Int64 → Int64 → Nat → ow_MS → Option ow_MS} {x2 : Int32} {x3 : Int32} {x4 : Int32} {x6 : Int32} {x7 : Int32} {x9 : Int32} {w4 : Int64} {w5 : Int64} {w7 : Int64} {r1 : Nat}  (hgo : ∀ (L : Nat) (x2 : Int32) (x3 : Int32) (x4 : Int32) (x6 : Int32) (x7 : Int32) (x9 : Int32) (w4 : Int64) (w5 : Int64) (w7 : Int64) (r1 : Nat) (z : ow_MS), fr (pf [58, 59, 60, 61, 62, 63, 64, 66, 67, 68, 69, 70, 71, 72] []) z0 z → (L = 0 ∨ L = 1 ∨ L = 2 ∨ L = 3 ∨ L = 4 ∨ L = 5 ∨ L = 6 ∨ L = 7 ∨ L = 8 ∨ L = 9 → 1000 ≤ r1) → Fo id (pf [58, 59, 60, 61, 62, 63, 64, 66, 67, 68, 69, 70, 71, 72] []) z0 (go L x2 x3 x4 x6 x7 x9 w4 w5 w7 r1 z)) (hz : fr (pf [58, 59, 60, 61, 62, 63, 64, 66, 67, 68, 69, 70, 71, 72] []) z0 z) (hr1 : 1000 ≤ r1) : Fo id (pf [58, 59, 60, 61, 62, 63, 64, 66, 67, 68, 69, 70, 71, 72] []) z0 (qm_X13_makeCover_5 K go x2 x3 x4 x6 x7 x9 w4 w5 w7 r1 z) := by
  unfold qm_X13_makeCover_5
  exact (fo_rdF (fun v18 => (fo_if (hgo 4 _ _ _ _ _ _ _ _ _ _ z hz (fun _ => (by first | omega | decide))) (fo_rdJ (fun v19 => (fo_rdJ (fun v20 => (fo_wrJ (Or.inl (by decide)) hz (fun z21 h_z21 => (hgo 5 _ _ _ _ _ _ _ _ _ _ z21 h_z21 (fun _ => (by first | omega | decide))))))))))))
theorem fb_X13_makeCover_6 {K : Nat} {z0 z : ow_MS}  {go : Nat → Int32 → Int32 → Int32 → Int32 → Int32 → Int32 → Int64 → Int64 → Int64 → Nat → ow_MS → Option ow_MS} {x2 : Int32} {x3 : Int32} {x4 : Int32} {x6 : Int32} {x7 : Int32} {x9 : Int32} {w4 : Int64} {w5 : Int64} {w7 : Int64} {r1 : Nat}  (hgo : ∀ (L : Nat) (x2 : Int32) (x3 : Int32) (x4 : Int32) (x6 : Int32) (x7 : Int32) (x9 : Int32) (w4 : Int64) (w5 : Int64) (w7 : Int64) (r1 : Nat) (z : ow_MS), fr (pf [58, 59, 60, 61, 62, 63, 64, 66, 67, 68, 69, 70, 71, 72] []) z0 z → (L = 0 ∨ L = 1 ∨ L = 2 ∨ L = 3 ∨ L = 4 ∨ L = 5 ∨ L = 6 ∨ L = 7 ∨ L = 8 ∨ L = 9 → 1000 ≤ r1) → Fo id (pf [58, 59, 60, 61, 62, 63, 64, 66, 67, 68, 69, 70, 71, 72] []) z0 (go L x2 x3 x4 x6 x7 x9 w4 w5 w7 r1 z)) (hz : fr (pf [58, 59, 60, 61, 62, 63, 64, 66, 67, 68, 69, 70, 71, 72] []) z0 z) (hr1 : 1000 ≤ r1) : Fo id (pf [58, 59, 60, 61, 62, 63, 64, 66, 67, 68, 69, 70, 71, 72] []) z0 (qm_X13_makeCover_6 K go x2 x3 x4 x6 x7 x9 w4 w5 w7 r1 z) := by
  unfold qm_X13_makeCover_6
  exact (fo_cs0 (ff_X13_leave) (pf_sub (by decide) pf_0) hz (fun z22 h_z22 => (fo_wrF (Or.inl (by decide)) h_z22 (fun z23 h_z23 => (fo_cs1 (ff_X13_divisor) (pf_sub (by decide) pf_0) h_z23 (fun v25 z24 h_z24 => (hgo 7 _ _ _ _ _ _ _ _ _ _ z24 h_z24 (fun _ => (by first | omega | decide)))))))))
theorem fb_X13_makeCover_7 {K : Nat} {z0 z : ow_MS}  {go : Nat → Int32 → Int32 → Int32 → Int32 → Int32 → Int32 → Int64 → Int64 → Int64 → Nat → ow_MS → Option ow_MS} {x2 : Int32} {x3 : Int32} {x4 : Int32} {x6 : Int32} {x7 : Int32} {x9 : Int32} {w4 : Int64} {w5 : Int64} {w7 : Int64} {r1 : Nat}  (hgo : ∀ (L : Nat) (x2 : Int32) (x3 : Int32) (x4 : Int32) (x6 : Int32) (x7 : Int32) (x9 : Int32) (w4 : Int64) (w5 : Int64) (w7 : Int64) (r1 : Nat) (z : ow_MS), fr (pf [58, 59, 60, 61, 62, 63, 64, 66, 67, 68, 69, 70, 71, 72] []) z0 z → (L = 0 ∨ L = 1 ∨ L = 2 ∨ L = 3 ∨ L = 4 ∨ L = 5 ∨ L = 6 ∨ L = 7 ∨ L = 8 ∨ L = 9 → 1000 ≤ r1) → Fo id (pf [58, 59, 60, 61, 62, 63, 64, 66, 67, 68, 69, 70, 71, 72] []) z0 (go L x2 x3 x4 x6 x7 x9 w4 w5 w7 r1 z)) (hz : fr (pf [58, 59, 60, 61, 62, 63, 64, 66, 67, 68, 69, 70, 71, 72] []) z0 z) (hr1 : 1000 ≤ r1) : Fo id (pf [58, 59, 60, 61, 62, 63, 64, 66, 67, 68, 69, 70, 71, 72] []) z0 (qm_X13_makeCover_7 K go x2 x3 x4 x6 x7 x9 w4 w5 w7 r1 z) := by
  unfold qm_X13_makeCover_7
  exact (fo_if (hgo 9 _ _ _ _ _ _ _ _ _ _ z hz (fun _ => (by first | omega | decide))) (fo_if (hgo 8 _ _ _ _ _ _ _ _ _ _ z hz (fun _ => (by first | omega | decide))) (fo_rdF (fun v26 => (fo_nzJ (fo_wrJ (Or.inl (by decide)) hz (fun z27 h_z27 => (fo_rdF (fun v28 => (fo_wrF (Or.inl (by decide)) h_z27 (fun z29 h_z29 => (hgo 8 _ _ _ _ _ _ _ _ _ _ z29 h_z29 (fun _ => (by first | omega | decide))))))))))))))
theorem fb_X13_makeCover_8 {K : Nat} {z0 z : ow_MS}  {go : Nat → Int32 → Int32 → Int32 → Int32 → Int32 → Int32 → Int64 → Int64 → Int64 → Nat → ow_MS → Option ow_MS} {x2 : Int32} {x3 : Int32} {x4 : Int32} {x6 : Int32} {x7 : Int32} {x9 : Int32} {w4 : Int64} {w5 : Int64} {w7 : Int64} {r1 : Nat}  (hgo : ∀ (L : Nat) (x2 : Int32) (x3 : Int32) (x4 : Int32) (x6 : Int32) (x7 : Int32) (x9 : Int32) (w4 : Int64) (w5 : Int64) (w7 : Int64) (r1 : Nat) (z : ow_MS), fr (pf [58, 59, 60, 61, 62, 63, 64, 66, 67, 68, 69, 70, 71, 72] []) z0 z → (L = 0 ∨ L = 1 ∨ L = 2 ∨ L = 3 ∨ L = 4 ∨ L = 5 ∨ L = 6 ∨ L = 7 ∨ L = 8 ∨ L = 9 → 1000 ≤ r1) → Fo id (pf [58, 59, 60, 61, 62, 63, 64, 66, 67, 68, 69, 70, 71, 72] []) z0 (go L x2 x3 x4 x6 x7 x9 w4 w5 w7 r1 z)) (hz : fr (pf [58, 59, 60, 61, 62, 63, 64, 66, 67, 68, 69, 70, 71, 72] []) z0 z) (hr1 : 1000 ≤ r1) : Fo id (pf [58, 59, 60, 61, 62, 63, 64, 66, 67, 68, 69, 70, 71, 72] []) z0 (qm_X13_makeCover_8 K go x2 x3 x4 x6 x7 x9 w4 w5 w7 r1 z) := by
  unfold qm_X13_makeCover_8
  exact (fo_cs1 (ff_X13_divisor) (pf_sub (by decide) pf_0) hz (fun v31 z30 h_z30 => (hgo 7 _ _ _ _ _ _ _ _ _ _ z30 h_z30 (fun _ => (by first | omega | decide)))))
theorem fb_X13_makeCover_9 {K : Nat} {z0 z : ow_MS}  {go : Nat → Int32 → Int32 → Int32 → Int32 → Int32 → Int32 → Int64 → Int64 → Int64 → Nat → ow_MS → Option ow_MS} {x2 : Int32} {x3 : Int32} {x4 : Int32} {x6 : Int32} {x7 : Int32} {x9 : Int32} {w4 : Int64} {w5 : Int64} {w7 : Int64} {r1 : Nat}  (hgo : ∀ (L : Nat) (x2 : Int32) (x3 : Int32) (x4 : Int32) (x6 : Int32) (x7 : Int32) (x9 : Int32) (w4 : Int64) (w5 : Int64) (w7 : Int64) (r1 : Nat) (z : ow_MS), fr (pf [58, 59, 60, 61, 62, 63, 64, 66, 67, 68, 69, 70, 71, 72] []) z0 z → (L = 0 ∨ L = 1 ∨ L = 2 ∨ L = 3 ∨ L = 4 ∨ L = 5 ∨ L = 6 ∨ L = 7 ∨ L = 8 ∨ L = 9 → 1000 ≤ r1) → Fo id (pf [58, 59, 60, 61, 62, 63, 64, 66, 67, 68, 69, 70, 71, 72] []) z0 (go L x2 x3 x4 x6 x7 x9 w4 w5 w7 r1 z)) (hz : fr (pf [58, 59, 60, 61, 62, 63, 64, 66, 67, 68, 69, 70, 71, 72] []) z0 z) (hr1 : 1000 ≤ r1) : Fo id (pf [58, 59, 60, 61, 62, 63, 64, 66, 67, 68, 69, 70, 71, 72] []) z0 (qm_X13_makeCover_9 K go x2 x3 x4 x6 x7 x9 w4 w5 w7 r1 z) := by
  unfold qm_X13_makeCover_9
  exact (fo_rdF (fun v32 => (fo_if (fo_some hz) (fo_rdF (fun v33 => (fo_wrJ (Or.inl (by decide)) hz (fun z34 h_z34 => (fo_rdF (fun v35 => (fo_wrF (Or.inl (by decide)) h_z34 (fun z36 h_z36 => (hgo 9 _ _ _ _ _ _ _ _ _ _ z36 h_z36 (fun _ => (by first | omega | decide))))))))))))))
theorem fq_X13_makeCover {K : Nat} {z0 : ow_MS}   : ∀ (k L : Nat) (x2 : Int32) (x3 : Int32) (x4 : Int32) (x6 : Int32) (x7 : Int32) (x9 : Int32) (w4 : Int64) (w5 : Int64) (w7 : Int64) (r1 : Nat) (z : ow_MS), fr (pf [58, 59, 60, 61, 62, 63, 64, 66, 67, 68, 69, 70, 71, 72] []) z0 z → (L = 0 ∨ L = 1 ∨ L = 2 ∨ L = 3 ∨ L = 4 ∨ L = 5 ∨ L = 6 ∨ L = 7 ∨ L = 8 ∨ L = 9 → 1000 ≤ r1) → Fo id (pf [58, 59, 60, 61, 62, 63, 64, 66, 67, 68, 69, 70, 71, 72] []) z0 (q_X13_makeCover K k L x2 x3 x4 x6 x7 x9 w4 w5 w7 r1 z)
  | 0 => by
    intros
    exact fo_none
  | k + 1 => by
    intro L x2 x3 x4 x6 x7 x9 w4 w5 w7 r1 z hz h9_r1
    show Fo id (pf [58, 59, 60, 61, 62, 63, 64, 66, 67, 68, 69, 70, 71, 72] []) z0 (qb_X13_makeCover K (q_X13_makeCover K k) L x2 x3 x4 x6 x7 x9 w4 w5 w7 r1 z)
    unfold qb_X13_makeCover
    split
    · exact fb_X13_makeCover_0 (fq_X13_makeCover k) hz (h9_r1 (by decide))
    · exact fb_X13_makeCover_1 (fq_X13_makeCover k) hz (h9_r1 (by decide))
    · exact fb_X13_makeCover_2 (fq_X13_makeCover k) hz (h9_r1 (by decide))
    · exact fb_X13_makeCover_3 (fq_X13_makeCover k) hz (h9_r1 (by decide))
    · exact fb_X13_makeCover_4 (fq_X13_makeCover k) hz (h9_r1 (by decide))
    · exact fb_X13_makeCover_5 (fq_X13_makeCover k) hz (h9_r1 (by decide))
    · exact fb_X13_makeCover_6 (fq_X13_makeCover k) hz (h9_r1 (by decide))
    · exact fb_X13_makeCover_7 (fq_X13_makeCover k) hz (h9_r1 (by decide))
    · exact fb_X13_makeCover_8 (fq_X13_makeCover k) hz (h9_r1 (by decide))
    · exact fb_X13_makeCover_9 (fq_X13_makeCover k) hz (h9_r1 (by decide))
    · exact fo_none
theorem ff_X13_makeCover {K : Nat} {r1 : Nat} {z : ow_MS} (hr1 : 1000 ≤ r1) : Fo id (pf [58, 59, 60, 61, 62, 63, 64, 66, 67, 68, 69, 70, 71, 72] []) z (qe_X13_makeCover K r1 z) := fq_X13_makeCover K 0 _ _ _ _ _ _ _ _ _ _ z fr_rf (fun _ => (by first | omega | decide))
theorem fb_X13_coverOf_0 {K : Nat} {z0 z : ow_MS}  {go : Nat → Int32 → Int32 → ow_MS → Option ow_MS} {x1 : Int32} {x2 : Int32}  (hgo : ∀ (L : Nat) (x1 : Int32) (x2 : Int32) (z : ow_MS), fr (pf [58, 59, 60, 61, 62, 63, 64, 65, 66, 67, 68, 69, 70, 71, 72] []) z0 z → Fo id (pf [58, 59, 60, 61, 62, 63, 64, 65, 66, 67, 68, 69, 70, 71, 72] []) z0 (go L x1 x2 z)) (hz : fr (pf [58, 59, 60, 61, 62, 63, 64, 65, 66, 67, 68, 69, 70, 71, 72] []) z0 z)  : Fo id (pf [58, 59, 60, 61, 62, 63, 64, 65, 66, 67, 68, 69, 70, 71, 72] []) z0 (qm_X13_coverOf_0 K go x1 x2 z) := by
  unfold qm_X13_coverOf_0
  exact (fo_cs1 (ff_X13_isSame) (pf_sub (by decide) pf_0) hz (fun v2 z1 h_z1 => (fo_if (fo_cs0 (ff_X13_open (by first | omega | decide)) (pf_sub (by decide) pf_0) h_z1 (fun z3 h_z3 => (fo_cs0 (ff_X13_makeCover (by first | omega | decide)) (pf_sub (by decide) pf_0) h_z3 (fun z4 h_z4 => (hgo 1 _ _ z4 h_z4))))) (fo_some h_z1))))
theorem fb_X13_coverOf_1 {K : Nat} {z0 z : ow_MS}  {go : Nat → Int32 → Int32 → ow_MS → Option ow_MS} {x1 : Int32} {x2 : Int32}  (hgo : ∀ (L : Nat) (x1 : Int32) (x2 : Int32) (z : ow_MS), fr (pf [58, 59, 60, 61, 62, 63, 64, 65, 66, 67, 68, 69, 70, 71, 72] []) z0 z → Fo id (pf [58, 59, 60, 61, 62, 63, 64, 65, 66, 67, 68, 69, 70, 71, 72] []) z0 (go L x1 x2 z)) (hz : fr (pf [58, 59, 60, 61, 62, 63, 64, 65, 66, 67, 68, 69, 70, 71, 72] []) z0 z)  : Fo id (pf [58, 59, 60, 61, 62, 63, 64, 65, 66, 67, 68, 69, 70, 71, 72] []) z0 (qm_X13_coverOf_1 K go x1 x2 z) := by
  unfold qm_X13_coverOf_1
  exact (fo_if (fo_some hz) (fo_rdI (fun v5 => (fo_wrI (Or.inl (by decide)) hz (fun z6 h_z6 => (hgo 1 _ _ z6 h_z6))))))
theorem fq_X13_coverOf {K : Nat} {z0 : ow_MS}   : ∀ (k L : Nat) (x1 : Int32) (x2 : Int32) (z : ow_MS), fr (pf [58, 59, 60, 61, 62, 63, 64, 65, 66, 67, 68, 69, 70, 71, 72] []) z0 z → Fo id (pf [58, 59, 60, 61, 62, 63, 64, 65, 66, 67, 68, 69, 70, 71, 72] []) z0 (q_X13_coverOf K k L x1 x2 z)
  | 0 => by
    intros
    exact fo_none
  | k + 1 => by
    intro L x1 x2 z hz 
    show Fo id (pf [58, 59, 60, 61, 62, 63, 64, 65, 66, 67, 68, 69, 70, 71, 72] []) z0 (qb_X13_coverOf K (q_X13_coverOf K k) L x1 x2 z)
    unfold qb_X13_coverOf
    split
    · exact fb_X13_coverOf_0 (fq_X13_coverOf k) hz 
    · exact fb_X13_coverOf_1 (fq_X13_coverOf k) hz 
    · exact fo_none
theorem ff_X13_coverOf {K : Nat} {x1 : Int32} {z : ow_MS}  : Fo id (pf [58, 59, 60, 61, 62, 63, 64, 65, 66, 67, 68, 69, 70, 71, 72] []) z (qe_X13_coverOf K x1 z) := fq_X13_coverOf K 0 _ _ z fr_rf 
theorem fb_X13_cover_0 {K : Nat} {z0 z : ow_MS}  {go : Nat → Int32 → Int32 → ow_MS → Option (Int32 × ow_MS)} {x1 : Int32} {x2 : Int32}  (hgo : ∀ (L : Nat) (x1 : Int32) (x2 : Int32) (z : ow_MS), fr (pf [1, 58, 59, 60, 61, 62, 63, 64, 65, 66, 67, 68, 69, 70, 71, 72] []) z0 z → Fo Prod.snd (pf [1, 58, 59, 60, 61, 62, 63, 64, 65, 66, 67, 68, 69, 70, 71, 72] []) z0 (go L x1 x2 z)) (hz : fr (pf [1, 58, 59, 60, 61, 62, 63, 64, 65, 66, 67, 68, 69, 70, 71, 72] []) z0 z)  : Fo Prod.snd (pf [1, 58, 59, 60, 61, 62, 63, 64, 65, 66, 67, 68, 69, 70, 71, 72] []) z0 (qm_X13_cover_0 K go x1 x2 z) := by
  unfold qm_X13_cover_0
  exact (fo_wrF (Or.inl (by decide)) hz (fun z1 h_z1 => (fo_cs1 (ff_X13_has) (pf_sub (by decide) pf_0) h_z1 (fun v3 z2 h_z2 => (fo_if (fo_cs1 (ff_X13_fails) (pf_sub (by decide) pf_0) h_z2 (fun v8 z7 h_z7 => (fo_some h_z7))) (fo_cs0 (ff_X13_coverOf) (pf_sub (by decide) pf_0) h_z2 (fun z4 h_z4 => (fo_if (hgo 1 _ _ z4 h_z4) (fo_rdF (fun v5 => (fo_if (fo_rdJ (fun v6 => (fo_some h_z4))) (hgo 1 _ _ z4 h_z4))))))))))))
theorem fb_X13_cover_1 {K : Nat} {z0 z : ow_MS}  {go : Nat → Int32 → Int32 → ow_MS → Option (Int32 × ow_MS)} {x1 : Int32} {x2 : Int32}  (hgo : ∀ (L : Nat) (x1 : Int32) (x2 : Int32) (z : ow_MS), fr (pf [1, 58, 59, 60, 61, 62, 63, 64, 65, 66, 67, 68, 69, 70, 71, 72] []) z0 z → Fo Prod.snd (pf [1, 58, 59, 60, 61, 62, 63, 64, 65, 66, 67, 68, 69, 70, 71, 72] []) z0 (go L x1 x2 z)) (hz : fr (pf [1, 58, 59, 60, 61, 62, 63, 64, 65, 66, 67, 68, 69, 70, 71, 72] []) z0 z)  : Fo Prod.snd (pf [1, 58, 59, 60, 61, 62, 63, 64, 65, 66, 67, 68, 69, 70, 71, 72] []) z0 (qm_X13_cover_1 K go x1 x2 z) := by
  unfold qm_X13_cover_1
  exact (fo_some hz)
theorem fq_X13_cover {K : Nat} {z0 : ow_MS}   : ∀ (k L : Nat) (x1 : Int32) (x2 : Int32) (z : ow_MS), fr (pf [1, 58, 59, 60, 61, 62, 63, 64, 65, 66, 67, 68, 69, 70, 71, 72] []) z0 z → Fo Prod.snd (pf [1, 58, 59, 60, 61, 62, 63, 64, 65, 66, 67, 68, 69, 70, 71, 72] []) z0 (q_X13_cover K k L x1 x2 z)
  | 0 => by
    intros
    exact fo_none
  | k + 1 => by
    intro L x1 x2 z hz 
    show Fo Prod.snd (pf [1, 58, 59, 60, 61, 62, 63, 64, 65, 66, 67, 68, 69, 70, 71, 72] []) z0 (qb_X13_cover K (q_X13_cover K k) L x1 x2 z)
    unfold qb_X13_cover
    split
    · exact fb_X13_cover_0 (fq_X13_cover k) hz 
    · exact fb_X13_cover_1 (fq_X13_cover k) hz 
    · exact fo_none
theorem ff_X13_cover {K : Nat} {x1 : Int32} {x2 : Int32} {z : ow_MS}  : Fo Prod.snd (pf [1, 58, 59, 60, 61, 62, 63, 64, 65, 66, 67, 68, 69, 70, 71, 72] []) z (qe_X13_cover K x1 x2 z) := fq_X13_cover K 0 _ _ z fr_rf 
theorem fb_X13_colours_0 {K : Nat} {z0 z : ow_MS}  {go : Nat → Int32 → Int32 → Int32 → Int64 → ow_MS → Option (Int64 × ow_MS)} {x1 : Int32} {x2 : Int32} {x5 : Int32} {w3 : Int64}  (hgo : ∀ (L : Nat) (x1 : Int32) (x2 : Int32) (x5 : Int32) (w3 : Int64) (z : ow_MS), fr (pf [1, 58, 59, 60, 61, 62, 63, 64, 65, 66, 67, 68, 69, 70, 71, 72] []) z0 z → Fo Prod.snd (pf [1, 58, 59, 60, 61, 62, 63, 64, 65, 66, 67, 68, 69, 70, 71, 72] []) z0 (go L x1 x2 x5 w3 z)) (hz : fr (pf [1, 58, 59, 60, 61, 62, 63, 64, 65, 66, 67, 68, 69, 70, 71, 72] []) z0 z)  : Fo Prod.snd (pf [1, 58, 59, 60, 61, 62, 63, 64, 65, 66, 67, 68, 69, 70, 71, 72] []) z0 (qm_X13_colours_0 K go x1 x2 x5 w3 z) := by
  unfold qm_X13_colours_0
  exact (fo_wrF (Or.inl (by decide)) hz (fun z1 h_z1 => (fo_cs1 (ff_X13_has) (pf_sub (by decide) pf_0) h_z1 (fun v3 z2 h_z2 => (fo_if (fo_cs1 (ff_X13_fails) (pf_sub (by decide) pf_0) h_z2 (fun v6 z5 h_z5 => (fo_some h_z5))) (fo_if (hgo 1 _ _ _ _ z2 h_z2) (fo_if (fo_cs0 (ff_X13_coverOf) (pf_sub (by decide) pf_0) h_z2 (fun z4 h_z4 => (hgo 2 _ _ _ _ z4 h_z4))) (hgo 1 _ _ _ _ z2 h_z2))))))))
theorem fb_X13_colours_1 {K : Nat} {z0 z : ow_MS}  {go : Nat → Int32 → Int32 → Int32 → Int64 → ow_MS → Option (Int64 × ow_MS)} {x1 : Int32} {x2 : Int32} {x5 : Int32} {w3 : Int64}  (hgo : ∀ (L : Nat) (x1 : Int32) (x2 : Int32) (x5 : Int32) (w3 : Int64) (z : ow_MS), fr (pf [1, 58, 59, 60, 61, 62, 63, 64, 65, 66, 67, 68, 69, 70, 71, 72] []) z0 z → Fo Prod.snd (pf [1, 58, 59, 60, 61, 62, 63, 64, 65, 66, 67, 68, 69, 70, 71, 72] []) z0 (go L x1 x2 x5 w3 z)) (hz : fr (pf [1, 58, 59, 60, 61, 62, 63, 64, 65, 66, 67, 68, 69, 70, 71, 72] []) z0 z)  : Fo Prod.snd (pf [1, 58, 59, 60, 61, 62, 63, 64, 65, 66, 67, 68, 69, 70, 71, 72] []) z0 (qm_X13_colours_1 K go x1 x2 x5 w3 z) := by
  unfold qm_X13_colours_1
  exact (fo_cs1 (ff_X13_fails) (pf_sub (by decide) pf_0) hz (fun v8 z7 h_z7 => (fo_some h_z7)))
theorem fb_X13_colours_2 {K : Nat} {z0 z : ow_MS}  {go : Nat → Int32 → Int32 → Int32 → Int64 → ow_MS → Option (Int64 × ow_MS)} {x1 : Int32} {x2 : Int32} {x5 : Int32} {w3 : Int64}  (hgo : ∀ (L : Nat) (x1 : Int32) (x2 : Int32) (x5 : Int32) (w3 : Int64) (z : ow_MS), fr (pf [1, 58, 59, 60, 61, 62, 63, 64, 65, 66, 67, 68, 69, 70, 71, 72] []) z0 z → Fo Prod.snd (pf [1, 58, 59, 60, 61, 62, 63, 64, 65, 66, 67, 68, 69, 70, 71, 72] []) z0 (go L x1 x2 x5 w3 z)) (hz : fr (pf [1, 58, 59, 60, 61, 62, 63, 64, 65, 66, 67, 68, 69, 70, 71, 72] []) z0 z)  : Fo Prod.snd (pf [1, 58, 59, 60, 61, 62, 63, 64, 65, 66, 67, 68, 69, 70, 71, 72] []) z0 (qm_X13_colours_2 K go x1 x2 x5 w3 z) := by
  unfold qm_X13_colours_2
  exact (fo_rdF (fun v9 => (fo_if (fo_some hz) (fo_rdJ (fun v10 => (fo_cs1 (ff_X13_gcd) (pf_sub (by decide) pf_0) hz (fun v12 z11 h_z11 => (hgo 2 _ _ _ _ z11 h_z11))))))))
theorem fq_X13_colours {K : Nat} {z0 : ow_MS}   : ∀ (k L : Nat) (x1 : Int32) (x2 : Int32) (x5 : Int32) (w3 : Int64) (z : ow_MS), fr (pf [1, 58, 59, 60, 61, 62, 63, 64, 65, 66, 67, 68, 69, 70, 71, 72] []) z0 z → Fo Prod.snd (pf [1, 58, 59, 60, 61, 62, 63, 64, 65, 66, 67, 68, 69, 70, 71, 72] []) z0 (q_X13_colours K k L x1 x2 x5 w3 z)
  | 0 => by
    intros
    exact fo_none
  | k + 1 => by
    intro L x1 x2 x5 w3 z hz 
    show Fo Prod.snd (pf [1, 58, 59, 60, 61, 62, 63, 64, 65, 66, 67, 68, 69, 70, 71, 72] []) z0 (qb_X13_colours K (q_X13_colours K k) L x1 x2 x5 w3 z)
    unfold qb_X13_colours
    split
    · exact fb_X13_colours_0 (fq_X13_colours k) hz 
    · exact fb_X13_colours_1 (fq_X13_colours k) hz 
    · exact fb_X13_colours_2 (fq_X13_colours k) hz 
    · exact fo_none
theorem ff_X13_colours {K : Nat} {x1 : Int32} {x2 : Int32} {z : ow_MS}  : Fo Prod.snd (pf [1, 58, 59, 60, 61, 62, 63, 64, 65, 66, 67, 68, 69, 70, 71, 72] []) z (qe_X13_colours K x1 x2 z) := fq_X13_colours K 0 _ _ _ _ z fr_rf 
theorem ff_X13_give {K : Nat} {x1 : Int32} {x2 : Int32} {z : ow_MS}  : Fo id (pf [77, 78, 79] []) z (qe_X13_give K x1 x2 z) := by
  unfold qe_X13_give qm_X13_give_0
  exact (fo_wrI (Or.inl (by decide)) fr_rf (fun z1 h_z1 => (fo_rdF (fun v2 => (fo_wrI (Or.inl (by decide)) h_z1 (fun z3 h_z3 => (fo_rdF (fun v4 => (fo_wrF (Or.inl (by decide)) h_z3 (fun z5 h_z5 => (fo_some h_z5)))))))))))
theorem fb_X13_follows_0 {K : Nat} {z0 z : ow_MS}  {go : Nat → Int32 → Int32 → Int32 → Int32 → Int32 → Int32 → Nat → Nat → Nat → Nat → ow_MS → Option (Int32 × ow_MS)} {x2 : Int32} {x3 : Int32} {x4 : Int32} {x5 : Int32} {x8 : Int32} {x9 : Int32} {r1 : Nat} {r6 : Nat} {r7 : Nat} {g0 : Nat}  (hgo : ∀ (L : Nat) (x2 : Int32) (x3 : Int32) (x4 : Int32) (x5 : Int32) (x8 : Int32) (x9 : Int32) (r1 : Nat) (r6 : Nat) (r7 : Nat) (g0 : Nat) (z : ow_MS), fr (pf [77, 78, 79] []) z0 z → (L = 0 ∨ L = 1 ∨ L = 2 ∨ L = 3 ∨ L = 4 ∨ L = 5 ∨ L = 6 ∨ L = 7 → 1000 ≤ r1) → Fo Prod.snd (pf [77, 78, 79] []) z0 (go L x2 x3 x4 x5 x8 x9 r1 r6 r7 g0 z)) (hz : fr (pf [77, 78, 79] []) z0 z) (hr1 : 1000 ≤ r1) : Fo Prod.snd (pf [77, 78, 79] []) z0 (qm_X13_follows_0 K go x2 x3 x4 x5 x8 x9 r1 r6 r7 g0 z) := by
  unfold qm_X13_follows_0
  exact (hgo 1 _ _ _ _ _ _ _ _ _ _ z hz (fun _ => (by first | omega | decide)))
theorem fb_X13_follows_1 {K : Nat} {z0 z : ow_MS}  {go : Nat → Int32 → Int32 → Int32 → Int32 → Int32 → Int32 → Nat → Nat → Nat → Nat → ow_MS → Option (Int32 × ow_MS)} {x2 : Int32} {x3 : Int32} {x4 : Int32} {x5 : Int32} {x8 : Int32} {x9 : Int32} {r1 : Nat} {r6 : Nat} {r7 : Nat} {g0 : Nat}  (hgo : ∀ (L : Nat) (x2 : Int32) (x3 : Int32) (x4 : Int32) (x5 : Int32) (x8 : Int32) (x9 : Int32) (r1 : Nat) (r6 : Nat) (r7 : Nat) (g0 : Nat) (z : ow_MS), fr (pf [77, 78, 79] []) z0 z → (L = 0 ∨ L = 1 ∨ L = 2 ∨ L = 3 ∨ L = 4 ∨ L = 5 ∨ L = 6 ∨ L = 7 → 1000 ≤ r1) → Fo Prod.snd (pf [77, 78, 79] []) z0 (go L x2 x3 x4 x5 x8 x9 r1 r6 r7 g0 z)) (hz : fr (pf [77, 78, 79] []) z0 z) (hr1 : 1000 ≤ r1) : Fo Prod.snd (pf [77, 78, 79] []) z0 (qm_X13_follows_1 K go x2 x3 x4 x5 x8 x9 r1 r6 r7 g0 z) := by
  unfold qm_X13_follows_1
  exact (fo_if (fo_okZ (fo_some hz)) (hgo 2 _ _ _ _ _ _ _ _ _ _ z hz (fun _ => (by first | omega | decide))))
theorem fb_X13_follows_2 {K : Nat} {z0 z : ow_MS}  {go : Nat → Int32 → Int32 → Int32 → Int32 → Int32 → Int32 → Nat → Nat → Nat → Nat → ow_MS → Option (Int32 × ow_MS)} {x2 : Int32} {x3 : Int32} {x4 : Int32} {x5 : Int32} {x8 : Int32} {x9 : Int32} {r1 : Nat} {r6 : Nat} {r7 : Nat} {g0 : Nat}  (hgo : ∀ (L : Nat) (x2 : Int32) (x3 : Int32) (x4 : Int32) (x5 : Int32) (x8 : Int32) (x9 : Int32) (r1 : Nat) (r6 : Nat) (r7 : Nat) (g0 : Nat) (z : ow_MS), fr (pf [77, 78, 79] []) z0 z → (L = 0 ∨ L = 1 ∨ L = 2 ∨ L = 3 ∨ L = 4 ∨ L = 5 ∨ L = 6 ∨ L = 7 → 1000 ≤ r1) → Fo Prod.snd (pf [77, 78, 79] []) z0 (go L x2 x3 x4 x5 x8 x9 r1 r6 r7 g0 z)) (hz : fr (pf [77, 78, 79] []) z0 z) (hr1 : 1000 ≤ r1) : Fo Prod.snd (pf [77, 78, 79] []) z0 (qm_X13_follows_2 K go x2 x3 x4 x5 x8 x9 r1 r6 r7 g0 z) := by
  unfold qm_X13_follows_2
  exact (fo_rdF (fun v1 => (fo_nzI (fo_if (hgo 1 _ _ _ _ _ _ _ _ _ _ z hz (fun _ => (by first | omega | decide))) (fo_rdI (fun v2 => (fo_rdI (fun v3 => (fo_rdI (fun v4 => (fo_if (hgo 7 _ _ _ _ _ _ _ _ _ _ z hz (fun _ => (by first | omega | decide))) (fo_if (hgo 7 _ _ _ _ _ _ _ _ _ _ z hz (fun _ => (by first | omega | decide))) (fo_rdI (fun v5 => (fo_if (hgo 3 _ _ _ _ _ _ _ _ _ _ z hz (fun _ => (by first | omega | decide))) (hgo 3 _ _ _ _ _ _ _ _ _ _ z hz (fun _ => (by first | omega | decide))))))))))))))))))
theorem fb_X13_follows_3 {K : Nat} {z0 z : ow_MS}  {go : Nat → Int32 → Int32 → Int32 → Int32 → Int32 → Int32 → Nat → Nat → Nat → Nat → ow_MS → Option (Int32 × ow_MS)} {x2 : Int32} {x3 : Int32} {x4 : Int32} {x5 : Int32} {x8 : Int32} {x9 : Int32} {r1 : Nat} {r6 : Nat} {r7 : Nat} {g0 : Nat}  (hgo : ∀ (L : Nat) (x2 : Int32) (x3 : Int32) (x4 : Int32) (x5 : Int32) (x8 : Int32) (x9 : Int32) (r1 : Nat) (r6 : Nat) (r7 : Nat) (g0 : Nat) (z : ow_MS), fr (pf [77, 78, 79] []) z0 z → (L = 0 ∨ L = 1 ∨ L = 2 ∨ L = 3 ∨ L = 4 ∨ L = 5 ∨ L = 6 ∨ L = 7 → 1000 ≤ r1) → Fo Prod.snd (pf [77, 78, 79] []) z0 (go L x2 x3 x4 x5 x8 x9 r1 r6 r7 g0 z)) (hz : fr (pf [77, 78, 79] []) z0 z) (hr1 : 1000 ≤ r1) : Fo Prod.snd (pf [77, 78, 79] []) z0 (qm_X13_follows_3 K go x2 x3 x4 x5 x8 x9 r1 r6 r7 g0 z) := by
  unfold qm_X13_follows_3
  exact (fo_rdI (fun v6 => (fo_if (hgo 4 _ _ _ _ _ _ _ _ _ _ z hz (fun _ => (by first | omega | decide))) (hgo 4 _ _ _ _ _ _ _ _ _ _ z hz (fun _ => (by first | omega | decide))))))
theorem fb_X13_follows_4 {K : Nat} {z0 z : ow_MS}  {go : Nat → Int32 → Int32 → Int32 → Int32 → Int32 → Int32 → Nat → Nat → Nat → Nat → ow_MS → Option (Int32 × ow_MS)} {x2 : Int32} {x3 : Int32} {x4 : Int32} {x5 : Int32} {x8 : Int32} {x9 : Int32} {r1 : Nat} {r6 : Nat} {r7 : Nat} {g0 : Nat}  (hgo : ∀ (L : Nat) (x2 : Int32) (x3 : Int32) (x4 : Int32) (x5 : Int32) (x8 : Int32) (x9 : Int32) (r1 : Nat) (r6 : Nat) (r7 : Nat) (g0 : Nat) (z : ow_MS), fr (pf [77, 78, 79] []) z0 z → (L = 0 ∨ L = 1 ∨ L = 2 ∨ L = 3 ∨ L = 4 ∨ L = 5 ∨ L = 6 ∨ L = 7 → 1000 ≤ r1) → Fo Prod.snd (pf [77, 78, 79] []) z0 (go L x2 x3 x4 x5 x8 x9 r1 r6 r7 g0 z)) (hz : fr (pf [77, 78, 79] []) z0 z) (hr1 : 1000 ≤ r1) : Fo Prod.snd (pf [77, 78, 79] []) z0 (qm_X13_follows_4 K go x2 x3 x4 x5 x8 x9 r1 r6 r7 g0 z) := by
  unfold qm_X13_follows_4
  exact (fo_rdI (fun v7 => (fo_rdI (fun v8 => (fo_rdI (fun v9 => (fo_rdI (fun v10 => (fo_if (hgo 5 _ _ _ _ _ _ _ _ _ _ z hz (fun _ => (by first | omega | decide))) (fo_if (hgo 5 _ _ _ _ _ _ _ _ _ _ z hz (fun _ => (by first | omega | decide))) (fo_rdI (fun v11 => (fo_if (hgo 5 _ _ _ _ _ _ _ _ _ _ z hz (fun _ => (by first | omega | decide))) (fo_okZ (fo_some hz)))))))))))))))
theorem fb_X13_follows_5 {K : Nat} {z0 z : ow_MS}  {go : Nat → Int32 → Int32 → Int32 → Int32 → Int32 → Int32 → Nat → Nat → Nat → Nat → ow_MS → Option (Int32 × ow_MS)} {x2 : Int32} {x3 : Int32} {x4 : Int32} {x5 : Int32} {x8 : Int32} {x9 : Int32} {r1 : Nat} {r6 : Nat} {r7 : Nat} {g0 : Nat}  (hgo : ∀ (L : Nat) (x2 : Int32) (x3 : Int32) (x4 : Int32) (x5 : Int32) (x8 : Int32) (x9 : Int32) (r1 : Nat) (r6 : Nat) (r7 : Nat) (g0 : Nat) (z : ow_MS), fr (pf [77, 78, 79] []) z0 z → (L = 0 ∨ L = 1 ∨ L = 2 ∨ L = 3 ∨ L = 4 ∨ L = 5 ∨ L = 6 ∨ L = 7 → 1000 ≤ r1) → Fo Prod.snd (pf [77, 78, 79] []) z0 (go L x2 x3 x4 x5 x8 x9 r1 r6 r7 g0 z)) (hz : fr (pf [77, 78, 79] []) z0 z) (hr1 : 1000 ≤ r1) : Fo Prod.snd (pf [77, 78, 79] []) z0 (qm_X13_follows_5 K go x2 x3 x4 x5 x8 x9 r1 r6 r7 g0 z) := by
  unfold qm_X13_follows_5
  exact (fo_if (hgo 6 _ _ _ _ _ _ _ _ _ _ z hz (fun _ => (by first | omega | decide))) (fo_if (fo_rdI (fun v12 => (fo_rdI (fun v13 => (fo_cs0 (ff_X13_give) (pf_sub (by decide) pf_0) hz (fun z14 h_z14 => (hgo 7 _ _ _ _ _ _ _ _ _ _ z14 h_z14 (fun _ => (by first | omega | decide))))))))) (hgo 6 _ _ _ _ _ _ _ _ _ _ z hz (fun _ => (by first | omega | decide)))))
theorem fb_X13_follows_6 {K : Nat} {z0 z : ow_MS}  {go : Nat → Int32 → Int32 → Int32 → Int32 → Int32 → Int32 → Nat → Nat → Nat → Nat → ow_MS → Option (Int32 × ow_MS)} {x2 : Int32} {x3 : Int32} {x4 : Int32} {x5 : Int32} {x8 : Int32} {x9 : Int32} {r1 : Nat} {r6 : Nat} {r7 : Nat} {g0 : Nat}  (hgo : ∀ (L : Nat) (x2 : Int32) (x3 : Int32) (x4 : Int32) (x5 : Int32) (x8 : Int32) (x9 : Int32) (r1 : Nat) (r6 : Nat) (r7 : Nat) (g0 : Nat) (z : ow_MS), fr (pf [77, 78, 79] []) z0 z → (L = 0 ∨ L = 1 ∨ L = 2 ∨ L = 3 ∨ L = 4 ∨ L = 5 ∨ L = 6 ∨ L = 7 → 1000 ≤ r1) → Fo Prod.snd (pf [77, 78, 79] []) z0 (go L x2 x3 x4 x5 x8 x9 r1 r6 r7 g0 z)) (hz : fr (pf [77, 78, 79] []) z0 z) (hr1 : 1000 ≤ r1) : Fo Prod.snd (pf [77, 78, 79] []) z0 (qm_X13_follows_6 K go x2 x3 x4 x5 x8 x9 r1 r6 r7 g0 z) := by
  unfold qm_X13_follows_6
  exact (fo_if (fo_if (hgo 7 _ _ _ _ _ _ _ _ _ _ z hz (fun _ => (by first | omega | decide))) (fo_rdI (fun v15 => (fo_rdI (fun v16 => (fo_cs0 (ff_X13_give) (pf_sub (by decide) pf_0) hz (fun z17 h_z17 => (hgo 7 _ _ _ _ _ _ _ _ _ _ z17 h_z17 (fun _ => (by first | omega | decide)))))))))) (hgo 7 _ _ _ _ _ _ _ _ _ _ z hz (fun _ => (by first | omega | decide))))
theorem fb_X13_follows_7 {K : Nat} {z0 z : ow_MS}  {go : Nat → Int32 → Int32 → Int32 → Int32 → Int32 → Int32 → Nat → Nat → Nat → Nat → ow_MS → Option (Int32 × ow_MS)} {x2 : Int32} {x3 : Int32} {x4 : Int32} {x5 : Int32} {x8 : Int32} {x9 : Int32} {r1 : Nat} {r6 : Nat} {r7 : Nat} {g0 : Nat}  (hgo : ∀ (L : Nat) (x2 : Int32) (x3 : Int32) (x4 : Int32) (x5 : Int32) (x8 : Int32) (x9 : Int32) (r1 : Nat) (r6 : Nat) (r7 : Nat) (g0 : Nat) (z : ow_MS), fr (pf [77, 78, 79] []) z0 z → (L = 0 ∨ L = 1 ∨ L = 2 ∨ L = 3 ∨ L = 4 ∨ L = 5 ∨ L = 6 ∨ L = 7 → 1000 ≤ r1) → Fo Prod.snd (pf [77, 78, 79] []) z0 (go L x2 x3 x4 x5 x8 x9 r1 r6 r7 g0 z)) (hz : fr (pf [77, 78, 79] []) z0 z) (hr1 : 1000 ≤ r1) : Fo Prod.snd (pf [77, 78, 79] []) z0 (qm_X13_follows_7 K go x2 x3 x4 x5 x8 x9 r1 r6 r7 g0 z) := by
  unfold qm_X13_follows_7
  exact (hgo 2 _ _ _ _ _ _ _ _ _ _ z hz (fun _ => (by first | omega | decide)))
theorem fq_X13_follows {K : Nat} {z0 : ow_MS}   : ∀ (k L : Nat) (x2 : Int32) (x3 : Int32) (x4 : Int32) (x5 : Int32) (x8 : Int32) (x9 : Int32) (r1 : Nat) (r6 : Nat) (r7 : Nat) (g0 : Nat) (z : ow_MS), fr (pf [77, 78, 79] []) z0 z → (L = 0 ∨ L = 1 ∨ L = 2 ∨ L = 3 ∨ L = 4 ∨ L = 5 ∨ L = 6 ∨ L = 7 → 1000 ≤ r1) → Fo Prod.snd (pf [77, 78, 79] []) z0 (q_X13_follows K k L x2 x3 x4 x5 x8 x9 r1 r6 r7 g0 z)
  | 0 => by
    intros
    exact fo_none
  | k + 1 => by
    intro L x2 x3 x4 x5 x8 x9 r1 r6 r7 g0 z hz h9_r1
    show Fo Prod.snd (pf [77, 78, 79] []) z0 (qb_X13_follows K (q_X13_follows K k) L x2 x3 x4 x5 x8 x9 r1 r6 r7 g0 z)
    unfold qb_X13_follows
    split
    · exact fb_X13_follows_0 (fq_X13_follows k) hz (h9_r1 (by decide))
    · exact fb_X13_follows_1 (fq_X13_follows k) hz (h9_r1 (by decide))
    · exact fb_X13_follows_2 (fq_X13_follows k) hz (h9_r1 (by decide))
    · exact fb_X13_follows_3 (fq_X13_follows k) hz (h9_r1 (by decide))
    · exact fb_X13_follows_4 (fq_X13_follows k) hz (h9_r1 (by decide))
    · exact fb_X13_follows_5 (fq_X13_follows k) hz (h9_r1 (by decide))
    · exact fb_X13_follows_6 (fq_X13_follows k) hz (h9_r1 (by decide))
    · exact fb_X13_follows_7 (fq_X13_follows k) hz (h9_r1 (by decide))
    · exact fo_none
theorem ff_X13_follows {K : Nat} {r1 : Nat} {x2 : Int32} {z : ow_MS} (hr1 : 1000 ≤ r1) : Fo Prod.snd (pf [77, 78, 79] []) z (qe_X13_follows K r1 x2 z) := fq_X13_follows K 0 _ _ _ _ _ _ _ _ _ _ z fr_rf (fun _ => (by first | omega | decide))
theorem fb_X13_takeBack_0 {K : Nat} {z0 z : ow_MS}  {go : Nat → Int32 → ow_MS → Option ow_MS} {x1 : Int32}  (hgo : ∀ (L : Nat) (x1 : Int32) (z : ow_MS), fr (pf [77, 79] []) z0 z → Fo id (pf [77, 79] []) z0 (go L x1 z)) (hz : fr (pf [77, 79] []) z0 z)  : Fo id (pf [77, 79] []) z0 (qm_X13_takeBack_0 K go x1 z) := by
  unfold qm_X13_takeBack_0
  exact (fo_rdF (fun v1 => (fo_if (fo_some hz) (fo_rdF (fun v2 => (fo_wrF (Or.inl (by decide)) hz (fun z3 h_z3 => (fo_rdF (fun v4 => (fo_rdI (fun v5 => (fo_wrI (Or.inl (by decide)) h_z3 (fun z6 h_z6 => (hgo 0 _ z6 h_z6))))))))))))))
theorem fq_X13_takeBack {K : Nat} {z0 : ow_MS}   : ∀ (k L : Nat) (x1 : Int32) (z : ow_MS), fr (pf [77, 79] []) z0 z → Fo id (pf [77, 79] []) z0 (q_X13_takeBack K k L x1 z)
  | 0 => by
    intros
    exact fo_none
  | k + 1 => by
    intro L x1 z hz 
    show Fo id (pf [77, 79] []) z0 (qb_X13_takeBack K (q_X13_takeBack K k) L x1 z)
    unfold qb_X13_takeBack
    split
    · exact fb_X13_takeBack_0 (fq_X13_takeBack k) hz 
    · exact fo_none
theorem ff_X13_takeBack {K : Nat} {x1 : Int32} {z : ow_MS}  : Fo id (pf [77, 79] []) z (qe_X13_takeBack K x1 z) := fq_X13_takeBack K 0 _ z fr_rf 
theorem fb_X13_mapsOf_0 {K : Nat} {z0 z : ow_MS}  {self : Nat → Int32 → ow_MS → Option (Int32 × ow_MS)} {go : Nat → Int32 → Int32 → Int32 → Int32 → Int32 → Int32 → Nat → Int32 → ow_MS → Option (Int32 × ow_MS)} {x2 : Int32} {x3 : Int32} {x4 : Int32} {x5 : Int32} {x6 : Int32} {x7 : Int32} {r1 : Nat} {t0 : Int32} (hself : ∀ (a0 : Nat) (a1 : Int32) (z : ow_MS), fr (pf [77, 78, 79] []) z0 z → 1000 ≤ a0 → Fo Prod.snd (pf [77, 78, 79] []) z0 (self a0 a1 z)) (hgo : ∀ (L : Nat) (x2 : Int32) (x3 : Int32) (x4 : Int32) (x5 : Int32) (x6 : Int32) (x7 : Int32) (r1 : Nat) (t0 : Int32) (z : ow_MS), fr (pf [77, 78, 79] []) z0 z → (L = 0 ∨ L = 1 ∨ L = 2 ∨ L = 3 ∨ L = 4 ∨ L = 5 ∨ L = 6 → 1000 ≤ r1) → Fo Prod.snd (pf [77, 78, 79] []) z0 (go L x2 x3 x4 x5 x6 x7 r1 t0 z)) (hz : fr (pf [77, 78, 79] []) z0 z) (hr1 : 1000 ≤ r1) : Fo Prod.snd (pf [77, 78, 79] []) z0 (qm_X13_mapsOf_0 K self go x2 x3 x4 x5 x6 x7 r1 t0 z) := by
  unfold qm_X13_mapsOf_0
  exact (fo_rdF (fun v1 => (fo_cs1 (ff_X13_follows (by first | omega | decide)) (pf_sub (by decide) pf_0) hz (fun v3 z2 h_z2 => (fo_if (hgo 6 _ _ _ _ _ _ _ _ z2 h_z2 (fun _ => (by first | omega | decide))) (hgo 1 _ _ _ _ _ _ _ _ z2 h_z2 (fun _ => (by first | omega | decide))))))))
theorem fb_X13_mapsOf_1 {K : Nat} {z0 z : ow_MS}  {self : Nat → Int32 → ow_MS → Option (Int32 × ow_MS)} {go : Nat → Int32 → Int32 → Int32 → Int32 → Int32 → Int32 → Nat → Int32 → ow_MS → Option (Int32 × ow_MS)} {x2 : Int32} {x3 : Int32} {x4 : Int32} {x5 : Int32} {x6 : Int32} {x7 : Int32} {r1 : Nat} {t0 : Int32} (hself : ∀ (a0 : Nat) (a1 : Int32) (z : ow_MS), fr (pf [77, 78, 79] []) z0 z → 1000 ≤ a0 → Fo Prod.snd (pf [77, 78, 79] []) z0 (self a0 a1 z)) (hgo : ∀ (L : Nat) (x2 : Int32) (x3 : Int32) (x4 : Int32) (x5 : Int32) (x6 : Int32) (x7 : Int32) (r1 : Nat) (t0 : Int32) (z : ow_MS), fr (pf [77, 78, 79] []) z0 z → (L = 0 ∨ L = 1 ∨ L = 2 ∨ L = 3 ∨ L = 4 ∨ L = 5 ∨ L = 6 → 1000 ≤ r1) → Fo Prod.snd (pf [77, 78, 79] []) z0 (go L x2 x3 x4 x5 x6 x7 r1 t0 z)) (hz : fr (pf [77, 78, 79] []) z0 z) (hr1 : 1000 ≤ r1) : Fo Prod.snd (pf [77, 78, 79] []) z0 (qm_X13_mapsOf_1 K self go x2 x3 x4 x5 x6 x7 r1 t0 z) := by
  unfold qm_X13_mapsOf_1
  exact (fo_rdF (fun v4 => (fo_nzI (fo_if (hgo 4 _ _ _ _ _ _ _ _ z hz (fun _ => (by first | omega | decide))) (fo_if (fo_rdI (fun v5 => (fo_if (hgo 3 _ _ _ _ _ _ _ _ z hz (fun _ => (by first | omega | decide))) (fo_rdI (fun v6 => (fo_rdI (fun v7 => (fo_if (fo_rdI (fun v14 => (hgo 2 _ _ _ _ _ _ _ _ z hz (fun _ => (by first | omega | decide))))) (fo_rdI (fun v8 => (fo_rdI (fun v9 => (fo_if (fo_rdI (fun v13 => (hgo 2 _ _ _ _ _ _ _ _ z hz (fun _ => (by first | omega | decide))))) (fo_rdI (fun v10 => (fo_rdI (fun v11 => (fo_if (fo_rdI (fun v12 => (hgo 2 _ _ _ _ _ _ _ _ z hz (fun _ => (by first | omega | decide))))) (hgo 2 _ _ _ _ _ _ _ _ z hz (fun _ => (by first | omega | decide))))))))))))))))))))) (hgo 4 _ _ _ _ _ _ _ _ z hz (fun _ => (by first | omega | decide))))))))
theorem fb_X13_mapsOf_2 {K : Nat} {z0 z : ow_MS}  {self : Nat → Int32 → ow_MS → Option (Int32 × ow_MS)} {go : Nat → Int32 → Int32 → Int32 → Int32 → Int32 → Int32 → Nat → Int32 → ow_MS → Option (Int32 × ow_MS)} {x2 : Int32} {x3 : Int32} {x4 : Int32} {x5 : Int32} {x6 : Int32} {x7 : Int32} {r1 : Nat} {t0 : Int32} (hself : ∀ (a0 : Nat) (a1 : Int32) (z : ow_MS), fr (pf [77, 78, 79] []) z0 z → 1000 ≤ a0 → Fo Prod.snd (pf [77, 78, 79] []) z0 (self a0 a1 z)) (hgo : ∀ (L : Nat) (x2 : Int32) (x3 : Int32) (x4 : Int32) (x5 : Int32) (x6 : Int32) (x7 : Int32) (r1 : Nat) (t0 : Int32) (z : ow_MS), fr (pf [77, 78, 79] []) z0 z → (L = 0 ∨ L = 1 ∨ L = 2 ∨ L = 3 ∨ L = 4 ∨ L = 5 ∨ L = 6 → 1000 ≤ r1) → Fo Prod.snd (pf [77, 78, 79] []) z0 (go L x2 x3 x4 x5 x6 x7 r1 t0 z)) (hz : fr (pf [77, 78, 79] []) z0 z) (hr1 : 1000 ≤ r1) : Fo Prod.snd (pf [77, 78, 79] []) z0 (qm_X13_mapsOf_2 K self go x2 x3 x4 x5 x6 x7 r1 t0 z) := by
  unfold qm_X13_mapsOf_2
  exact (hgo 3 _ _ _ _ _ _ _ _ z hz (fun _ => (by first | omega | decide)))
theorem fb_X13_mapsOf_3 {K : Nat} {z0 z : ow_MS}  {self : Nat → Int32 → ow_MS → Option (Int32 × ow_MS)} {go : Nat → Int32 → Int32 → Int32 → Int32 → Int32 → Int32 → Nat → Int32 → ow_MS → Option (Int32 × ow_MS)} {x2 : Int32} {x3 : Int32} {x4 : Int32} {x5 : Int32} {x6 : Int32} {x7 : Int32} {r1 : Nat} {t0 : Int32} (hself : ∀ (a0 : Nat) (a1 : Int32) (z : ow_MS), fr (pf [77, 78, 79] []) z0 z → 1000 ≤ a0 → Fo Prod.snd (pf [77, 78, 79] []) z0 (self a0 a1 z)) (hgo : ∀ (L : Nat) (x2 : Int32) (x3 : Int32) (x4 : Int32) (x5 : Int32) (x6 : Int32) (x7 : Int32) (r1 : Nat) (t0 : Int32) (z : ow_MS), fr (pf [77, 78, 79] []) z0 z → (L = 0 ∨ L = 1 ∨ L = 2 ∨ L = 3 ∨ L = 4 ∨ L = 5 ∨ L = 6 → 1000 ≤ r1) → Fo Prod.snd (pf [77, 78, 79] []) z0 (go L x2 x3 x4 x5 x6 x7 r1 t0 z)) (hz : fr (pf [77, 78, 79] []) z0 z) (hr1 : 1000 ≤ r1) : Fo Prod.snd (pf [77, 78, 79] []) z0 (qm_X13_mapsOf_3 K self go x2 x3 x4 x5 x6 x7 r1 t0 z) := by
  unfold qm_X13_mapsOf_3
  exact (hgo 1 _ _ _ _ _ _ _ _ z hz (fun _ => (by first | omega | decide)))
theorem fb_X13_mapsOf_4 {K : Nat} {z0 z : ow_MS}  {self : Nat → Int32 → ow_MS → Option (Int32 × ow_MS)} {go : Nat → Int32 → Int32 → Int32 → Int32 → Int32 → Int32 → Nat → Int32 → ow_MS → Option (Int32 × ow_MS)} {x2 : Int32} {x3 : Int32} {x4 : Int32} {x5 : Int32} {x6 : Int32} {x7 : Int32} {r1 : Nat} {t0 : Int32} (hself : ∀ (a0 : Nat) (a1 : Int32) (z : ow_MS), fr (pf [77, 78, 79] []) z0 z → 1000 ≤ a0 → Fo Prod.snd (pf [77, 78, 79] []) z0 (self a0 a1 z)) (hgo : ∀ (L : Nat) (x2 : Int32) (x3 : Int32) (x4 : Int32) (x5 : Int32) (x6 : Int32) (x7 : Int32) (r1 : Nat) (t0 : Int32) (z : ow_MS), fr (pf [77, 78, 79] []) z0 z → (L = 0 ∨ L = 1 ∨ L = 2 ∨ L = 3 ∨ L = 4 ∨ L = 5 ∨ L = 6 → 1000 ≤ r1) → Fo Prod.snd (pf [77, 78, 79] []) z0 (go L x2 x3 x4 x5 x6 x7 r1 t0 z)) (hz : fr (pf [77, 78, 79] []) z0 z) (hr1 : 1000 ≤ r1) : Fo Prod.snd (pf [77, 78, 79] []) z0 (qm_X13_mapsOf_4 K self go x2 x3 x4 x5 x6 x7 r1 t0 z) := by
  unfold qm_X13_mapsOf_4
  exact (fo_if (hgo 6 _ _ _ _ _ _ _ _ z hz (fun _ => (by first | omega | decide))) (fo_rdF (fun v15 => (hgo 5 _ _ _ _ _ _ _ _ z hz (fun _ => (by first | omega | decide))))))
theorem fb_X13_mapsOf_5 {K : Nat} {z0 z : ow_MS}  {self : Nat → Int32 → ow_MS → Option (Int32 × ow_MS)} {go : Nat → Int32 → Int32 → Int32 → Int32 → Int32 → Int32 → Nat → Int32 → ow_MS → Option (Int32 × ow_MS)} {x2 : Int32} {x3 : Int32} {x4 : Int32} {x5 : Int32} {x6 : Int32} {x7 : Int32} {r1 : Nat} {t0 : Int32} (hself : ∀ (a0 : Nat) (a1 : Int32) (z : ow_MS), fr (pf [77, 78, 79] []) z0 z → 1000 ≤ a0 → Fo Prod.snd (pf [77, 78, 79] []) z0 (self a0 a1 z)) (hgo : ∀ (L : Nat) (x2 : Int32) (x3 : Int32) (x4 : Int32) (x5 : Int32) (x6 : Int32) (x7 : Int32) (r1 : Nat) (t0 : Int32) (z : ow_MS), fr (pf [77, 78, 79] []) z0 z → (L = 0 ∨ L = 1 ∨ L = 2 ∨ L = 3 ∨ L = 4 ∨ L = 5 ∨ L = 6 → 1000 ≤ r1) → Fo Prod.snd (pf [77, 78, 79] []) z0 (go L x2 x3 x4 x5 x6 x7 r1 t0 z)) (hz : fr (pf [77, 78, 79] []) z0 z) (hr1 : 1000 ≤ r1) : Fo Prod.snd (pf [77, 78, 79] []) z0 (qm_X13_mapsOf_5 K self go x2 x3 x4 x5 x6 x7 r1 t0 z) := by
  unfold qm_X13_mapsOf_5
  exact (fo_rdI (fun v16 => (fo_if (hgo 6 _ _ _ _ _ _ _ _ z hz (fun _ => (by first | omega | decide))) (fo_cs0 (ff_X13_give) (pf_sub (by decide) pf_0) hz (fun z17 h_z17 => (fo_ss1 (hself _ _ z17 h_z17 (by omega)) (fun v19 z18 h_z18 => (fo_cs0 (ff_X13_takeBack) (pf_sub (by decide) pf_0) h_z18 (fun z20 h_z20 => (hgo 5 _ _ _ _ _ _ _ _ z20 h_z20 (fun _ => (by first | omega | decide))))))))))))
theorem fb_X13_mapsOf_6 {K : Nat} {z0 z : ow_MS}  {self : Nat → Int32 → ow_MS → Option (Int32 × ow_MS)} {go : Nat → Int32 → Int32 → Int32 → Int32 → Int32 → Int32 → Nat → Int32 → ow_MS → Option (Int32 × ow_MS)} {x2 : Int32} {x3 : Int32} {x4 : Int32} {x5 : Int32} {x6 : Int32} {x7 : Int32} {r1 : Nat} {t0 : Int32} (hself : ∀ (a0 : Nat) (a1 : Int32) (z : ow_MS), fr (pf [77, 78, 79] []) z0 z → 1000 ≤ a0 → Fo Prod.snd (pf [77, 78, 79] []) z0 (self a0 a1 z)) (hgo : ∀ (L : Nat) (x2 : Int32) (x3 : Int32) (x4 : Int32) (x5 : Int32) (x6 : Int32) (x7 : Int32) (r1 : Nat) (t0 : Int32) (z : ow_MS), fr (pf [77, 78, 79] []) z0 z → (L = 0 ∨ L = 1 ∨ L = 2 ∨ L = 3 ∨ L = 4 ∨ L = 5 ∨ L = 6 → 1000 ≤ r1) → Fo Prod.snd (pf [77, 78, 79] []) z0 (go L x2 x3 x4 x5 x6 x7 r1 t0 z)) (hz : fr (pf [77, 78, 79] []) z0 z) (hr1 : 1000 ≤ r1) : Fo Prod.snd (pf [77, 78, 79] []) z0 (qm_X13_mapsOf_6 K self go x2 x3 x4 x5 x6 x7 r1 t0 z) := by
  unfold qm_X13_mapsOf_6
  exact (fo_cs0 (ff_X13_takeBack) (pf_sub (by decide) pf_0) hz (fun z21 h_z21 => (fo_some h_z21)))
theorem fq_X13_mapsOf {K : Nat} {z0 : ow_MS}  {self : Nat → Int32 → ow_MS → Option (Int32 × ow_MS)} (hself : ∀ (a0 : Nat) (a1 : Int32) (z : ow_MS), fr (pf [77, 78, 79] []) z0 z → 1000 ≤ a0 → Fo Prod.snd (pf [77, 78, 79] []) z0 (self a0 a1 z)) : ∀ (k L : Nat) (x2 : Int32) (x3 : Int32) (x4 : Int32) (x5 : Int32) (x6 : Int32) (x7 : Int32) (r1 : Nat) (t0 : Int32) (z : ow_MS), fr (pf [77, 78, 79] []) z0 z → (L = 0 ∨ L = 1 ∨ L = 2 ∨ L = 3 ∨ L = 4 ∨ L = 5 ∨ L = 6 → 1000 ≤ r1) → Fo Prod.snd (pf [77, 78, 79] []) z0 (q_X13_mapsOf K self k L x2 x3 x4 x5 x6 x7 r1 t0 z)
  | 0 => by
    intros
    exact fo_none
  | k + 1 => by
    intro L x2 x3 x4 x5 x6 x7 r1 t0 z hz h9_r1
    show Fo Prod.snd (pf [77, 78, 79] []) z0 (qb_X13_mapsOf K self (q_X13_mapsOf K self k) L x2 x3 x4 x5 x6 x7 r1 t0 z)
    unfold qb_X13_mapsOf
    split
    · exact fb_X13_mapsOf_0 hself (fq_X13_mapsOf hself k) hz (h9_r1 (by decide))
    · exact fb_X13_mapsOf_1 hself (fq_X13_mapsOf hself k) hz (h9_r1 (by decide))
    · exact fb_X13_mapsOf_2 hself (fq_X13_mapsOf hself k) hz (h9_r1 (by decide))
    · exact fb_X13_mapsOf_3 hself (fq_X13_mapsOf hself k) hz (h9_r1 (by decide))
    · exact fb_X13_mapsOf_4 hself (fq_X13_mapsOf hself k) hz (h9_r1 (by decide))
    · exact fb_X13_mapsOf_5 hself (fq_X13_mapsOf hself k) hz (h9_r1 (by decide))
    · exact fb_X13_mapsOf_6 hself (fq_X13_mapsOf hself k) hz (h9_r1 (by decide))
    · exact fo_none
theorem fd_X13_mapsOf {K : Nat} {z0 : ow_MS} : ∀ (d : Nat) (r1 : Nat) (x2 : Int32) (z : ow_MS), fr (pf [77, 78, 79] []) z0 z → 1000 ≤ r1 → Fo Prod.snd (pf [77, 78, 79] []) z0 (qd_X13_mapsOf K d r1 x2 z)
  | 0 => by
    intros
    exact fo_none
  | d + 1 => by
    intro r1 x2 z hz hr1
    exact fq_X13_mapsOf (fd_X13_mapsOf d) K 0 _ _ _ _ _ _ _ _ z hz (fun _ => (by first | omega | decide))
theorem ff_X13_mapsOf {K : Nat} {r1 : Nat} {x2 : Int32} {z : ow_MS} (hr1 : 1000 ≤ r1) : Fo Prod.snd (pf [77, 78, 79] []) z (qe_X13_mapsOf K r1 x2 z) := fd_X13_mapsOf 42 _ _ z fr_rf hr1
theorem fb_X13_maps_0 {K : Nat} {z0 z : ow_MS}  {go : Nat → Int32 → Int32 → Int32 → Int32 → Int32 → Int32 → Int32 → Int32 → ow_MS → Option (Int32 × ow_MS)} {x1 : Int32} {x2 : Int32} {x3 : Int32} {x4 : Int32} {x5 : Int32} {x6 : Int32} {t0 : Int32} {t1 : Int32}  (hgo : ∀ (L : Nat) (x1 : Int32) (x2 : Int32) (x3 : Int32) (x4 : Int32) (x5 : Int32) (x6 : Int32) (t0 : Int32) (t1 : Int32) (z : ow_MS), fr (pf [1, 58, 59, 60, 61, 62, 63, 77, 78, 79, 80] []) z0 z → Fo Prod.snd (pf [1, 58, 59, 60, 61, 62, 63, 77, 78, 79, 80] []) z0 (go L x1 x2 x3 x4 x5 x6 t0 t1 z)) (hz : fr (pf [1, 58, 59, 60, 61, 62, 63, 77, 78, 79, 80] []) z0 z)  : Fo Prod.snd (pf [1, 58, 59, 60, 61, 62, 63, 77, 78, 79, 80] []) z0 (qm_X13_maps_0 K go x1 x2 x3 x4 x5 x6 t0 t1 z) := by
  unfold qm_X13_maps_0
  exact (fo_wrF (Or.inl (by decide)) hz (fun z1 h_z1 => (fo_cs1 (ff_X13_has) (pf_sub (by decide) pf_0) h_z1 (fun v3 z2 h_z2 => (fo_if (fo_cs1 (ff_X13_fails) (pf_sub (by decide) pf_0) h_z2 (fun v10 z9 h_z9 => (fo_some h_z9))) (fo_if (hgo 1 _ _ _ _ _ _ _ _ z2 h_z2) (fo_if (fo_cs0 (ff_X13_open (by first | omega | decide)) (pf_sub (by decide) pf_0) h_z2 (fun z4 h_z4 => (fo_rdF (fun v5 => (fo_if (hgo 2 _ _ _ _ _ _ _ _ z4 h_z4) (fo_rdF (fun v6 => (fo_if (fo_cs0 (ff_X12_split (by first | omega | decide)) (pf_sub (by decide) pf_0) h_z4 (fun z7 h_z7 => (fo_cs0 (ff_X13_makeArcs (by first | omega | decide)) (pf_sub (by decide) pf_0) h_z7 (fun z8 h_z8 => (hgo 3 _ _ _ _ _ _ _ _ z8 h_z8))))) (hgo 2 _ _ _ _ _ _ _ _ z4 h_z4))))))))) (hgo 1 _ _ _ _ _ _ _ _ z2 h_z2))))))))
theorem fb_X13_maps_1 {K : Nat} {z0 z : ow_MS}  {go : Nat → Int32 → Int32 → Int32 → Int32 → Int32 → Int32 → Int32 → Int32 → ow_MS → Option (Int32 × ow_MS)} {x1 : Int32} {x2 : Int32} {x3 : Int32} {x4 : Int32} {x5 : Int32} {x6 : Int32} {t0 : Int32} {t1 : Int32}  (hgo : ∀ (L : Nat) (x1 : Int32) (x2 : Int32) (x3 : Int32) (x4 : Int32) (x5 : Int32) (x6 : Int32) (t0 : Int32) (t1 : Int32) (z : ow_MS), fr (pf [1, 58, 59, 60, 61, 62, 63, 77, 78, 79, 80] []) z0 z → Fo Prod.snd (pf [1, 58, 59, 60, 61, 62, 63, 77, 78, 79, 80] []) z0 (go L x1 x2 x3 x4 x5 x6 t0 t1 z)) (hz : fr (pf [1, 58, 59, 60, 61, 62, 63, 77, 78, 79, 80] []) z0 z)  : Fo Prod.snd (pf [1, 58, 59, 60, 61, 62, 63, 77, 78, 79, 80] []) z0 (qm_X13_maps_1 K go x1 x2 x3 x4 x5 x6 t0 t1 z) := by
  unfold qm_X13_maps_1
  exact (fo_cs1 (ff_X13_fails) (pf_sub (by decide) pf_0) hz (fun v12 z11 h_z11 => (fo_some h_z11)))
theorem fb_X13_maps_2 {K : Nat} {z0 z : ow_MS}  {go : Nat → Int32 → Int32 → Int32 → Int32 → Int32 → Int32 → Int32 → Int32 → ow_MS → Option (Int32 × ow_MS)} {x1 : Int32} {x2 : Int32} {x3 : Int32} {x4 : Int32} {x5 : Int32} {x6 : Int32} {t0 : Int32} {t1 : Int32}  (hgo : ∀ (L : Nat) (x1 : Int32) (x2 : Int32) (x3 : Int32) (x4 : Int32) (x5 : Int32) (x6 : Int32) (t0 : Int32) (t1 : Int32) (z : ow_MS), fr (pf [1, 58, 59, 60, 61, 62, 63, 77, 78, 79, 80] []) z0 z → Fo Prod.snd (pf [1, 58, 59, 60, 61, 62, 63, 77, 78, 79, 80] []) z0 (go L x1 x2 x3 x4 x5 x6 t0 t1 z)) (hz : fr (pf [1, 58, 59, 60, 61, 62, 63, 77, 78, 79, 80] []) z0 z)  : Fo Prod.snd (pf [1, 58, 59, 60, 61, 62, 63, 77, 78, 79, 80] []) z0 (qm_X13_maps_2 K go x1 x2 x3 x4 x5 x6 t0 t1 z) := by
  unfold qm_X13_maps_2
  exact (fo_cs1 (ff_X13_fails) (pf_sub (by decide) pf_0) hz (fun v14 z13 h_z13 => (fo_some h_z13)))
theorem fb_X13_maps_3 {K : Nat} {z0 z : ow_MS}  {go : Nat → Int32 → Int32 → Int32 → Int32 → Int32 → Int32 → Int32 → Int32 → ow_MS → Option (Int32 × ow_MS)} {x1 : Int32} {x2 : Int32} {x3 : Int32} {x4 : Int32} {x5 : Int32} {x6 : Int32} {t0 : Int32} {t1 : Int32}  (hgo : ∀ (L : Nat) (x1 : Int32) (x2 : Int32) (x3 : Int32) (x4 : Int32) (x5 : Int32) (x6 : Int32) (t0 : Int32) (t1 : Int32) (z : ow_MS), fr (pf [1, 58, 59, 60, 61, 62, 63, 77, 78, 79, 80] []) z0 z → Fo Prod.snd (pf [1, 58, 59, 60, 61, 62, 63, 77, 78, 79, 80] []) z0 (go L x1 x2 x3 x4 x5 x6 t0 t1 z)) (hz : fr (pf [1, 58, 59, 60, 61, 62, 63, 77, 78, 79, 80] []) z0 z)  : Fo Prod.snd (pf [1, 58, 59, 60, 61, 62, 63, 77, 78, 79, 80] []) z0 (qm_X13_maps_3 K go x1 x2 x3 x4 x5 x6 t0 t1 z) := by
  unfold qm_X13_maps_3
  exact (fo_rdF (fun v15 => (fo_if (fo_some hz) (hgo 4 _ _ _ _ _ _ _ _ z hz))))
theorem fb_X13_maps_4 {K : Nat} {z0 z : ow_MS}  {go : Nat → Int32 → Int32 → Int32 → Int32 → Int32 → Int32 → Int32 → Int32 → ow_MS → Option (Int32 × ow_MS)} {x1 : Int32} {x2 : Int32} {x3 : Int32} {x4 : Int32} {x5 : Int32} {x6 : Int32} {t0 : Int32} {t1 : Int32}  (hgo : ∀ (L : Nat) (x1 : Int32) (x2 : Int32) (x3 : Int32) (x4 : Int32) (x5 : Int32) (x6 : Int32) (t0 : Int32) (t1 : Int32) (z : ow_MS), fr (pf [1, 58, 59, 60, 61, 62, 63, 77, 78, 79, 80] []) z0 z → Fo Prod.snd (pf [1, 58, 59, 60, 61, 62, 63, 77, 78, 79, 80] []) z0 (go L x1 x2 x3 x4 x5 x6 t0 t1 z)) (hz : fr (pf [1, 58, 59, 60, 61, 62, 63, 77, 78, 79, 80] []) z0 z)  : Fo Prod.snd (pf [1, 58, 59, 60, 61, 62, 63, 77, 78, 79, 80] []) z0 (qm_X13_maps_4 K go x1 x2 x3 x4 x5 x6 t0 t1 z) := by
  unfold qm_X13_maps_4
  exact (fo_if (hgo 5 _ _ _ _ _ _ _ _ z hz) (fo_wrI (Or.inl (by decide)) hz (fun z16 h_z16 => (hgo 4 _ _ _ _ _ _ _ _ z16 h_z16))))
theorem fb_X13_maps_5 {K : Nat} {z0 z : ow_MS}  {go : Nat → Int32 → Int32 → Int32 → Int32 → Int32 → Int32 → Int32 → Int32 → ow_MS → Option (Int32 × ow_MS)} {x1 : Int32} {x2 : Int32} {x3 : Int32} {x4 : Int32} {x5 : Int32} {x6 : Int32} {t0 : Int32} {t1 : Int32}  (hgo : ∀ (L : Nat) (x1 : Int32) (x2 : Int32) (x3 : Int32) (x4 : Int32) (x5 : Int32) (x6 : Int32) (t0 : Int32) (t1 : Int32) (z : ow_MS), fr (pf [1, 58, 59, 60, 61, 62, 63, 77, 78, 79, 80] []) z0 z → Fo Prod.snd (pf [1, 58, 59, 60, 61, 62, 63, 77, 78, 79, 80] []) z0 (go L x1 x2 x3 x4 x5 x6 t0 t1 z)) (hz : fr (pf [1, 58, 59, 60, 61, 62, 63, 77, 78, 79, 80] []) z0 z)  : Fo Prod.snd (pf [1, 58, 59, 60, 61, 62, 63, 77, 78, 79, 80] []) z0 (qm_X13_maps_5 K go x1 x2 x3 x4 x5 x6 t0 t1 z) := by
  unfold qm_X13_maps_5
  exact (fo_rdF (fun v17 => (fo_if (fo_wrF (Or.inl (by decide)) hz (fun z18 h_z18 => (fo_if (fo_rdI (fun v19 => (hgo 7 _ _ _ _ _ _ _ _ z18 h_z18))) (fo_cs1 (ff_X13_mapsOf (by first | omega | decide)) (pf_sub (by decide) pf_0) h_z18 (fun v21 z20 h_z20 => (hgo 7 _ _ _ _ _ _ _ _ z20 h_z20)))))) (fo_rdI (fun v22 => (fo_rdI (fun v23 => (fo_if (hgo 6 _ _ _ _ _ _ _ _ z hz) (hgo 6 _ _ _ _ _ _ _ _ z hz)))))))))
theorem fb_X13_maps_6 {K : Nat} {z0 z : ow_MS}  {go : Nat → Int32 → Int32 → Int32 → Int32 → Int32 → Int32 → Int32 → Int32 → ow_MS → Option (Int32 × ow_MS)} {x1 : Int32} {x2 : Int32} {x3 : Int32} {x4 : Int32} {x5 : Int32} {x6 : Int32} {t0 : Int32} {t1 : Int32}  (hgo : ∀ (L : Nat) (x1 : Int32) (x2 : Int32) (x3 : Int32) (x4 : Int32) (x5 : Int32) (x6 : Int32) (t0 : Int32) (t1 : Int32) (z : ow_MS), fr (pf [1, 58, 59, 60, 61, 62, 63, 77, 78, 79, 80] []) z0 z → Fo Prod.snd (pf [1, 58, 59, 60, 61, 62, 63, 77, 78, 79, 80] []) z0 (go L x1 x2 x3 x4 x5 x6 t0 t1 z)) (hz : fr (pf [1, 58, 59, 60, 61, 62, 63, 77, 78, 79, 80] []) z0 z)  : Fo Prod.snd (pf [1, 58, 59, 60, 61, 62, 63, 77, 78, 79, 80] []) z0 (qm_X13_maps_6 K go x1 x2 x3 x4 x5 x6 t0 t1 z) := by
  unfold qm_X13_maps_6
  exact (fo_rdI (fun v24 => (fo_wrZ (Or.inl (by decide)) hz (fun z25 h_z25 => (hgo 5 _ _ _ _ _ _ _ _ z25 h_z25)))))
theorem fb_X13_maps_7 {K : Nat} {z0 z : ow_MS}  {go : Nat → Int32 → Int32 → Int32 → Int32 → Int32 → Int32 → Int32 → Int32 → ow_MS → Option (Int32 × ow_MS)} {x1 : Int32} {x2 : Int32} {x3 : Int32} {x4 : Int32} {x5 : Int32} {x6 : Int32} {t0 : Int32} {t1 : Int32}  (hgo : ∀ (L : Nat) (x1 : Int32) (x2 : Int32) (x3 : Int32) (x4 : Int32) (x5 : Int32) (x6 : Int32) (t0 : Int32) (t1 : Int32) (z : ow_MS), fr (pf [1, 58, 59, 60, 61, 62, 63, 77, 78, 79, 80] []) z0 z → Fo Prod.snd (pf [1, 58, 59, 60, 61, 62, 63, 77, 78, 79, 80] []) z0 (go L x1 x2 x3 x4 x5 x6 t0 t1 z)) (hz : fr (pf [1, 58, 59, 60, 61, 62, 63, 77, 78, 79, 80] []) z0 z)  : Fo Prod.snd (pf [1, 58, 59, 60, 61, 62, 63, 77, 78, 79, 80] []) z0 (qm_X13_maps_7 K go x1 x2 x3 x4 x5 x6 t0 t1 z) := by
  unfold qm_X13_maps_7
  exact (hgo 3 _ _ _ _ _ _ _ _ z hz)
theorem fq_X13_maps {K : Nat} {z0 : ow_MS}   : ∀ (k L : Nat) (x1 : Int32) (x2 : Int32) (x3 : Int32) (x4 : Int32) (x5 : Int32) (x6 : Int32) (t0 : Int32) (t1 : Int32) (z : ow_MS), fr (pf [1, 58, 59, 60, 61, 62, 63, 77, 78, 79, 80] []) z0 z → Fo Prod.snd (pf [1, 58, 59, 60, 61, 62, 63, 77, 78, 79, 80] []) z0 (q_X13_maps K k L x1 x2 x3 x4 x5 x6 t0 t1 z)
  | 0 => by
    intros
    exact fo_none
  | k + 1 => by
    intro L x1 x2 x3 x4 x5 x6 t0 t1 z hz 
    show Fo Prod.snd (pf [1, 58, 59, 60, 61, 62, 63, 77, 78, 79, 80] []) z0 (qb_X13_maps K (q_X13_maps K k) L x1 x2 x3 x4 x5 x6 t0 t1 z)
    unfold qb_X13_maps
    split
    · exact fb_X13_maps_0 (fq_X13_maps k) hz 
    · exact fb_X13_maps_1 (fq_X13_maps k) hz 
    · exact fb_X13_maps_2 (fq_X13_maps k) hz 
    · exact fb_X13_maps_3 (fq_X13_maps k) hz 
    · exact fb_X13_maps_4 (fq_X13_maps k) hz 
    · exact fb_X13_maps_5 (fq_X13_maps k) hz 
    · exact fb_X13_maps_6 (fq_X13_maps k) hz 
    · exact fb_X13_maps_7 (fq_X13_maps k) hz 
    · exact fo_none
theorem ff_X13_maps {K : Nat} {x1 : Int32} {x2 : Int32} {z : ow_MS}  : Fo Prod.snd (pf [1, 58, 59, 60, 61, 62, 63, 77, 78, 79, 80] []) z (qe_X13_maps K x1 x2 z) := fq_X13_maps K 0 _ _ _ _ _ _ _ _ z fr_rf 
end
section
/-! 99zzzzzzzzzzzzid.fo3 -/
/-! frames of the reference, on -/
theorem fb_X13_isPrime_0 {K : Nat} {z0 z : ow_MS}  {go : Nat → Int32 → Int32 → Int32 → Int32 → ow_MS → Option (Int32 × ow_MS)} {x0 : Int32} {x1 : Int32} {x2 : Int32} {t0 : Int32}  (hgo : ∀ (L : Nat) (x0 : Int32) (x1 : Int32) (x2 : Int32) (t0 : Int32) (z : ow_MS), fr (pf [] []) z0 z → Fo Prod.snd (pf [] []) z0 (go L x0 x1 x2 t0 z)) (hz : fr (pf [] []) z0 z)  : Fo Prod.snd (pf [] []) z0 (qm_X13_isPrime_0 K go x0 x1 x2 t0 z) := by
  unfold qm_X13_isPrime_0
  exact (fo_if (hgo 1 _ _ _ _ z hz) (fo_if (hgo 1 _ _ _ _ z hz) (hgo 2 _ _ _ _ z hz)))
theorem fb_X13_isPrime_1 {K : Nat} {z0 z : ow_MS}  {go : Nat → Int32 → Int32 → Int32 → Int32 → ow_MS → Option (Int32 × ow_MS)} {x0 : Int32} {x1 : Int32} {x2 : Int32} {t0 : Int32}  (hgo : ∀ (L : Nat) (x0 : Int32) (x1 : Int32) (x2 : Int32) (t0 : Int32) (z : ow_MS), fr (pf [] []) z0 z → Fo Prod.snd (pf [] []) z0 (go L x0 x1 x2 t0 z)) (hz : fr (pf [] []) z0 z)  : Fo Prod.snd (pf [] []) z0 (qm_X13_isPrime_1 K go x0 x1 x2 t0 z) := by
  unfold qm_X13_isPrime_1
  exact (hgo 2 _ _ _ _ z hz)
theorem fb_X13_isPrime_2 {K : Nat} {z0 z : ow_MS}  {go : Nat → Int32 → Int32 → Int32 → Int32 → ow_MS → Option (Int32 × ow_MS)} {x0 : Int32} {x1 : Int32} {x2 : Int32} {t0 : Int32}  (hgo : ∀ (L : Nat) (x0 : Int32) (x1 : Int32) (x2 : Int32) (t0 : Int32) (z : ow_MS), fr (pf [] []) z0 z → Fo Prod.snd (pf [] []) z0 (go L x0 x1 x2 t0 z)) (hz : fr (pf [] []) z0 z)  : Fo Prod.snd (pf [] []) z0 (qm_X13_isPrime_2 K go x0 x1 x2 t0 z) := by
  unfold qm_X13_isPrime_2
  exact (hgo 3 _ _ _ _ z hz)
theorem fb_X13_isPrime_3 {K : Nat} {z0 z : ow_MS}  {go : Nat → Int32 → Int32 → Int32 → Int32 → ow_MS → Option (Int32 × ow_MS)} {x0 : Int32} {x1 : Int32} {x2 : Int32} {t0 : Int32}  (hgo : ∀ (L : Nat) (x0 : Int32) (x1 : Int32) (x2 : Int32) (t0 : Int32) (z : ow_MS), fr (pf [] []) z0 z → Fo Prod.snd (pf [] []) z0 (go L x0 x1 x2 t0 z)) (hz : fr (pf [] []) z0 z)  : Fo Prod.snd (pf [] []) z0 (qm_X13_isPrime_3 K go x0 x1 x2 t0 z) := by
  unfold qm_X13_isPrime_3
  exact (fo_if (fo_okZ (fo_some hz)) (fo_if (fo_okZ (fo_some hz)) (fo_nzI (fo_if (hgo 4 _ _ _ _ z hz) (hgo 4 _ _ _ _ z hz)))))
theorem fb_X13_isPrime_4 {K : Nat} {z0 z : ow_MS}  {go : Nat → Int32 → Int32 → Int32 → Int32 → ow_MS → Option (Int32 × ow_MS)} {x0 : Int32} {x1 : Int32} {x2 : Int32} {t0 : Int32}  (hgo : ∀ (L : Nat) (x0 : Int32) (x1 : Int32) (x2 : Int32) (t0 : Int32) (z : ow_MS), fr (pf [] []) z0 z → Fo Prod.snd (pf [] []) z0 (go L x0 x1 x2 t0 z)) (hz : fr (pf [] []) z0 z)  : Fo Prod.snd (pf [] []) z0 (qm_X13_isPrime_4 K go x0 x1 x2 t0 z) := by
  unfold qm_X13_isPrime_4
  exact (hgo 3 _ _ _ _ z hz)
theorem fq_X13_isPrime {K : Nat} {z0 : ow_MS}   : ∀ (k L : Nat) (x0 : Int32) (x1 : Int32) (x2 : Int32) (t0 : Int32) (z : ow_MS), fr (pf [] []) z0 z → Fo Prod.snd (pf [] []) z0 (q_X13_isPrime K k L x0 x1 x2 t0 z)
  | 0 => by
    intros
    exact fo_none
  | k + 1 => by
    intro L x0 x1 x2 t0 z hz 
    show Fo Prod.snd (pf [] []) z0 (qb_X13_isPrime K (q_X13_isPrime K k) L x0 x1 x2 t0 z)
    unfold qb_X13_isPrime
    split
    · exact fb_X13_isPrime_0 (fq_X13_isPrime k) hz 
    · exact fb_X13_isPrime_1 (fq_X13_isPrime k) hz 
    · exact fb_X13_isPrime_2 (fq_X13_isPrime k) hz 
    · exact fb_X13_isPrime_3 (fq_X13_isPrime k) hz 
    · exact fb_X13_isPrime_4 (fq_X13_isPrime k) hz 
    · exact fo_none
theorem ff_X13_isPrime {K : Nat} {x0 : Int32} {z : ow_MS}  : Fo Prod.snd (pf [] []) z (qe_X13_isPrime K x0 z) := fq_X13_isPrime K 0 _ _ _ _ z fr_rf 
theorem fb_X13_makeStates_0 {K : Nat} {z0 z : ow_MS}  {go : Nat → Int32 → Int32 → Int32 → Int32 → Int32 → Int32 → Nat → ow_MS → Option ow_MS} {x2 : Int32} {x3 : Int32} {x4 : Int32} {x5 : Int32} {x6 : Int32} {x7 : Int32} {r1 : Nat}  (hgo : ∀ (L : Nat) (x2 : Int32) (x3 : Int32) (x4 : Int32) (x5 : Int32) (x6 : Int32) (x7 : Int32) (r1 : Nat) (z : ow_MS), fr (pf [47, 81, 82, 83] []) z0 z → (L = 0 ∨ L = 1 ∨ L = 2 ∨ L = 3 ∨ L = 4 → 1000 ≤ r1) → Fo id (pf [47, 81, 82, 83] []) z0 (go L x2 x3 x4 x5 x6 x7 r1 z)) (hz : fr (pf [47, 81, 82, 83] []) z0 z) (hr1 : 1000 ≤ r1) : Fo id (pf [47, 81, 82, 83] []) z0 (qm_X13_makeStates_0 K go x2 x3 x4 x5 x6 x7 r1 z) := by
  unfold qm_X13_makeStates_0
  exact (fo_cs1 (ff_X13_circlesOf (by first | omega | decide)) (pf_sub (by decide) pf_0) hz (fun v2 z1 h_z1 => (fo_rdF (fun v3 => (fo_nzI (hgo 1 _ _ _ _ _ _ _ z1 h_z1 (fun _ => (by first | omega | decide))))))))
theorem fb_X13_makeStates_1 {K : Nat} {z0 z : ow_MS}  {go : Nat → Int32 → Int32 → Int32 → Int32 → Int32 → Int32 → Nat → ow_MS → Option ow_MS} {x2 : Int32} {x3 : Int32} {x4 : Int32} {x5 : Int32} {x6 : Int32} {x7 : Int32} {r1 : Nat}  (hgo : ∀ (L : Nat) (x2 : Int32) (x3 : Int32) (x4 : Int32) (x5 : Int32) (x6 : Int32) (x7 : Int32) (r1 : Nat) (z : ow_MS), fr (pf [47, 81, 82, 83] []) z0 z → (L = 0 ∨ L = 1 ∨ L = 2 ∨ L = 3 ∨ L = 4 → 1000 ≤ r1) → Fo id (pf [47, 81, 82, 83] []) z0 (go L x2 x3 x4 x5 x6 x7 r1 z)) (hz : fr (pf [47, 81, 82, 83] []) z0 z) (hr1 : 1000 ≤ r1) : Fo id (pf [47, 81, 82, 83] []) z0 (qm_X13_makeStates_1 K go x2 x3 x4 x5 x6 x7 r1 z) := by
  unfold qm_X13_makeStates_1
  exact (fo_if (fo_wrI (Or.inl (by decide)) hz (fun z4 h_z4 => (fo_some h_z4))) (fo_cs0 (ff_X13_loops (by first | omega | decide)) (pf_sub (by decide) pf_0) hz (fun z5 h_z5 => (hgo 2 _ _ _ _ _ _ _ z5 h_z5 (fun _ => (by first | omega | decide))))))
theorem fb_X13_makeStates_2 {K : Nat} {z0 z : ow_MS}  {go : Nat → Int32 → Int32 → Int32 → Int32 → Int32 → Int32 → Nat → ow_MS → Option ow_MS} {x2 : Int32} {x3 : Int32} {x4 : Int32} {x5 : Int32} {x6 : Int32} {x7 : Int32} {r1 : Nat}  (hgo : ∀ (L : Nat) (x2 : Int32) (x3 : Int32) (x4 : Int32) (x5 : Int32) (x6 : Int32) (x7 : Int32) (r1 : Nat) (z : ow_MS), fr (pf [47, 81, 82, 83] []) z0 z → (L = 0 ∨ L = 1 ∨ L = 2 ∨ L = 3 ∨ L = 4 → 1000 ≤ r1) → Fo id (pf [47, 81, 82, 83] []) z0 (go L x2 x3 x4 x5 x6 x7 r1 z)) (hz : fr (pf [47, 81, 82, 83] []) z0 z) (hr1 : 1000 ≤ r1) : Fo id (pf [47, 81, 82, 83] []) z0 (qm_X13_makeStates_2 K go x2 x3 x4 x5 x6 x7 r1 z) := by
  unfold qm_X13_makeStates_2
  exact (fo_rdF (fun v6 => (fo_if (hgo 4 _ _ _ _ _ _ _ z hz (fun _ => (by first | omega | decide))) (fo_rdI (fun v7 => (fo_if (fo_wrB (Or.inl (by decide)) hz (fun z8 h_z8 => (hgo 3 _ _ _ _ _ _ _ z8 h_z8 (fun _ => (by first | omega | decide))))) (hgo 3 _ _ _ _ _ _ _ z hz (fun _ => (by first | omega | decide)))))))))
theorem fb_X13_makeStates_3 {K : Nat} {z0 z : ow_MS}  {go : Nat → Int32 → Int32 → Int32 → Int32 → Int32 → Int32 → Nat → ow_MS → Option ow_MS} {x2 : Int32} {x3 : Int32} {x4 : Int32} {x5 : Int32} {x6 : Int32} {x7 : Int32} {r1 : Nat}  (hgo : ∀ (L : Nat) (x2 : Int32) (x3 : Int32) (x4 : Int32) (x5 : Int32) (x6 : Int32) (x7 : Int32) (r1 : Nat) (z : ow_MS), fr (pf [47, 81, 82, 83] []) z0 z → (L = 0 ∨ L = 1 ∨ L = 2 ∨ L = 3 ∨ L = 4 → 1000 ≤ r1) → Fo id (pf [47, 81, 82, 83] []) z0 (go L x2 x3 x4 x5 x6 x7 r1 z)) (hz : fr (pf [47, 81, 82, 83] []) z0 z) (hr1 : 1000 ≤ r1) : Fo id (pf [47, 81, 82, 83] []) z0 (qm_X13_makeStates_3 K go x2 x3 x4 x5 x6 x7 r1 z) := by
  unfold qm_X13_makeStates_3
  exact (hgo 2 _ _ _ _ _ _ _ z hz (fun _ => (by first | omega | decide)))
theorem fb_X13_makeStates_4 {K : Nat} {z0 z : ow_MS}  {go : Nat → Int32 → Int32 → Int32 → Int32 → Int32 → Int32 → Nat → ow_MS → Option ow_MS} {x2 : Int32} {x3 : Int32} {x4 : Int32} {x5 : Int32} {x6 : Int32} {x7 : Int32} {r1 : Nat}  (hgo : ∀ (L : Nat) (x2 : Int32) (x3 : Int32) (x4 : Int32) (x5 : Int32) (x6 : Int32) (x7 : Int32) (r1 : Nat) (z : ow_MS), fr (pf [47, 81, 82, 83] []) z0 z → (L = 0 ∨ L = 1 ∨ L = 2 ∨ L = 3 ∨ L = 4 → 1000 ≤ r1) → Fo id (pf [47, 81, 82, 83] []) z0 (go L x2 x3 x4 x5 x6 x7 r1 z)) (hz : fr (pf [47, 81, 82, 83] []) z0 z) (hr1 : 1000 ≤ r1) : Fo id (pf [47, 81, 82, 83] []) z0 (qm_X13_makeStates_4 K go x2 x3 x4 x5 x6 x7 r1 z) := by
  unfold qm_X13_makeStates_4
  exact (fo_rdF (fun v9 => (fo_if (fo_wrI (Or.inl (by decide)) hz (fun z10 h_z10 => (fo_wrI (Or.inl (by decide)) h_z10 (fun z11 h_z11 => (hgo 1 _ _ _ _ _ _ _ z11 h_z11 (fun _ => (by first | omega | decide))))))) (fo_cs1 (ff_X13_root) (pf_sub (by decide) pf_0) hz (fun v13 z12 h_z12 => (fo_rdI (fun v14 => (fo_wrB (Or.inl (by decide)) h_z12 (fun z15 h_z15 => (hgo 4 _ _ _ _ _ _ _ z15 h_z15 (fun _ => (by first | omega | decide))))))))))))
theorem fq_X13_makeStates {K : Nat} {z0 : ow_MS}   : ∀ (k L : Nat) (x2 : Int32) (x3 : Int32) (x4 : Int32) (x5 : Int32) (x6 : Int32) (x7 : Int32) (r1 : Nat) (z : ow_MS), fr (pf [47, 81, 82, 83] []) z0 z → (L = 0 ∨ L = 1 ∨ L = 2 ∨ L = 3 ∨ L = 4 → 1000 ≤ r1) → Fo id (pf [47, 81, 82, 83] []) z0 (q_X13_makeStates K k L x2 x3 x4 x5 x6 x7 r1 z)
  | 0 => by
    intros
    exact fo_none
  | k + 1 => by
    intro L x2 x3 x4 x5 x6 x7 r1 z hz h9_r1
    show Fo id (pf [47, 81, 82, 83] []) z0 (qb_X13_makeStates K (q_X13_makeStates K k) L x2 x3 x4 x5 x6 x7 r1 z)
    unfold qb_X13_makeStates
    split
    · exact fb_X13_makeStates_0 (fq_X13_makeStates k) hz (h9_r1 (by decide))
    · exact fb_X13_makeStates_1 (fq_X13_makeStates k) hz (h9_r1 (by decide))
    · exact fb_X13_makeStates_2 (fq_X13_makeStates k) hz (h9_r1 (by decide))
    · exact fb_X13_makeStates_3 (fq_X13_makeStates k) hz (h9_r1 (by decide))
    · exact fb_X13_makeStates_4 (fq_X13_makeStates k) hz (h9_r1 (by decide))
    · exact fo_none
theorem ff_X13_makeStates {K : Nat} {r1 : Nat} {z : ow_MS} (hr1 : 1000 ≤ r1) : Fo id (pf [47, 81, 82, 83] []) z (qe_X13_makeStates K r1 z) := fq_X13_makeStates K 0 _ _ _ _ _ _ _ z fr_rf (fun _ => (by first | omega | decide))
theorem ff_X13_qOf {K : Nat} {x1 : Int32} {x2 : Int32} {x3 : Int32} {z : ow_MS}  : Fo Prod.snd (pf [] []) z (qe_X13_qOf K x1 x2 x3 z) := by
  unfold qe_X13_qOf qm_X13_qOf_0
  exact (fo_rdI (fun v2 => (fo_rdF (fun v4 => (fo_some fr_rf)))))
theorem fb_X13_placeAll_0 {K : Nat} {z0 z : ow_MS}  {go : Nat → Int32 → Int32 → Int32 → ow_MS → Option ow_MS} {x1 : Int32} {x2 : Int32} {x3 : Int32}  (hgo : ∀ (L : Nat) (x1 : Int32) (x2 : Int32) (x3 : Int32) (z : ow_MS), fr (pf [84, 85, 86, 87] []) z0 z → Fo id (pf [84, 85, 86, 87] []) z0 (go L x1 x2 x3 z)) (hz : fr (pf [84, 85, 86, 87] []) z0 z)  : Fo id (pf [84, 85, 86, 87] []) z0 (qm_X13_placeAll_0 K go x1 x2 x3 z) := by
  unfold qm_X13_placeAll_0
  exact (hgo 1 _ _ _ z hz)
theorem fb_X13_placeAll_1 {K : Nat} {z0 z : ow_MS}  {go : Nat → Int32 → Int32 → Int32 → ow_MS → Option ow_MS} {x1 : Int32} {x2 : Int32} {x3 : Int32}  (hgo : ∀ (L : Nat) (x1 : Int32) (x2 : Int32) (x3 : Int32) (z : ow_MS), fr (pf [84, 85, 86, 87] []) z0 z → Fo id (pf [84, 85, 86, 87] []) z0 (go L x1 x2 x3 z)) (hz : fr (pf [84, 85, 86, 87] []) z0 z)  : Fo id (pf [84, 85, 86, 87] []) z0 (qm_X13_placeAll_1 K go x1 x2 x3 z) := by
  unfold qm_X13_placeAll_1
  exact (fo_if (hgo 2 _ _ _ z hz) (fo_wrI (Or.inl (by decide)) hz (fun z1 h_z1 => (fo_wrI (Or.inl (by decide)) h_z1 (fun z2 h_z2 => (fo_wrI (Or.inl (by decide)) h_z2 (fun z3 h_z3 => (hgo 1 _ _ _ z3 h_z3))))))))
theorem fb_X13_placeAll_2 {K : Nat} {z0 z : ow_MS}  {go : Nat → Int32 → Int32 → Int32 → ow_MS → Option ow_MS} {x1 : Int32} {x2 : Int32} {x3 : Int32}  (hgo : ∀ (L : Nat) (x1 : Int32) (x2 : Int32) (x3 : Int32) (z : ow_MS), fr (pf [84, 85, 86, 87] []) z0 z → Fo id (pf [84, 85, 86, 87] []) z0 (go L x1 x2 x3 z)) (hz : fr (pf [84, 85, 86, 87] []) z0 z)  : Fo id (pf [84, 85, 86, 87] []) z0 (qm_X13_placeAll_2 K go x1 x2 x3 z) := by
  unfold qm_X13_placeAll_2
  exact (fo_if (fo_some hz) (hgo 3 _ _ _ z hz))
theorem fb_X13_placeAll_3 {K : Nat} {z0 z : ow_MS}  {go : Nat → Int32 → Int32 → Int32 → ow_MS → Option ow_MS} {x1 : Int32} {x2 : Int32} {x3 : Int32}  (hgo : ∀ (L : Nat) (x1 : Int32) (x2 : Int32) (x3 : Int32) (z : ow_MS), fr (pf [84, 85, 86, 87] []) z0 z → Fo id (pf [84, 85, 86, 87] []) z0 (go L x1 x2 x3 z)) (hz : fr (pf [84, 85, 86, 87] []) z0 z)  : Fo id (pf [84, 85, 86, 87] []) z0 (qm_X13_placeAll_3 K go x1 x2 x3 z) := by
  unfold qm_X13_placeAll_3
  exact (fo_rdI (fun v4 => (fo_if (hgo 2 _ _ _ z hz) (fo_rdF (fun v6 => (fo_cs1 (ff_X13_qOf) (pf_sub (by decide) pf_0) hz (fun v8 z7 h_z7 => (fo_rdI (fun v9 => (fo_rdI (fun v10 => (fo_wrI (Or.inl (by decide)) h_z7 (fun z11 h_z11 => (fo_rdI (fun v12 => (fo_wrI (Or.inl (by decide)) h_z11 (fun z13 h_z13 => (hgo 3 _ _ _ z13 h_z13))))))))))))))))))
theorem fq_X13_placeAll {K : Nat} {z0 : ow_MS}   : ∀ (k L : Nat) (x1 : Int32) (x2 : Int32) (x3 : Int32) (z : ow_MS), fr (pf [84, 85, 86, 87] []) z0 z → Fo id (pf [84, 85, 86, 87] []) z0 (q_X13_placeAll K k L x1 x2 x3 z)
  | 0 => by
    intros
    exact fo_none
  | k + 1 => by
    intro L x1 x2 x3 z hz 
    show Fo id (pf [84, 85, 86, 87] []) z0 (qb_X13_placeAll K (q_X13_placeAll K k) L x1 x2 x3 z)
    unfold qb_X13_placeAll
    split
    · exact fb_X13_placeAll_0 (fq_X13_placeAll k) hz 
    · exact fb_X13_placeAll_1 (fq_X13_placeAll k) hz 
    · exact fb_X13_placeAll_2 (fq_X13_placeAll k) hz 
    · exact fb_X13_placeAll_3 (fq_X13_placeAll k) hz 
    · exact fo_none
theorem ff_X13_placeAll {K : Nat} {x1 : Int32} {z : ow_MS}  : Fo id (pf [84, 85, 86, 87] []) z (qe_X13_placeAll K x1 z) := fq_X13_placeAll K 0 _ _ _ z fr_rf 
theorem fb_X13_inverseOf_0 {K : Nat} {z0 z : ow_MS}  {go : Nat → Int32 → Int32 → Int32 → ow_MS → Option (Int32 × ow_MS)} {x0 : Int32} {x1 : Int32} {x2 : Int32}  (hgo : ∀ (L : Nat) (x0 : Int32) (x1 : Int32) (x2 : Int32) (z : ow_MS), fr (pf [] []) z0 z → Fo Prod.snd (pf [] []) z0 (go L x0 x1 x2 z)) (hz : fr (pf [] []) z0 z)  : Fo Prod.snd (pf [] []) z0 (qm_X13_inverseOf_0 K go x0 x1 x2 z) := by
  unfold qm_X13_inverseOf_0
  exact (hgo 1 _ _ _ z hz)
theorem fb_X13_inverseOf_1 {K : Nat} {z0 z : ow_MS}  {go : Nat → Int32 → Int32 → Int32 → ow_MS → Option (Int32 × ow_MS)} {x0 : Int32} {x1 : Int32} {x2 : Int32}  (hgo : ∀ (L : Nat) (x0 : Int32) (x1 : Int32) (x2 : Int32) (z : ow_MS), fr (pf [] []) z0 z → Fo Prod.snd (pf [] []) z0 (go L x0 x1 x2 z)) (hz : fr (pf [] []) z0 z)  : Fo Prod.snd (pf [] []) z0 (qm_X13_inverseOf_1 K go x0 x1 x2 z) := by
  unfold qm_X13_inverseOf_1
  exact (fo_nzI (fo_if (fo_some hz) (hgo 1 _ _ _ z hz)))
theorem fq_X13_inverseOf {K : Nat} {z0 : ow_MS}   : ∀ (k L : Nat) (x0 : Int32) (x1 : Int32) (x2 : Int32) (z : ow_MS), fr (pf [] []) z0 z → Fo Prod.snd (pf [] []) z0 (q_X13_inverseOf K k L x0 x1 x2 z)
  | 0 => by
    intros
    exact fo_none
  | k + 1 => by
    intro L x0 x1 x2 z hz 
    show Fo Prod.snd (pf [] []) z0 (qb_X13_inverseOf K (q_X13_inverseOf K k) L x0 x1 x2 z)
    unfold qb_X13_inverseOf
    split
    · exact fb_X13_inverseOf_0 (fq_X13_inverseOf k) hz 
    · exact fb_X13_inverseOf_1 (fq_X13_inverseOf k) hz 
    · exact fo_none
theorem ff_X13_inverseOf {K : Nat} {x0 : Int32} {x1 : Int32} {z : ow_MS}  : Fo Prod.snd (pf [] []) z (qe_X13_inverseOf K x0 x1 z) := fq_X13_inverseOf K 0 _ _ _ z fr_rf 
theorem fb_X13_reduced_0 {K : Nat} {z0 z : ow_MS}  {go : Nat → Int32 → Int32 → Int32 → Int32 → Int32 → Int32 → Int32 → ow_MS → Option (Int32 × ow_MS)} {x1 : Int32} {x2 : Int32} {x3 : Int32} {x4 : Int32} {x5 : Int32} {x6 : Int32} {x7 : Int32}  (hgo : ∀ (L : Nat) (x1 : Int32) (x2 : Int32) (x3 : Int32) (x4 : Int32) (x5 : Int32) (x6 : Int32) (x7 : Int32) (z : ow_MS), fr (pf [89, 90, 91, 92, 93] []) z0 z → Fo Prod.snd (pf [89, 90, 91, 92, 93] []) z0 (go L x1 x2 x3 x4 x5 x6 x7 z)) (hz : fr (pf [89, 90, 91, 92, 93] []) z0 z)  : Fo Prod.snd (pf [89, 90, 91, 92, 93] []) z0 (qm_X13_reduced_0 K go x1 x2 x3 x4 x5 x6 x7 z) := by
  unfold qm_X13_reduced_0
  exact (hgo 1 _ _ _ _ _ _ _ z hz)
theorem fb_X13_reduced_1 {K : Nat} {z0 z : ow_MS}  {go : Nat → Int32 → Int32 → Int32 → Int32 → Int32 → Int32 → Int32 → ow_MS → Option (Int32 × ow_MS)} {x1 : Int32} {x2 : Int32} {x3 : Int32} {x4 : Int32} {x5 : Int32} {x6 : Int32} {x7 : Int32}  (hgo : ∀ (L : Nat) (x1 : Int32) (x2 : Int32) (x3 : Int32) (x4 : Int32) (x5 : Int32) (x6 : Int32) (x7 : Int32) (z : ow_MS), fr (pf [89, 90, 91, 92, 93] []) z0 z → Fo Prod.snd (pf [89, 90, 91, 92, 93] []) z0 (go L x1 x2 x3 x4 x5 x6 x7 z)) (hz : fr (pf [89, 90, 91, 92, 93] []) z0 z)  : Fo Prod.snd (pf [89, 90, 91, 92, 93] []) z0 (qm_X13_reduced_1 K go x1 x2 x3 x4 x5 x6 x7 z) := by
  unfold qm_X13_reduced_1
  exact (fo_if (fo_okZ (fo_some hz)) (fo_rdI (fun v1 => (fo_nzI (fo_wrI (Or.inl (by decide)) hz (fun z2 h_z2 => (fo_if (hgo 5 _ _ _ _ _ _ _ z2 h_z2) (fo_rdI (fun v3 => (fo_if (fo_cs1 (ff_X13_inverseOf) (pf_sub (by decide) pf_0) h_z2 (fun v6 z5 h_z5 => (fo_rdF (fun v7 => (fo_wrI (Or.inl (by decide)) h_z5 (fun z8 h_z8 => (hgo 2 _ _ _ _ _ _ _ z8 h_z8))))))) (fo_rdI (fun v4 => (hgo 4 _ _ _ _ _ _ _ z2 h_z2)))))))))))))
theorem fb_X13_reduced_2 {K : Nat} {z0 z : ow_MS}  {go : Nat → Int32 → Int32 → Int32 → Int32 → Int32 → Int32 → Int32 → ow_MS → Option (Int32 × ow_MS)} {x1 : Int32} {x2 : Int32} {x3 : Int32} {x4 : Int32} {x5 : Int32} {x6 : Int32} {x7 : Int32}  (hgo : ∀ (L : Nat) (x1 : Int32) (x2 : Int32) (x3 : Int32) (x4 : Int32) (x5 : Int32) (x6 : Int32) (x7 : Int32) (z : ow_MS), fr (pf [89, 90, 91, 92, 93] []) z0 z → Fo Prod.snd (pf [89, 90, 91, 92, 93] []) z0 (go L x1 x2 x3 x4 x5 x6 x7 z)) (hz : fr (pf [89, 90, 91, 92, 93] []) z0 z)  : Fo Prod.snd (pf [89, 90, 91, 92, 93] []) z0 (qm_X13_reduced_2 K go x1 x2 x3 x4 x5 x6 x7 z) := by
  unfold qm_X13_reduced_2
  exact (fo_if (fo_rdF (fun v9 => (fo_wrI (Or.inl (by decide)) hz (fun z10 h_z10 => (fo_okZ (fo_some h_z10)))))) (fo_rdI (fun v11 => (fo_nzI (fo_nzI (fo_if (hgo 3 _ _ _ _ _ _ _ z hz) (fo_rdF (fun v12 => (fo_wrI (Or.inl (by decide)) hz (fun z13 h_z13 => (fo_rdF (fun v14 => (fo_wrF (Or.inl (by decide)) h_z13 (fun z15 h_z15 => (hgo 3 _ _ _ _ _ _ _ z15 h_z15)))))))))))))))
theorem fb_X13_reduced_3 {K : Nat} {z0 z : ow_MS}  {go : Nat → Int32 → Int32 → Int32 → Int32 → Int32 → Int32 → Int32 → ow_MS → Option (Int32 × ow_MS)} {x1 : Int32} {x2 : Int32} {x3 : Int32} {x4 : Int32} {x5 : Int32} {x6 : Int32} {x7 : Int32}  (hgo : ∀ (L : Nat) (x1 : Int32) (x2 : Int32) (x3 : Int32) (x4 : Int32) (x5 : Int32) (x6 : Int32) (x7 : Int32) (z : ow_MS), fr (pf [89, 90, 91, 92, 93] []) z0 z → Fo Prod.snd (pf [89, 90, 91, 92, 93] []) z0 (go L x1 x2 x3 x4 x5 x6 x7 z)) (hz : fr (pf [89, 90, 91, 92, 93] []) z0 z)  : Fo Prod.snd (pf [89, 90, 91, 92, 93] []) z0 (qm_X13_reduced_3 K go x1 x2 x3 x4 x5 x6 x7 z) := by
  unfold qm_X13_reduced_3
  exact (hgo 2 _ _ _ _ _ _ _ z hz)
theorem fb_X13_reduced_4 {K : Nat} {z0 z : ow_MS}  {go : Nat → Int32 → Int32 → Int32 → Int32 → Int32 → Int32 → Int32 → ow_MS → Option (Int32 × ow_MS)} {x1 : Int32} {x2 : Int32} {x3 : Int32} {x4 : Int32} {x5 : Int32} {x6 : Int32} {x7 : Int32}  (hgo : ∀ (L : Nat) (x1 : Int32) (x2 : Int32) (x3 : Int32) (x4 : Int32) (x5 : Int32) (x6 : Int32) (x7 : Int32) (z : ow_MS), fr (pf [89, 90, 91, 92, 93] []) z0 z → Fo Prod.snd (pf [89, 90, 91, 92, 93] []) z0 (go L x1 x2 x3 x4 x5 x6 x7 z)) (hz : fr (pf [89, 90, 91, 92, 93] []) z0 z)  : Fo Prod.snd (pf [89, 90, 91, 92, 93] []) z0 (qm_X13_reduced_4 K go x1 x2 x3 x4 x5 x6 x7 z) := by
  unfold qm_X13_reduced_4
  exact (fo_rdI (fun v16 => (fo_if (hgo 5 _ _ _ _ _ _ _ z hz) (fo_rdI (fun v17 => (fo_rdI (fun v18 => (fo_rdI (fun v19 => (fo_nzI (fo_wrI (Or.inl (by decide)) hz (fun z20 h_z20 => (hgo 4 _ _ _ _ _ _ _ z20 h_z20)))))))))))))
theorem fb_X13_reduced_5 {K : Nat} {z0 z : ow_MS}  {go : Nat → Int32 → Int32 → Int32 → Int32 → Int32 → Int32 → Int32 → ow_MS → Option (Int32 × ow_MS)} {x1 : Int32} {x2 : Int32} {x3 : Int32} {x4 : Int32} {x5 : Int32} {x6 : Int32} {x7 : Int32}  (hgo : ∀ (L : Nat) (x1 : Int32) (x2 : Int32) (x3 : Int32) (x4 : Int32) (x5 : Int32) (x6 : Int32) (x7 : Int32) (z : ow_MS), fr (pf [89, 90, 91, 92, 93] []) z0 z → Fo Prod.snd (pf [89, 90, 91, 92, 93] []) z0 (go L x1 x2 x3 x4 x5 x6 x7 z)) (hz : fr (pf [89, 90, 91, 92, 93] []) z0 z)  : Fo Prod.snd (pf [89, 90, 91, 92, 93] []) z0 (qm_X13_reduced_5 K go x1 x2 x3 x4 x5 x6 x7 z) := by
  unfold qm_X13_reduced_5
  exact (hgo 1 _ _ _ _ _ _ _ z hz)
theorem fq_X13_reduced {K : Nat} {z0 : ow_MS}   : ∀ (k L : Nat) (x1 : Int32) (x2 : Int32) (x3 : Int32) (x4 : Int32) (x5 : Int32) (x6 : Int32) (x7 : Int32) (z : ow_MS), fr (pf [89, 90, 91, 92, 93] []) z0 z → Fo Prod.snd (pf [89, 90, 91, 92, 93] []) z0 (q_X13_reduced K k L x1 x2 x3 x4 x5 x6 x7 z)
  | 0 => by
    intros
    exact fo_none
  | k + 1 => by
    intro L x1 x2 x3 x4 x5 x6 x7 z hz 
    show Fo Prod.snd (pf [89, 90, 91, 92, 93] []) z0 (qb_X13_reduced K (q_X13_reduced K k) L x1 x2 x3 x4 x5 x6 x7 z)
    unfold qb_X13_reduced
    split
    · exact fb_X13_reduced_0 (fq_X13_reduced k) hz 
    · exact fb_X13_reduced_1 (fq_X13_reduced k) hz 
    · exact fb_X13_reduced_2 (fq_X13_reduced k) hz 
    · exact fb_X13_reduced_3 (fq_X13_reduced k) hz 
    · exact fb_X13_reduced_4 (fq_X13_reduced k) hz 
    · exact fb_X13_reduced_5 (fq_X13_reduced k) hz 
    · exact fo_none
theorem ff_X13_reduced {K : Nat} {x1 : Int32} {x2 : Int32} {z : ow_MS}  : Fo Prod.snd (pf [89, 90, 91, 92, 93] []) z (qe_X13_reduced K x1 x2 z) := fq_X13_reduced K 0 _ _ _ _ _ _ _ z fr_rf 
theorem fb_X13_step_0 {K : Nat} {z0 z : ow_MS}  {go : Nat → Int32 → Int32 → Int32 → Int32 → Int32 → Int32 → Int32 → Int32 → Int32 → Int32 → Int32 → Int32 → Int32 → Int32 → Int32 → Int32 → Nat → Int32 → ow_MS → Option ow_MS} {x2 : Int32} {x3 : Int32} {x4 : Int32} {x5 : Int32} {x6 : Int32} {x7 : Int32} {x8 : Int32} {x9 : Int32} {x10 : Int32} {x11 : Int32} {x12 : Int32} {x13 : Int32} {x14 : Int32} {x15 : Int32} {x16 : Int32} {x17 : Int32} {r1 : Nat} {t0 : Int32}  (hgo : ∀ (L : Nat) (x2 : Int32) (x3 : Int32) (x4 : Int32) (x5 : Int32) (x6 : Int32) (x7 : Int32) (x8 : Int32) (x9 : Int32) (x10 : Int32) (x11 : Int32) (x12 : Int32) (x13 : Int32) (x14 : Int32) (x15 : Int32) (x16 : Int32) (x17 : Int32) (r1 : Nat) (t0 : Int32) (z : ow_MS), fr (pf [89] []) z0 z → (L = 0 ∨ L = 1 ∨ L = 2 ∨ L = 3 ∨ L = 4 ∨ L = 5 ∨ L = 6 ∨ L = 7 ∨ L = 8 ∨ L = 9 ∨ L = 10 ∨ L = 11 ∨ L = 12 ∨ L = 13 → 1000 ≤ r1) → Fo id (pf [89] []) z0 (go L x2 x3 x4 x5 x6 x7 x8 x9 x10 x11 x12 x13 x14 x15 x16 x17 r1 t0 z)) (hz : fr (pf [89] []) z0 z) (hr1 : 1000 ≤ r1) : Fo id (pf [89] []) z0 (qm_X13_step_0 K go x2 x3 x4 x5 x6 x7 x8 x9 x10 x11 x12 x13 x14 x15 x16 x17 r1 t0 z) := by
  unfold qm_X13_step_0
  exact (hgo 1 _ _ _ _ _ _ _ _ _ _ _ _ _ _ _ _ _ _ z hz (fun _ => (by first | omega | decide)))
theorem fb_X13_step_1 {K : Nat} {z0 z : ow_MS}  {go : Nat → Int32 → Int32 → Int32 → Int32 → Int32 → Int32 → Int32 → Int32 → Int32 → Int32 → Int32 → Int32 → Int32 → Int32 → Int32 → Int32 → Nat → Int32 → ow_MS → Option ow_MS} {x2 : Int32} {x3 : Int32} {x4 : Int32} {x5 : Int32} {x6 : Int32} {x7 : Int32} {x8 : Int32} {x9 : Int32} {x10 : Int32} {x11 : Int32} {x12 : Int32} {x13 : Int32} {x14 : Int32} {x15 : Int32} {x16 : Int32} {x17 : Int32} {r1 : Nat} {t0 : Int32}  (hgo : ∀ (L : Nat) (x2 : Int32) (x3 : Int32) (x4 : Int32) (x5 : Int32) (x6 : Int32) (x7 : Int32) (x8 : Int32) (x9 : Int32) (x10 : Int32) (x11 : Int32) (x12 : Int32) (x13 : Int32) (x14 : Int32) (x15 : Int32) (x16 : Int32) (x17 : Int32) (r1 : Nat) (t0 : Int32) (z : ow_MS), fr (pf [89] []) z0 z → (L = 0 ∨ L = 1 ∨ L = 2 ∨ L = 3 ∨ L = 4 ∨ L = 5 ∨ L = 6 ∨ L = 7 ∨ L = 8 ∨ L = 9 ∨ L = 10 ∨ L = 11 ∨ L = 12 ∨ L = 13 → 1000 ≤ r1) → Fo id (pf [89] []) z0 (go L x2 x3 x4 x5 x6 x7 x8 x9 x10 x11 x12 x13 x14 x15 x16 x17 r1 t0 z)) (hz : fr (pf [89] []) z0 z) (hr1 : 1000 ≤ r1) : Fo id (pf [89] []) z0 (qm_X13_step_1 K go x2 x3 x4 x5 x6 x7 x8 x9 x10 x11 x12 x13 x14 x15 x16 x17 r1 t0 z) := by
  unfold qm_X13_step_1
  exact (fo_rdI (fun v1 => (fo_if (fo_rdI (fun v2 => (fo_if (hgo 2 _ _ _ _ _ _ _ _ _ _ _ _ _ _ _ _ _ _ z hz (fun _ => (by first | omega | decide))) (hgo 2 _ _ _ _ _ _ _ _ _ _ _ _ _ _ _ _ _ _ z hz (fun _ => (by first | omega | decide)))))) (hgo 1 _ _ _ _ _ _ _ _ _ _ _ _ _ _ _ _ _ _ z hz (fun _ => (by first | omega | decide))))))
theorem fb_X13_step_2 {K : Nat} {z0 z : ow_MS}  {go : Nat → Int32 → Int32 → Int32 → Int32 → Int32 → Int32 → Int32 → Int32 → Int32 → Int32 → Int32 → Int32 → Int32 → Int32 → Int32 → Int32 → Nat → Int32 → ow_MS → Option ow_MS} {x2 : Int32} {x3 : Int32} {x4 : Int32} {x5 : Int32} {x6 : Int32} {x7 : Int32} {x8 : Int32} {x9 : Int32} {x10 : Int32} {x11 : Int32} {x12 : Int32} {x13 : Int32} {x14 : Int32} {x15 : Int32} {x16 : Int32} {x17 : Int32} {r1 : Nat} {t0 : Int32}  (hgo : ∀ (L : Nat) (x2 : Int32) (x3 : Int32) (x4 : Int32) (x5 : Int32) (x6 : Int32) (x7 : Int32) (x8 : Int32) (x9 : Int32) (x10 : Int32) (x11 : Int32) (x12 : Int32) (x13 : Int32) (x14 : Int32) (x15 : Int32) (x16 : Int32) (x17 : Int32) (r1 : Nat) (t0 : Int32) (z : ow_MS), fr (pf [89] []) z0 z → (L = 0 ∨ L = 1 ∨ L = 2 ∨ L = 3 ∨ L = 4 ∨ L = 5 ∨ L = 6 ∨ L = 7 ∨ L = 8 ∨ L = 9 ∨ L = 10 ∨ L = 11 ∨ L = 12 ∨ L = 13 → 1000 ≤ r1) → Fo id (pf [89] []) z0 (go L x2 x3 x4 x5 x6 x7 x8 x9 x10 x11 x12 x13 x14 x15 x16 x17 r1 t0 z)) (hz : fr (pf [89] []) z0 z) (hr1 : 1000 ≤ r1) : Fo id (pf [89] []) z0 (qm_X13_step_2 K go x2 x3 x4 x5 x6 x7 x8 x9 x10 x11 x12 x13 x14 x15 x16 x17 r1 t0 z) := by
  unfold qm_X13_step_2
  exact (fo_rdI (fun v4 => (fo_rdI (fun v5 => (fo_rdI (fun v6 => (fo_if (fo_rdI (fun v7 => (fo_if (fo_rdI (fun v8 => (fo_rdI (fun v9 => (hgo 3 _ _ _ _ _ _ _ _ _ _ _ _ _ _ _ _ _ _ z hz (fun _ => (by first | omega | decide))))))) (fo_rdI (fun v10 => (hgo 3 _ _ _ _ _ _ _ _ _ _ _ _ _ _ _ _ _ _ z hz (fun _ => (by first | omega | decide)))))))) (fo_rdI (fun v11 => (fo_rdI (fun v12 => (hgo 3 _ _ _ _ _ _ _ _ _ _ _ _ _ _ _ _ _ _ z hz (fun _ => (by first | omega | decide))))))))))))))
theorem fb_X13_step_3 {K : Nat} {z0 z : ow_MS}  {go : Nat → Int32 → Int32 → Int32 → Int32 → Int32 → Int32 → Int32 → Int32 → Int32 → Int32 → Int32 → Int32 → Int32 → Int32 → Int32 → Int32 → Nat → Int32 → ow_MS → Option ow_MS} {x2 : Int32} {x3 : Int32} {x4 : Int32} {x5 : Int32} {x6 : Int32} {x7 : Int32} {x8 : Int32} {x9 : Int32} {x10 : Int32} {x11 : Int32} {x12 : Int32} {x13 : Int32} {x14 : Int32} {x15 : Int32} {x16 : Int32} {x17 : Int32} {r1 : Nat} {t0 : Int32}  (hgo : ∀ (L : Nat) (x2 : Int32) (x3 : Int32) (x4 : Int32) (x5 : Int32) (x6 : Int32) (x7 : Int32) (x8 : Int32) (x9 : Int32) (x10 : Int32) (x11 : Int32) (x12 : Int32) (x13 : Int32) (x14 : Int32) (x15 : Int32) (x16 : Int32) (x17 : Int32) (r1 : Nat) (t0 : Int32) (z : ow_MS), fr (pf [89] []) z0 z → (L = 0 ∨ L = 1 ∨ L = 2 ∨ L = 3 ∨ L = 4 ∨ L = 5 ∨ L = 6 ∨ L = 7 ∨ L = 8 ∨ L = 9 ∨ L = 10 ∨ L = 11 ∨ L = 12 ∨ L = 13 → 1000 ≤ r1) → Fo id (pf [89] []) z0 (go L x2 x3 x4 x5 x6 x7 x8 x9 x10 x11 x12 x13 x14 x15 x16 x17 r1 t0 z)) (hz : fr (pf [89] []) z0 z) (hr1 : 1000 ≤ r1) : Fo id (pf [89] []) z0 (qm_X13_step_3 K go x2 x3 x4 x5 x6 x7 x8 x9 x10 x11 x12 x13 x14 x15 x16 x17 r1 t0 z) := by
  unfold qm_X13_step_3
  exact (fo_rdI (fun v13 => (fo_rdI (fun v14 => (fo_rdI (fun v15 => (fo_if (fo_rdI (fun v16 => (fo_if (fo_rdI (fun v17 => (fo_rdI (fun v18 => (hgo 4 _ _ _ _ _ _ _ _ _ _ _ _ _ _ _ _ _ _ z hz (fun _ => (by first | omega | decide))))))) (fo_rdI (fun v19 => (hgo 4 _ _ _ _ _ _ _ _ _ _ _ _ _ _ _ _ _ _ z hz (fun _ => (by first | omega | decide)))))))) (fo_rdI (fun v20 => (fo_rdI (fun v21 => (hgo 4 _ _ _ _ _ _ _ _ _ _ _ _ _ _ _ _ _ _ z hz (fun _ => (by first | omega | decide))))))))))))))
theorem fb_X13_step_4 {K : Nat} {z0 z : ow_MS}  {go : Nat → Int32 → Int32 → Int32 → Int32 → Int32 → Int32 → Int32 → Int32 → Int32 → Int32 → Int32 → Int32 → Int32 → Int32 → Int32 → Int32 → Nat → Int32 → ow_MS → Option ow_MS} {x2 : Int32} {x3 : Int32} {x4 : Int32} {x5 : Int32} {x6 : Int32} {x7 : Int32} {x8 : Int32} {x9 : Int32} {x10 : Int32} {x11 : Int32} {x12 : Int32} {x13 : Int32} {x14 : Int32} {x15 : Int32} {x16 : Int32} {x17 : Int32} {r1 : Nat} {t0 : Int32}  (hgo : ∀ (L : Nat) (x2 : Int32) (x3 : Int32) (x4 : Int32) (x5 : Int32) (x6 : Int32) (x7 : Int32) (x8 : Int32) (x9 : Int32) (x10 : Int32) (x11 : Int32) (x12 : Int32) (x13 : Int32) (x14 : Int32) (x15 : Int32) (x16 : Int32) (x17 : Int32) (r1 : Nat) (t0 : Int32) (z : ow_MS), fr (pf [89] []) z0 z → (L = 0 ∨ L = 1 ∨ L = 2 ∨ L = 3 ∨ L = 4 ∨ L = 5 ∨ L = 6 ∨ L = 7 ∨ L = 8 ∨ L = 9 ∨ L = 10 ∨ L = 11 ∨ L = 12 ∨ L = 13 → 1000 ≤ r1) → Fo id (pf [89] []) z0 (go L x2 x3 x4 x5 x6 x7 x8 x9 x10 x11 x12 x13 x14 x15 x16 x17 r1 t0 z)) (hz : fr (pf [89] []) z0 z) (hr1 : 1000 ≤ r1) : Fo id (pf [89] []) z0 (qm_X13_step_4 K go x2 x3 x4 x5 x6 x7 x8 x9 x10 x11 x12 x13 x14 x15 x16 x17 r1 t0 z) := by
  unfold qm_X13_step_4
  exact (hgo 5 _ _ _ _ _ _ _ _ _ _ _ _ _ _ _ _ _ _ z hz (fun _ => (by first | omega | decide)))
theorem fb_X13_step_5 {K : Nat} {z0 z : ow_MS}  {go : Nat → Int32 → Int32 → Int32 → Int32 → Int32 → Int32 → Int32 → Int32 → Int32 → Int32 → Int32 → Int32 → Int32 → Int32 → Int32 → Int32 → Nat → Int32 → ow_MS → Option ow_MS} {x2 : Int32} {x3 : Int32} {x4 : Int32} {x5 : Int32} {x6 : Int32} {x7 : Int32} {x8 : Int32} {x9 : Int32} {x10 : Int32} {x11 : Int32} {x12 : Int32} {x13 : Int32} {x14 : Int32} {x15 : Int32} {x16 : Int32} {x17 : Int32} {r1 : Nat} {t0 : Int32}  (hgo : ∀ (L : Nat) (x2 : Int32) (x3 : Int32) (x4 : Int32) (x5 : Int32) (x6 : Int32) (x7 : Int32) (x8 : Int32) (x9 : Int32) (x10 : Int32) (x11 : Int32) (x12 : Int32) (x13 : Int32) (x14 : Int32) (x15 : Int32) (x16 : Int32) (x17 : Int32) (r1 : Nat) (t0 : Int32) (z : ow_MS), fr (pf [89] []) z0 z → (L = 0 ∨ L = 1 ∨ L = 2 ∨ L = 3 ∨ L = 4 ∨ L = 5 ∨ L = 6 ∨ L = 7 ∨ L = 8 ∨ L = 9 ∨ L = 10 ∨ L = 11 ∨ L = 12 ∨ L = 13 → 1000 ≤ r1) → Fo id (pf [89] []) z0 (go L x2 x3 x4 x5 x6 x7 x8 x9 x10 x11 x12 x13 x14 x15 x16 x17 r1 t0 z)) (hz : fr (pf [89] []) z0 z) (hr1 : 1000 ≤ r1) : Fo id (pf [89] []) z0 (qm_X13_step_5 K go x2 x3 x4 x5 x6 x7 x8 x9 x10 x11 x12 x13 x14 x15 x16 x17 r1 t0 z) := by
  unfold qm_X13_step_5
  exact (fo_rdF (fun v22 => (fo_if (fo_cs1 (ff_X13_circlesOf (by first | omega | decide)) (pf_sub (by decide) pf_0) hz (fun v24 z23 h_z23 => (hgo 7 _ _ _ _ _ _ _ _ _ _ _ _ _ _ _ _ _ _ z23 h_z23 (fun _ => (by first | omega | decide))))) (fo_rdI (fun v25 => (fo_if (hgo 6 _ _ _ _ _ _ _ _ _ _ _ _ _ _ _ _ _ _ z hz (fun _ => (by first | omega | decide))) (fo_if (hgo 6 _ _ _ _ _ _ _ _ _ _ _ _ _ _ _ _ _ _ z hz (fun _ => (by first | omega | decide))) (fo_if (fo_rdI (fun v26 => (hgo 6 _ _ _ _ _ _ _ _ _ _ _ _ _ _ _ _ _ _ z hz (fun _ => (by first | omega | decide))))) (hgo 6 _ _ _ _ _ _ _ _ _ _ _ _ _ _ _ _ _ _ z hz (fun _ => (by first | omega | decide)))))))))))
theorem fb_X13_step_6 {K : Nat} {z0 z : ow_MS}  {go : Nat → Int32 → Int32 → Int32 → Int32 → Int32 → Int32 → Int32 → Int32 → Int32 → Int32 → Int32 → Int32 → Int32 → Int32 → Int32 → Int32 → Nat → Int32 → ow_MS → Option ow_MS} {x2 : Int32} {x3 : Int32} {x4 : Int32} {x5 : Int32} {x6 : Int32} {x7 : Int32} {x8 : Int32} {x9 : Int32} {x10 : Int32} {x11 : Int32} {x12 : Int32} {x13 : Int32} {x14 : Int32} {x15 : Int32} {x16 : Int32} {x17 : Int32} {r1 : Nat} {t0 : Int32}  (hgo : ∀ (L : Nat) (x2 : Int32) (x3 : Int32) (x4 : Int32) (x5 : Int32) (x6 : Int32) (x7 : Int32) (x8 : Int32) (x9 : Int32) (x10 : Int32) (x11 : Int32) (x12 : Int32) (x13 : Int32) (x14 : Int32) (x15 : Int32) (x16 : Int32) (x17 : Int32) (r1 : Nat) (t0 : Int32) (z : ow_MS), fr (pf [89] []) z0 z → (L = 0 ∨ L = 1 ∨ L = 2 ∨ L = 3 ∨ L = 4 ∨ L = 5 ∨ L = 6 ∨ L = 7 ∨ L = 8 ∨ L = 9 ∨ L = 10 ∨ L = 11 ∨ L = 12 ∨ L = 13 → 1000 ≤ r1) → Fo id (pf [89] []) z0 (go L x2 x3 x4 x5 x6 x7 x8 x9 x10 x11 x12 x13 x14 x15 x16 x17 r1 t0 z)) (hz : fr (pf [89] []) z0 z) (hr1 : 1000 ≤ r1) : Fo id (pf [89] []) z0 (qm_X13_step_6 K go x2 x3 x4 x5 x6 x7 x8 x9 x10 x11 x12 x13 x14 x15 x16 x17 r1 t0 z) := by
  unfold qm_X13_step_6
  exact (hgo 5 _ _ _ _ _ _ _ _ _ _ _ _ _ _ _ _ _ _ z hz (fun _ => (by first | omega | decide)))
theorem fb_X13_step_7 {K : Nat} {z0 z : ow_MS}  {go : Nat → Int32 → Int32 → Int32 → Int32 → Int32 → Int32 → Int32 → Int32 → Int32 → Int32 → Int32 → Int32 → Int32 → Int32 → Int32 → Int32 → Nat → Int32 → ow_MS → Option ow_MS} {x2 : Int32} {x3 : Int32} {x4 : Int32} {x5 : Int32} {x6 : Int32} {x7 : Int32} {x8 : Int32} {x9 : Int32} {x10 : Int32} {x11 : Int32} {x12 : Int32} {x13 : Int32} {x14 : Int32} {x15 : Int32} {x16 : Int32} {x17 : Int32} {r1 : Nat} {t0 : Int32}  (hgo : ∀ (L : Nat) (x2 : Int32) (x3 : Int32) (x4 : Int32) (x5 : Int32) (x6 : Int32) (x7 : Int32) (x8 : Int32) (x9 : Int32) (x10 : Int32) (x11 : Int32) (x12 : Int32) (x13 : Int32) (x14 : Int32) (x15 : Int32) (x16 : Int32) (x17 : Int32) (r1 : Nat) (t0 : Int32) (z : ow_MS), fr (pf [89] []) z0 z → (L = 0 ∨ L = 1 ∨ L = 2 ∨ L = 3 ∨ L = 4 ∨ L = 5 ∨ L = 6 ∨ L = 7 ∨ L = 8 ∨ L = 9 ∨ L = 10 ∨ L = 11 ∨ L = 12 ∨ L = 13 → 1000 ≤ r1) → Fo id (pf [89] []) z0 (go L x2 x3 x4 x5 x6 x7 x8 x9 x10 x11 x12 x13 x14 x15 x16 x17 r1 t0 z)) (hz : fr (pf [89] []) z0 z) (hr1 : 1000 ≤ r1) : Fo id (pf [89] []) z0 (qm_X13_step_7 K go x2 x3 x4 x5 x6 x7 x8 x9 x10 x11 x12 x13 x14 x15 x16 x17 r1 t0 z) := by
  unfold qm_X13_step_7
  exact (fo_if (fo_if (hgo 9 _ _ _ _ _ _ _ _ _ _ _ _ _ _ _ _ _ _ z hz (fun _ => (by first | omega | decide))) (hgo 9 _ _ _ _ _ _ _ _ _ _ _ _ _ _ _ _ _ _ z hz (fun _ => (by first | omega | decide)))) (fo_rdI (fun v27 => (fo_if (fo_rdI (fun v28 => (hgo 8 _ _ _ _ _ _ _ _ _ _ _ _ _ _ _ _ _ _ z hz (fun _ => (by first | omega | decide))))) (hgo 8 _ _ _ _ _ _ _ _ _ _ _ _ _ _ _ _ _ _ z hz (fun _ => (by first | omega | decide)))))))
theorem fb_X13_step_8 {K : Nat} {z0 z : ow_MS}  {go : Nat → Int32 → Int32 → Int32 → Int32 → Int32 → Int32 → Int32 → Int32 → Int32 → Int32 → Int32 → Int32 → Int32 → Int32 → Int32 → Int32 → Nat → Int32 → ow_MS → Option ow_MS} {x2 : Int32} {x3 : Int32} {x4 : Int32} {x5 : Int32} {x6 : Int32} {x7 : Int32} {x8 : Int32} {x9 : Int32} {x10 : Int32} {x11 : Int32} {x12 : Int32} {x13 : Int32} {x14 : Int32} {x15 : Int32} {x16 : Int32} {x17 : Int32} {r1 : Nat} {t0 : Int32}  (hgo : ∀ (L : Nat) (x2 : Int32) (x3 : Int32) (x4 : Int32) (x5 : Int32) (x6 : Int32) (x7 : Int32) (x8 : Int32) (x9 : Int32) (x10 : Int32) (x11 : Int32) (x12 : Int32) (x13 : Int32) (x14 : Int32) (x15 : Int32) (x16 : Int32) (x17 : Int32) (r1 : Nat) (t0 : Int32) (z : ow_MS), fr (pf [89] []) z0 z → (L = 0 ∨ L = 1 ∨ L = 2 ∨ L = 3 ∨ L = 4 ∨ L = 5 ∨ L = 6 ∨ L = 7 ∨ L = 8 ∨ L = 9 ∨ L = 10 ∨ L = 11 ∨ L = 12 ∨ L = 13 → 1000 ≤ r1) → Fo id (pf [89] []) z0 (go L x2 x3 x4 x5 x6 x7 x8 x9 x10 x11 x12 x13 x14 x15 x16 x17 r1 t0 z)) (hz : fr (pf [89] []) z0 z) (hr1 : 1000 ≤ r1) : Fo id (pf [89] []) z0 (qm_X13_step_8 K go x2 x3 x4 x5 x6 x7 x8 x9 x10 x11 x12 x13 x14 x15 x16 x17 r1 t0 z) := by
  unfold qm_X13_step_8
  exact (hgo 7 _ _ _ _ _ _ _ _ _ _ _ _ _ _ _ _ _ _ z hz (fun _ => (by first | omega | decide)))
theorem fb_X13_step_9 {K : Nat} {z0 z : ow_MS}  {go : Nat → Int32 → Int32 → Int32 → Int32 → Int32 → Int32 → Int32 → Int32 → Int32 → Int32 → Int32 → Int32 → Int32 → Int32 → Int32 → Int32 → Nat → Int32 → ow_MS → Option ow_MS} {x2 : Int32} {x3 : Int32} {x4 : Int32} {x5 : Int32} {x6 : Int32} {x7 : Int32} {x8 : Int32} {x9 : Int32} {x10 : Int32} {x11 : Int32} {x12 : Int32} {x13 : Int32} {x14 : Int32} {x15 : Int32} {x16 : Int32} {x17 : Int32} {r1 : Nat} {t0 : Int32}  (hgo : ∀ (L : Nat) (x2 : Int32) (x3 : Int32) (x4 : Int32) (x5 : Int32) (x6 : Int32) (x7 : Int32) (x8 : Int32) (x9 : Int32) (x10 : Int32) (x11 : Int32) (x12 : Int32) (x13 : Int32) (x14 : Int32) (x15 : Int32) (x16 : Int32) (x17 : Int32) (r1 : Nat) (t0 : Int32) (z : ow_MS), fr (pf [89] []) z0 z → (L = 0 ∨ L = 1 ∨ L = 2 ∨ L = 3 ∨ L = 4 ∨ L = 5 ∨ L = 6 ∨ L = 7 ∨ L = 8 ∨ L = 9 ∨ L = 10 ∨ L = 11 ∨ L = 12 ∨ L = 13 → 1000 ≤ r1) → Fo id (pf [89] []) z0 (go L x2 x3 x4 x5 x6 x7 x8 x9 x10 x11 x12 x13 x14 x15 x16 x17 r1 t0 z)) (hz : fr (pf [89] []) z0 z) (hr1 : 1000 ≤ r1) : Fo id (pf [89] []) z0 (qm_X13_step_9 K go x2 x3 x4 x5 x6 x7 x8 x9 x10 x11 x12 x13 x14 x15 x16 x17 r1 t0 z) := by
  unfold qm_X13_step_9
  exact (fo_if (fo_if (fo_rdI (fun v29 => (fo_rdI (fun v30 => (fo_rdI (fun v31 => (fo_wrI (Or.inl (by decide)) hz (fun z32 h_z32 => (fo_some h_z32))))))))) (fo_rdI (fun v33 => (fo_rdI (fun v34 => (fo_rdI (fun v35 => (fo_wrI (Or.inl (by decide)) hz (fun z36 h_z36 => (fo_rdI (fun v37 => (fo_rdI (fun v38 => (fo_rdI (fun v39 => (fo_wrI (Or.inl (by decide)) h_z36 (fun z40 h_z40 => (fo_some h_z40)))))))))))))))))) (fo_if (hgo 10 _ _ _ _ _ _ _ _ _ _ _ _ _ _ _ _ _ _ z hz (fun _ => (by first | omega | decide))) (hgo 10 _ _ _ _ _ _ _ _ _ _ _ _ _ _ _ _ _ _ z hz (fun _ => (by first | omega | decide)))))
theorem fb_X13_step_10 {K : Nat} {z0 z : ow_MS}  {go : Nat → Int32 → Int32 → Int32 → Int32 → Int32 → Int32 → Int32 → Int32 → Int32 → Int32 → Int32 → Int32 → Int32 → Int32 → Int32 → Int32 → Nat → Int32 → ow_MS → Option ow_MS} {x2 : Int32} {x3 : Int32} {x4 : Int32} {x5 : Int32} {x6 : Int32} {x7 : Int32} {x8 : Int32} {x9 : Int32} {x10 : Int32} {x11 : Int32} {x12 : Int32} {x13 : Int32} {x14 : Int32} {x15 : Int32} {x16 : Int32} {x17 : Int32} {r1 : Nat} {t0 : Int32}  (hgo : ∀ (L : Nat) (x2 : Int32) (x3 : Int32) (x4 : Int32) (x5 : Int32) (x6 : Int32) (x7 : Int32) (x8 : Int32) (x9 : Int32) (x10 : Int32) (x11 : Int32) (x12 : Int32) (x13 : Int32) (x14 : Int32) (x15 : Int32) (x16 : Int32) (x17 : Int32) (r1 : Nat) (t0 : Int32) (z : ow_MS), fr (pf [89] []) z0 z → (L = 0 ∨ L = 1 ∨ L = 2 ∨ L = 3 ∨ L = 4 ∨ L = 5 ∨ L = 6 ∨ L = 7 ∨ L = 8 ∨ L = 9 ∨ L = 10 ∨ L = 11 ∨ L = 12 ∨ L = 13 → 1000 ≤ r1) → Fo id (pf [89] []) z0 (go L x2 x3 x4 x5 x6 x7 x8 x9 x10 x11 x12 x13 x14 x15 x16 x17 r1 t0 z)) (hz : fr (pf [89] []) z0 z) (hr1 : 1000 ≤ r1) : Fo id (pf [89] []) z0 (qm_X13_step_10 K go x2 x3 x4 x5 x6 x7 x8 x9 x10 x11 x12 x13 x14 x15 x16 x17 r1 t0 z) := by
  unfold qm_X13_step_10
  exact (fo_if (hgo 11 _ _ _ _ _ _ _ _ _ _ _ _ _ _ _ _ _ _ z hz (fun _ => (by first | omega | decide))) (fo_if (hgo 11 _ _ _ _ _ _ _ _ _ _ _ _ _ _ _ _ _ _ z hz (fun _ => (by first | omega | decide))) (fo_rdI (fun v41 => (fo_rdI (fun v42 => (fo_rdI (fun v43 => (fo_wrI (Or.inl (by decide)) hz (fun z44 h_z44 => (hgo 13 _ _ _ _ _ _ _ _ _ _ _ _ _ _ _ _ _ _ z44 h_z44 (fun _ => (by first | omega | decide)))))))))))))
theorem fb_X13_step_11 {K : Nat} {z0 z : ow_MS}  {go : Nat → Int32 → Int32 → Int32 → Int32 → Int32 → Int32 → Int32 → Int32 → Int32 → Int32 → Int32 → Int32 → Int32 → Int32 → Int32 → Int32 → Nat → Int32 → ow_MS → Option ow_MS} {x2 : Int32} {x3 : Int32} {x4 : Int32} {x5 : Int32} {x6 : Int32} {x7 : Int32} {x8 : Int32} {x9 : Int32} {x10 : Int32} {x11 : Int32} {x12 : Int32} {x13 : Int32} {x14 : Int32} {x15 : Int32} {x16 : Int32} {x17 : Int32} {r1 : Nat} {t0 : Int32}  (hgo : ∀ (L : Nat) (x2 : Int32) (x3 : Int32) (x4 : Int32) (x5 : Int32) (x6 : Int32) (x7 : Int32) (x8 : Int32) (x9 : Int32) (x10 : Int32) (x11 : Int32) (x12 : Int32) (x13 : Int32) (x14 : Int32) (x15 : Int32) (x16 : Int32) (x17 : Int32) (r1 : Nat) (t0 : Int32) (z : ow_MS), fr (pf [89] []) z0 z → (L = 0 ∨ L = 1 ∨ L = 2 ∨ L = 3 ∨ L = 4 ∨ L = 5 ∨ L = 6 ∨ L = 7 ∨ L = 8 ∨ L = 9 ∨ L = 10 ∨ L = 11 ∨ L = 12 ∨ L = 13 → 1000 ≤ r1) → Fo id (pf [89] []) z0 (go L x2 x3 x4 x5 x6 x7 x8 x9 x10 x11 x12 x13 x14 x15 x16 x17 r1 t0 z)) (hz : fr (pf [89] []) z0 z) (hr1 : 1000 ≤ r1) : Fo id (pf [89] []) z0 (qm_X13_step_11 K go x2 x3 x4 x5 x6 x7 x8 x9 x10 x11 x12 x13 x14 x15 x16 x17 r1 t0 z) := by
  unfold qm_X13_step_11
  exact (fo_if (fo_if (hgo 13 _ _ _ _ _ _ _ _ _ _ _ _ _ _ _ _ _ _ z hz (fun _ => (by first | omega | decide))) (hgo 12 _ _ _ _ _ _ _ _ _ _ _ _ _ _ _ _ _ _ z hz (fun _ => (by first | omega | decide)))) (hgo 12 _ _ _ _ _ _ _ _ _ _ _ _ _ _ _ _ _ _ z hz (fun _ => (by first | omega | decide))))
theorem fb_X13_step_12 {K : Nat} {z0 z : ow_MS}  {go : Nat → Int32 → Int32 → Int32 → Int32 → Int32 → Int32 → Int32 → Int32 → Int32 → Int32 → Int32 → Int32 → Int32 → Int32 → Int32 → Int32 → Nat → Int32 → ow_MS → Option ow_MS} {x2 : Int32} {x3 : Int32} {x4 : Int32} {x5 : Int32} {x6 : Int32} {x7 : Int32} {x8 : Int32} {x9 : Int32} {x10 : Int32} {x11 : Int32} {x12 : Int32} {x13 : Int32} {x14 : Int32} {x15 : Int32} {x16 : Int32} {x17 : Int32} {r1 : Nat} {t0 : Int32}  (hgo : ∀ (L : Nat) (x2 : Int32) (x3 : Int32) (x4 : Int32) (x5 : Int32) (x6 : Int32) (x7 : Int32) (x8 : Int32) (x9 : Int32) (x10 : Int32) (x11 : Int32) (x12 : Int32) (x13 : Int32) (x14 : Int32) (x15 : Int32) (x16 : Int32) (x17 : Int32) (r1 : Nat) (t0 : Int32) (z : ow_MS), fr (pf [89] []) z0 z → (L = 0 ∨ L = 1 ∨ L = 2 ∨ L = 3 ∨ L = 4 ∨ L = 5 ∨ L = 6 ∨ L = 7 ∨ L = 8 ∨ L = 9 ∨ L = 10 ∨ L = 11 ∨ L = 12 ∨ L = 13 → 1000 ≤ r1) → Fo id (pf [89] []) z0 (go L x2 x3 x4 x5 x6 x7 x8 x9 x10 x11 x12 x13 x14 x15 x16 x17 r1 t0 z)) (hz : fr (pf [89] []) z0 z) (hr1 : 1000 ≤ r1) : Fo id (pf [89] []) z0 (qm_X13_step_12 K go x2 x3 x4 x5 x6 x7 x8 x9 x10 x11 x12 x13 x14 x15 x16 x17 r1 t0 z) := by
  unfold qm_X13_step_12
  exact (fo_rdI (fun v45 => (fo_rdI (fun v46 => (fo_rdI (fun v47 => (fo_wrI (Or.inl (by decide)) hz (fun z48 h_z48 => (hgo 13 _ _ _ _ _ _ _ _ _ _ _ _ _ _ _ _ _ _ z48 h_z48 (fun _ => (by first | omega | decide)))))))))))
theorem fb_X13_step_13 {K : Nat} {z0 z : ow_MS}  {go : Nat → Int32 → Int32 → Int32 → Int32 → Int32 → Int32 → Int32 → Int32 → Int32 → Int32 → Int32 → Int32 → Int32 → Int32 → Int32 → Int32 → Nat → Int32 → ow_MS → Option ow_MS} {x2 : Int32} {x3 : Int32} {x4 : Int32} {x5 : Int32} {x6 : Int32} {x7 : Int32} {x8 : Int32} {x9 : Int32} {x10 : Int32} {x11 : Int32} {x12 : Int32} {x13 : Int32} {x14 : Int32} {x15 : Int32} {x16 : Int32} {x17 : Int32} {r1 : Nat} {t0 : Int32}  (hgo : ∀ (L : Nat) (x2 : Int32) (x3 : Int32) (x4 : Int32) (x5 : Int32) (x6 : Int32) (x7 : Int32) (x8 : Int32) (x9 : Int32) (x10 : Int32) (x11 : Int32) (x12 : Int32) (x13 : Int32) (x14 : Int32) (x15 : Int32) (x16 : Int32) (x17 : Int32) (r1 : Nat) (t0 : Int32) (z : ow_MS), fr (pf [89] []) z0 z → (L = 0 ∨ L = 1 ∨ L = 2 ∨ L = 3 ∨ L = 4 ∨ L = 5 ∨ L = 6 ∨ L = 7 ∨ L = 8 ∨ L = 9 ∨ L = 10 ∨ L = 11 ∨ L = 12 ∨ L = 13 → 1000 ≤ r1) → Fo id (pf [89] []) z0 (go L x2 x3 x4 x5 x6 x7 x8 x9 x10 x11 x12 x13 x14 x15 x16 x17 r1 t0 z)) (hz : fr (pf [89] []) z0 z) (hr1 : 1000 ≤ r1) : Fo id (pf [89] []) z0 (qm_X13_step_13 K go x2 x3 x4 x5 x6 x7 x8 x9 x10 x11 x12 x13 x14 x15 x16 x17 r1 t0 z) := by
  unfold qm_X13_step_13
  exact (fo_some hz)
theorem fq_X13_step {K : Nat} {z0 : ow_MS}   : ∀ (k L : Nat) (x2 : Int32) (x3 : Int32) (x4 : Int32) (x5 : Int32) (x6 : Int32) (x7 : Int32) (x8 : Int32) (x9 : Int32) (x10 : Int32) (x11 : Int32) (x12 : Int32) (x13 : Int32) (x14 : Int32) (x15 : Int32) (x16 : Int32) (x17 : Int32) (r1 : Nat) (t0 : Int32) (z : ow_MS), fr (pf [89] []) z0 z → (L = 0 ∨ L = 1 ∨ L = 2 ∨ L = 3 ∨ L = 4 ∨ L = 5 ∨ L = 6 ∨ L = 7 ∨ L = 8 ∨ L = 9 ∨ L = 10 ∨ L = 11 ∨ L = 12 ∨ L = 13 → 1000 ≤ r1) → Fo id (pf [89] []) z0 (q_X13_step K k L x2 x3 x4 x5 x6 x7 x8 x9 x10 x11 x12 x13 x14 x15 x16 x17 r1 t0 z)
  | 0 => by
    intros
    exact fo_none
  | k + 1 => by
    intro L x2 x3 x4 x5 x6 x7 x8 x9 x10 x11 x12 x13 x14 x15 x16 x17 r1 t0 z hz h9_r1
    show Fo id (pf [89] []) z0 (qb_X13_step K (q_X13_step K k) L x2 x3 x4 x5 x6 x7 x8 x9 x10 x11 x12 x13 x14 x15 x16 x17 r1 t0 z)
    unfold qb_X13_step
    split
    · exact fb_X13_step_0 (fq_X13_step k) hz (h9_r1 (by decide))
    · exact fb_X13_step_1 (fq_X13_step k) hz (h9_r1 (by decide))
    · exact fb_X13_step_2 (fq_X13_step k) hz (h9_r1 (by decide))
    · exact fb_X13_step_3 (fq_X13_step k) hz (h9_r1 (by decide))
    · exact fb_X13_step_4 (fq_X13_step k) hz (h9_r1 (by decide))
    · exact fb_X13_step_5 (fq_X13_step k) hz (h9_r1 (by decide))
    · exact fb_X13_step_6 (fq_X13_step k) hz (h9_r1 (by decide))
    · exact fb_X13_step_7 (fq_X13_step k) hz (h9_r1 (by decide))
    · exact fb_X13_step_8 (fq_X13_step k) hz (h9_r1 (by decide))
    · exact fb_X13_step_9 (fq_X13_step k) hz (h9_r1 (by decide))
    · exact fb_X13_step_10 (fq_X13_step k) hz (h9_r1 (by decide))
    · exact fb_X13_step_11 (fq_X13_step k) hz (h9_r1 (by decide))
    · exact fb_X13_step_12 (fq_X13_step k) hz (h9_r1 (by decide))
    · exact fb_X13_step_13 (fq_X13_step k) hz (h9_r1 (by decide))
    · exact fo_none
theorem ff_X13_step {K : Nat} {r1 : Nat} {x2 : Int32} {x3 : Int32} {x4 : Int32} {x5 : Int32} {z : ow_MS} (hr1 : 1000 ≤ r1) : Fo id (pf [89] []) z (qe_X13_step K r1 x2 x3 x4 x5 z) := fq_X13_step K 0 _ _ _ _ _ _ _ _ _ _ _ _ _ _ _ _ _ _ z fr_rf (fun _ => (by first | omega | decide))
theorem fb_X13_rankOf_0 {K : Nat} {z0 z : ow_MS}  {go : Nat → Int32 → Int32 → Int32 → Int32 → Int32 → Int32 → Int32 → Int32 → Int32 → Nat → Int32 → Int32 → ow_MS → Option (Int32 × ow_MS)} {x2 : Int32} {x3 : Int32} {x4 : Int32} {x5 : Int32} {x6 : Int32} {x7 : Int32} {x8 : Int32} {x9 : Int32} {x10 : Int32} {r1 : Nat} {t0 : Int32} {t1 : Int32}  (hgo : ∀ (L : Nat) (x2 : Int32) (x3 : Int32) (x4 : Int32) (x5 : Int32) (x6 : Int32) (x7 : Int32) (x8 : Int32) (x9 : Int32) (x10 : Int32) (r1 : Nat) (t0 : Int32) (t1 : Int32) (z : ow_MS), fr (pf [89, 90, 91, 92, 93] []) z0 z → (L = 0 ∨ L = 1 ∨ L = 2 ∨ L = 3 ∨ L = 4 ∨ L = 5 ∨ L = 6 ∨ L = 7 ∨ L = 8 ∨ L = 9 → 1000 ≤ r1) → Fo Prod.snd (pf [89, 90, 91, 92, 93] []) z0 (go L x2 x3 x4 x5 x6 x7 x8 x9 x10 r1 t0 t1 z)) (hz : fr (pf [89, 90, 91, 92, 93] []) z0 z) (hr1 : 1000 ≤ r1) : Fo Prod.snd (pf [89, 90, 91, 92, 93] []) z0 (qm_X13_rankOf_0 K go x2 x3 x4 x5 x6 x7 x8 x9 x10 r1 t0 t1 z) := by
  unfold qm_X13_rankOf_0
  exact (fo_rdI (fun v1 => (fo_if (fo_some hz) (fo_rdI (fun v2 => (fo_if (fo_some hz) (fo_rdF (fun v3 => (fo_nzI (hgo 1 _ _ _ _ _ _ _ _ _ _ _ _ z hz (fun _ => (by first | omega | decide))))))))))))
theorem fb_X13_rankOf_1 {K : Nat} {z0 z : ow_MS}  {go : Nat → Int32 → Int32 → Int32 → Int32 → Int32 → Int32 → Int32 → Int32 → Int32 → Nat → Int32 → Int32 → ow_MS → Option (Int32 × ow_MS)} {x2 : Int32} {x3 : Int32} {x4 : Int32} {x5 : Int32} {x6 : Int32} {x7 : Int32} {x8 : Int32} {x9 : Int32} {x10 : Int32} {r1 : Nat} {t0 : Int32} {t1 : Int32}  (hgo : ∀ (L : Nat) (x2 : Int32) (x3 : Int32) (x4 : Int32) (x5 : Int32) (x6 : Int32) (x7 : Int32) (x8 : Int32) (x9 : Int32) (x10 : Int32) (r1 : Nat) (t0 : Int32) (t1 : Int32) (z : ow_MS), fr (pf [89, 90, 91, 92, 93] []) z0 z → (L = 0 ∨ L = 1 ∨ L = 2 ∨ L = 3 ∨ L = 4 ∨ L = 5 ∨ L = 6 ∨ L = 7 ∨ L = 8 ∨ L = 9 → 1000 ≤ r1) → Fo Prod.snd (pf [89, 90, 91, 92, 93] []) z0 (go L x2 x3 x4 x5 x6 x7 x8 x9 x10 r1 t0 t1 z)) (hz : fr (pf [89, 90, 91, 92, 93] []) z0 z) (hr1 : 1000 ≤ r1) : Fo Prod.snd (pf [89, 90, 91, 92, 93] []) z0 (qm_X13_rankOf_1 K go x2 x3 x4 x5 x6 x7 x8 x9 x10 r1 t0 t1 z) := by
  unfold qm_X13_rankOf_1
  exact (fo_if (fo_wrF (Or.inl (by decide)) hz (fun z4 h_z4 => (hgo 2 _ _ _ _ _ _ _ _ _ _ _ _ z4 h_z4 (fun _ => (by first | omega | decide))))) (fo_wrI (Or.inl (by decide)) hz (fun z5 h_z5 => (hgo 1 _ _ _ _ _ _ _ _ _ _ _ _ z5 h_z5 (fun _ => (by first | omega | decide))))))
theorem fb_X13_rankOf_2 {K : Nat} {z0 z : ow_MS}  {go : Nat → Int32 → Int32 → Int32 → Int32 → Int32 → Int32 → Int32 → Int32 → Int32 → Nat → Int32 → Int32 → ow_MS → Option (Int32 × ow_MS)} {x2 : Int32} {x3 : Int32} {x4 : Int32} {x5 : Int32} {x6 : Int32} {x7 : Int32} {x8 : Int32} {x9 : Int32} {x10 : Int32} {r1 : Nat} {t0 : Int32} {t1 : Int32}  (hgo : ∀ (L : Nat) (x2 : Int32) (x3 : Int32) (x4 : Int32) (x5 : Int32) (x6 : Int32) (x7 : Int32) (x8 : Int32) (x9 : Int32) (x10 : Int32) (r1 : Nat) (t0 : Int32) (t1 : Int32) (z : ow_MS), fr (pf [89, 90, 91, 92, 93] []) z0 z → (L = 0 ∨ L = 1 ∨ L = 2 ∨ L = 3 ∨ L = 4 ∨ L = 5 ∨ L = 6 ∨ L = 7 ∨ L = 8 ∨ L = 9 → 1000 ≤ r1) → Fo Prod.snd (pf [89, 90, 91, 92, 93] []) z0 (go L x2 x3 x4 x5 x6 x7 x8 x9 x10 r1 t0 t1 z)) (hz : fr (pf [89, 90, 91, 92, 93] []) z0 z) (hr1 : 1000 ≤ r1) : Fo Prod.snd (pf [89, 90, 91, 92, 93] []) z0 (qm_X13_rankOf_2 K go x2 x3 x4 x5 x6 x7 x8 x9 x10 r1 t0 t1 z) := by
  unfold qm_X13_rankOf_2
  exact (fo_if (fo_some hz) (hgo 3 _ _ _ _ _ _ _ _ _ _ _ _ z hz (fun _ => (by first | omega | decide))))
theorem fb_X13_rankOf_3 {K : Nat} {z0 z : ow_MS}  {go : Nat → Int32 → Int32 → Int32 → Int32 → Int32 → Int32 → Int32 → Int32 → Int32 → Nat → Int32 → Int32 → ow_MS → Option (Int32 × ow_MS)} {x2 : Int32} {x3 : Int32} {x4 : Int32} {x5 : Int32} {x6 : Int32} {x7 : Int32} {x8 : Int32} {x9 : Int32} {x10 : Int32} {r1 : Nat} {t0 : Int32} {t1 : Int32}  (hgo : ∀ (L : Nat) (x2 : Int32) (x3 : Int32) (x4 : Int32) (x5 : Int32) (x6 : Int32) (x7 : Int32) (x8 : Int32) (x9 : Int32) (x10 : Int32) (r1 : Nat) (t0 : Int32) (t1 : Int32) (z : ow_MS), fr (pf [89, 90, 91, 92, 93] []) z0 z → (L = 0 ∨ L = 1 ∨ L = 2 ∨ L = 3 ∨ L = 4 ∨ L = 5 ∨ L = 6 ∨ L = 7 ∨ L = 8 ∨ L = 9 → 1000 ≤ r1) → Fo Prod.snd (pf [89, 90, 91, 92, 93] []) z0 (go L x2 x3 x4 x5 x6 x7 x8 x9 x10 r1 t0 t1 z)) (hz : fr (pf [89, 90, 91, 92, 93] []) z0 z) (hr1 : 1000 ≤ r1) : Fo Prod.snd (pf [89, 90, 91, 92, 93] []) z0 (qm_X13_rankOf_3 K go x2 x3 x4 x5 x6 x7 x8 x9 x10 r1 t0 t1 z) := by
  unfold qm_X13_rankOf_3
  exact (fo_if (fo_rdI (fun v7 => (fo_if (hgo 9 _ _ _ _ _ _ _ _ _ _ _ _ z hz (fun _ => (by first | omega | decide))) (fo_rdF (fun v8 => (fo_cs1 (ff_X13_qOf) (pf_sub (by decide) pf_0) hz (fun v10 z9 h_z9 => (fo_if (hgo 4 _ _ _ _ _ _ _ _ _ _ _ _ z9 h_z9 (fun _ => (by first | omega | decide))) (hgo 8 _ _ _ _ _ _ _ _ _ _ _ _ z9 h_z9 (fun _ => (by first | omega | decide))))))))))) (hgo 9 _ _ _ _ _ _ _ _ _ _ _ _ z hz (fun _ => (by first | omega | decide))))
theorem fb_X13_rankOf_4 {K : Nat} {z0 z : ow_MS}  {go : Nat → Int32 → Int32 → Int32 → Int32 → Int32 → Int32 → Int32 → Int32 → Int32 → Nat → Int32 → Int32 → ow_MS → Option (Int32 × ow_MS)} {x2 : Int32} {x3 : Int32} {x4 : Int32} {x5 : Int32} {x6 : Int32} {x7 : Int32} {x8 : Int32} {x9 : Int32} {x10 : Int32} {r1 : Nat} {t0 : Int32} {t1 : Int32}  (hgo : ∀ (L : Nat) (x2 : Int32) (x3 : Int32) (x4 : Int32) (x5 : Int32) (x6 : Int32) (x7 : Int32) (x8 : Int32) (x9 : Int32) (x10 : Int32) (r1 : Nat) (t0 : Int32) (t1 : Int32) (z : ow_MS), fr (pf [89, 90, 91, 92, 93] []) z0 z → (L = 0 ∨ L = 1 ∨ L = 2 ∨ L = 3 ∨ L = 4 ∨ L = 5 ∨ L = 6 ∨ L = 7 ∨ L = 8 ∨ L = 9 → 1000 ≤ r1) → Fo Prod.snd (pf [89, 90, 91, 92, 93] []) z0 (go L x2 x3 x4 x5 x6 x7 x8 x9 x10 r1 t0 t1 z)) (hz : fr (pf [89, 90, 91, 92, 93] []) z0 z) (hr1 : 1000 ≤ r1) : Fo Prod.snd (pf [89, 90, 91, 92, 93] []) z0 (qm_X13_rankOf_4 K go x2 x3 x4 x5 x6 x7 x8 x9 x10 r1 t0 t1 z) := by
  unfold qm_X13_rankOf_4
  exact (fo_if (hgo 5 _ _ _ _ _ _ _ _ _ _ _ _ z hz (fun _ => (by first | omega | decide))) (fo_wrI (Or.inl (by decide)) hz (fun z11 h_z11 => (hgo 4 _ _ _ _ _ _ _ _ _ _ _ _ z11 h_z11 (fun _ => (by first | omega | decide))))))
theorem fb_X13_rankOf_5 {K : Nat} {z0 z : ow_MS}  {go : Nat → Int32 → Int32 → Int32 → Int32 → Int32 → Int32 → Int32 → Int32 → Int32 → Nat → Int32 → Int32 → ow_MS → Option (Int32 × ow_MS)} {x2 : Int32} {x3 : Int32} {x4 : Int32} {x5 : Int32} {x6 : Int32} {x7 : Int32} {x8 : Int32} {x9 : Int32} {x10 : Int32} {r1 : Nat} {t0 : Int32} {t1 : Int32}  (hgo : ∀ (L : Nat) (x2 : Int32) (x3 : Int32) (x4 : Int32) (x5 : Int32) (x6 : Int32) (x7 : Int32) (x8 : Int32) (x9 : Int32) (x10 : Int32) (r1 : Nat) (t0 : Int32) (t1 : Int32) (z : ow_MS), fr (pf [89, 90, 91, 92, 93] []) z0 z → (L = 0 ∨ L = 1 ∨ L = 2 ∨ L = 3 ∨ L = 4 ∨ L = 5 ∨ L = 6 ∨ L = 7 ∨ L = 8 ∨ L = 9 → 1000 ≤ r1) → Fo Prod.snd (pf [89, 90, 91, 92, 93] []) z0 (go L x2 x3 x4 x5 x6 x7 x8 x9 x10 r1 t0 t1 z)) (hz : fr (pf [89, 90, 91, 92, 93] []) z0 z) (hr1 : 1000 ≤ r1) : Fo Prod.snd (pf [89, 90, 91, 92, 93] []) z0 (qm_X13_rankOf_5 K go x2 x3 x4 x5 x6 x7 x8 x9 x10 r1 t0 t1 z) := by
  unfold qm_X13_rankOf_5
  exact (fo_if (fo_cs1 (ff_X13_reduced) (pf_sub (by decide) pf_0) hz (fun v13 z12 h_z12 => (fo_if (hgo 7 _ _ _ _ _ _ _ _ _ _ _ _ z12 h_z12 (fun _ => (by first | omega | decide))) (hgo 7 _ _ _ _ _ _ _ _ _ _ _ _ z12 h_z12 (fun _ => (by first | omega | decide)))))) (fo_if (fo_cs0 (ff_X13_step (by first | omega | decide)) (pf_sub (by decide) pf_0) hz (fun z14 h_z14 => (hgo 6 _ _ _ _ _ _ _ _ _ _ _ _ z14 h_z14 (fun _ => (by first | omega | decide))))) (hgo 6 _ _ _ _ _ _ _ _ _ _ _ _ z hz (fun _ => (by first | omega | decide)))))
theorem fb_X13_rankOf_6 {K : Nat} {z0 z : ow_MS}  {go : Nat → Int32 → Int32 → Int32 → Int32 → Int32 → Int32 → Int32 → Int32 → Int32 → Nat → Int32 → Int32 → ow_MS → Option (Int32 × ow_MS)} {x2 : Int32} {x3 : Int32} {x4 : Int32} {x5 : Int32} {x6 : Int32} {x7 : Int32} {x8 : Int32} {x9 : Int32} {x10 : Int32} {r1 : Nat} {t0 : Int32} {t1 : Int32}  (hgo : ∀ (L : Nat) (x2 : Int32) (x3 : Int32) (x4 : Int32) (x5 : Int32) (x6 : Int32) (x7 : Int32) (x8 : Int32) (x9 : Int32) (x10 : Int32) (r1 : Nat) (t0 : Int32) (t1 : Int32) (z : ow_MS), fr (pf [89, 90, 91, 92, 93] []) z0 z → (L = 0 ∨ L = 1 ∨ L = 2 ∨ L = 3 ∨ L = 4 ∨ L = 5 ∨ L = 6 ∨ L = 7 ∨ L = 8 ∨ L = 9 → 1000 ≤ r1) → Fo Prod.snd (pf [89, 90, 91, 92, 93] []) z0 (go L x2 x3 x4 x5 x6 x7 x8 x9 x10 r1 t0 t1 z)) (hz : fr (pf [89, 90, 91, 92, 93] []) z0 z) (hr1 : 1000 ≤ r1) : Fo Prod.snd (pf [89, 90, 91, 92, 93] []) z0 (qm_X13_rankOf_6 K go x2 x3 x4 x5 x6 x7 x8 x9 x10 r1 t0 t1 z) := by
  unfold qm_X13_rankOf_6
  exact (hgo 5 _ _ _ _ _ _ _ _ _ _ _ _ z hz (fun _ => (by first | omega | decide)))
theorem fb_X13_rankOf_7 {K : Nat} {z0 z : ow_MS}  {go : Nat → Int32 → Int32 → Int32 → Int32 → Int32 → Int32 → Int32 → Int32 → Int32 → Nat → Int32 → Int32 → ow_MS → Option (Int32 × ow_MS)} {x2 : Int32} {x3 : Int32} {x4 : Int32} {x5 : Int32} {x6 : Int32} {x7 : Int32} {x8 : Int32} {x9 : Int32} {x10 : Int32} {r1 : Nat} {t0 : Int32} {t1 : Int32}  (hgo : ∀ (L : Nat) (x2 : Int32) (x3 : Int32) (x4 : Int32) (x5 : Int32) (x6 : Int32) (x7 : Int32) (x8 : Int32) (x9 : Int32) (x10 : Int32) (r1 : Nat) (t0 : Int32) (t1 : Int32) (z : ow_MS), fr (pf [89, 90, 91, 92, 93] []) z0 z → (L = 0 ∨ L = 1 ∨ L = 2 ∨ L = 3 ∨ L = 4 ∨ L = 5 ∨ L = 6 ∨ L = 7 ∨ L = 8 ∨ L = 9 → 1000 ≤ r1) → Fo Prod.snd (pf [89, 90, 91, 92, 93] []) z0 (go L x2 x3 x4 x5 x6 x7 x8 x9 x10 r1 t0 t1 z)) (hz : fr (pf [89, 90, 91, 92, 93] []) z0 z) (hr1 : 1000 ≤ r1) : Fo Prod.snd (pf [89, 90, 91, 92, 93] []) z0 (qm_X13_rankOf_7 K go x2 x3 x4 x5 x6 x7 x8 x9 x10 r1 t0 t1 z) := by
  unfold qm_X13_rankOf_7
  exact (hgo 8 _ _ _ _ _ _ _ _ _ _ _ _ z hz (fun _ => (by first | omega | decide)))
theorem fb_X13_rankOf_8 {K : Nat} {z0 z : ow_MS}  {go : Nat → Int32 → Int32 → Int32 → Int32 → Int32 → Int32 → Int32 → Int32 → Int32 → Nat → Int32 → Int32 → ow_MS → Option (Int32 × ow_MS)} {x2 : Int32} {x3 : Int32} {x4 : Int32} {x5 : Int32} {x6 : Int32} {x7 : Int32} {x8 : Int32} {x9 : Int32} {x10 : Int32} {r1 : Nat} {t0 : Int32} {t1 : Int32}  (hgo : ∀ (L : Nat) (x2 : Int32) (x3 : Int32) (x4 : Int32) (x5 : Int32) (x6 : Int32) (x7 : Int32) (x8 : Int32) (x9 : Int32) (x10 : Int32) (r1 : Nat) (t0 : Int32) (t1 : Int32) (z : ow_MS), fr (pf [89, 90, 91, 92, 93] []) z0 z → (L = 0 ∨ L = 1 ∨ L = 2 ∨ L = 3 ∨ L = 4 ∨ L = 5 ∨ L = 6 ∨ L = 7 ∨ L = 8 ∨ L = 9 → 1000 ≤ r1) → Fo Prod.snd (pf [89, 90, 91, 92, 93] []) z0 (go L x2 x3 x4 x5 x6 x7 x8 x9 x10 r1 t0 t1 z)) (hz : fr (pf [89, 90, 91, 92, 93] []) z0 z) (hr1 : 1000 ≤ r1) : Fo Prod.snd (pf [89, 90, 91, 92, 93] []) z0 (qm_X13_rankOf_8 K go x2 x3 x4 x5 x6 x7 x8 x9 x10 r1 t0 t1 z) := by
  unfold qm_X13_rankOf_8
  exact (hgo 3 _ _ _ _ _ _ _ _ _ _ _ _ z hz (fun _ => (by first | omega | decide)))
theorem fb_X13_rankOf_9 {K : Nat} {z0 z : ow_MS}  {go : Nat → Int32 → Int32 → Int32 → Int32 → Int32 → Int32 → Int32 → Int32 → Int32 → Nat → Int32 → Int32 → ow_MS → Option (Int32 × ow_MS)} {x2 : Int32} {x3 : Int32} {x4 : Int32} {x5 : Int32} {x6 : Int32} {x7 : Int32} {x8 : Int32} {x9 : Int32} {x10 : Int32} {r1 : Nat} {t0 : Int32} {t1 : Int32}  (hgo : ∀ (L : Nat) (x2 : Int32) (x3 : Int32) (x4 : Int32) (x5 : Int32) (x6 : Int32) (x7 : Int32) (x8 : Int32) (x9 : Int32) (x10 : Int32) (r1 : Nat) (t0 : Int32) (t1 : Int32) (z : ow_MS), fr (pf [89, 90, 91, 92, 93] []) z0 z → (L = 0 ∨ L = 1 ∨ L = 2 ∨ L = 3 ∨ L = 4 ∨ L = 5 ∨ L = 6 ∨ L = 7 ∨ L = 8 ∨ L = 9 → 1000 ≤ r1) → Fo Prod.snd (pf [89, 90, 91, 92, 93] []) z0 (go L x2 x3 x4 x5 x6 x7 x8 x9 x10 r1 t0 t1 z)) (hz : fr (pf [89, 90, 91, 92, 93] []) z0 z) (hr1 : 1000 ≤ r1) : Fo Prod.snd (pf [89, 90, 91, 92, 93] []) z0 (qm_X13_rankOf_9 K go x2 x3 x4 x5 x6 x7 x8 x9 x10 r1 t0 t1 z) := by
  unfold qm_X13_rankOf_9
  exact (hgo 2 _ _ _ _ _ _ _ _ _ _ _ _ z hz (fun _ => (by first | omega | decide)))
theorem fq_X13_rankOf {K : Nat} {z0 : ow_MS}   : ∀ (k L : Nat) (x2 : Int32) (x3 : Int32) (x4 : Int32) (x5 : Int32) (x6 : Int32) (x7 : Int32) (x8 : Int32) (x9 : Int32) (x10 : Int32) (r1 : Nat) (t0 : Int32) (t1 : Int32) (z : ow_MS), fr (pf [89, 90, 91, 92, 93] []) z0 z → (L = 0 ∨ L = 1 ∨ L = 2 ∨ L = 3 ∨ L = 4 ∨ L = 5 ∨ L = 6 ∨ L = 7 ∨ L = 8 ∨ L = 9 → 1000 ≤ r1) → Fo Prod.snd (pf [89, 90, 91, 92, 93] []) z0 (q_X13_rankOf K k L x2 x3 x4 x5 x6 x7 x8 x9 x10 r1 t0 t1 z)
  | 0 => by
    intros
    exact fo_none
  | k + 1 => by
    intro L x2 x3 x4 x5 x6 x7 x8 x9 x10 r1 t0 t1 z hz h9_r1
    show Fo Prod.snd (pf [89, 90, 91, 92, 93] []) z0 (qb_X13_rankOf K (q_X13_rankOf K k) L x2 x3 x4 x5 x6 x7 x8 x9 x10 r1 t0 t1 z)
    unfold qb_X13_rankOf
    split
    · exact fb_X13_rankOf_0 (fq_X13_rankOf k) hz (h9_r1 (by decide))
    · exact fb_X13_rankOf_1 (fq_X13_rankOf k) hz (h9_r1 (by decide))
    · exact fb_X13_rankOf_2 (fq_X13_rankOf k) hz (h9_r1 (by decide))
    · exact fb_X13_rankOf_3 (fq_X13_rankOf k) hz (h9_r1 (by decide))
    · exact fb_X13_rankOf_4 (fq_X13_rankOf k) hz (h9_r1 (by decide))
    · exact fb_X13_rankOf_5 (fq_X13_rankOf k) hz (h9_r1 (by decide))
    · exact fb_X13_rankOf_6 (fq_X13_rankOf k) hz (h9_r1 (by decide))
    · exact fb_X13_rankOf_7 (fq_X13_rankOf k) hz (h9_r1 (by decide))
    · exact fb_X13_rankOf_8 (fq_X13_rankOf k) hz (h9_r1 (by decide))
    · exact fb_X13_rankOf_9 (fq_X13_rankOf k) hz (h9_r1 (by decide))
    · exact fo_none
theorem ff_X13_rankOf {K : Nat} {r1 : Nat} {x2 : Int32} {x3 : Int32} {x4 : Int32} {z : ow_MS} (hr1 : 1000 ≤ r1) : Fo Prod.snd (pf [89, 90, 91, 92, 93] []) z (qe_X13_rankOf K r1 x2 x3 x4 z) := fq_X13_rankOf K 0 _ _ _ _ _ _ _ _ _ _ _ _ z fr_rf (fun _ => (by first | omega | decide))
theorem fb_X13_chain_0 {K : Nat} {z0 z : ow_MS}  {go : Nat → Int32 → Int32 → Int32 → Int32 → Int32 → Int32 → Int32 → Int32 → ow_MS → Option (Int32 × ow_MS)} {x1 : Int32} {x2 : Int32} {x3 : Int32} {x4 : Int32} {x5 : Int32} {x6 : Int32} {t0 : Int32} {t1 : Int32}  (hgo : ∀ (L : Nat) (x1 : Int32) (x2 : Int32) (x3 : Int32) (x4 : Int32) (x5 : Int32) (x6 : Int32) (t0 : Int32) (t1 : Int32) (z : ow_MS), fr (pf [1, 47, 81, 82, 83, 84, 85, 86, 87, 88, 89, 90, 91, 92, 93] []) z0 z → Fo Prod.snd (pf [1, 47, 81, 82, 83, 84, 85, 86, 87, 88, 89, 90, 91, 92, 93] []) z0 (go L x1 x2 x3 x4 x5 x6 t0 t1 z)) (hz : fr (pf [1, 47, 81, 82, 83, 84, 85, 86, 87, 88, 89, 90, 91, 92, 93] []) z0 z)  : Fo Prod.snd (pf [1, 47, 81, 82, 83, 84, 85, 86, 87, 88, 89, 90, 91, 92, 93] []) z0 (qm_X13_chain_0 K go x1 x2 x3 x4 x5 x6 t0 t1 z) := by
  unfold qm_X13_chain_0
  exact (fo_wrF (Or.inl (by decide)) hz (fun z1 h_z1 => (fo_cs1 (ff_X13_has) (pf_sub (by decide) pf_0) h_z1 (fun v3 z2 h_z2 => (fo_if (fo_cs1 (ff_X13_fails) (pf_sub (by decide) pf_0) h_z2 (fun v20 z19 h_z19 => (fo_some h_z19))) (fo_cs1 (ff_X13_isPrime) (pf_sub (by decide) pf_0) h_z2 (fun v5 z4 h_z4 => (fo_if (fo_cs1 (ff_X13_fails) (pf_sub (by decide) pf_0) h_z4 (fun v18 z17 h_z17 => (fo_some h_z17))) (fo_cs0 (ff_X13_open (by first | omega | decide)) (pf_sub (by decide) pf_0) h_z4 (fun z6 h_z6 => (fo_cs0 (ff_X12_split (by first | omega | decide)) (pf_sub (by decide) pf_0) h_z6 (fun z7 h_z7 => (fo_rdF (fun v8 => (fo_nzI (fo_rdF (fun v9 => (fo_if (fo_cs1 (ff_X13_writheOf (by first | omega | decide)) (pf_sub (by decide) pf_0) h_z7 (fun v11 z10 h_z10 => (fo_nzI (fo_wrF (Or.inl (by decide)) h_z10 (fun z12 h_z12 => (fo_cs0 (ff_X13_makeStates (by first | omega | decide)) (pf_sub (by decide) pf_0) h_z12 (fun z13 h_z13 => (fo_cs0 (ff_X13_placeAll) (pf_sub (by decide) pf_0) h_z13 (fun z14 h_z14 => (hgo 1 _ _ _ _ _ _ _ _ z14 h_z14)))))))))) (fo_cs1 (ff_X13_fails) (pf_sub (by decide) pf_0) h_z7 (fun v16 z15 h_z15 => (fo_some h_z15)))))))))))))))))))))
theorem fb_X13_chain_1 {K : Nat} {z0 z : ow_MS}  {go : Nat → Int32 → Int32 → Int32 → Int32 → Int32 → Int32 → Int32 → Int32 → ow_MS → Option (Int32 × ow_MS)} {x1 : Int32} {x2 : Int32} {x3 : Int32} {x4 : Int32} {x5 : Int32} {x6 : Int32} {t0 : Int32} {t1 : Int32}  (hgo : ∀ (L : Nat) (x1 : Int32) (x2 : Int32) (x3 : Int32) (x4 : Int32) (x5 : Int32) (x6 : Int32) (t0 : Int32) (t1 : Int32) (z : ow_MS), fr (pf [1, 47, 81, 82, 83, 84, 85, 86, 87, 88, 89, 90, 91, 92, 93] []) z0 z → Fo Prod.snd (pf [1, 47, 81, 82, 83, 84, 85, 86, 87, 88, 89, 90, 91, 92, 93] []) z0 (go L x1 x2 x3 x4 x5 x6 t0 t1 z)) (hz : fr (pf [1, 47, 81, 82, 83, 84, 85, 86, 87, 88, 89, 90, 91, 92, 93] []) z0 z)  : Fo Prod.snd (pf [1, 47, 81, 82, 83, 84, 85, 86, 87, 88, 89, 90, 91, 92, 93] []) z0 (qm_X13_chain_1 K go x1 x2 x3 x4 x5 x6 t0 t1 z) := by
  unfold qm_X13_chain_1
  exact (fo_if (fo_some hz) (hgo 2 _ _ _ _ _ _ _ _ z hz))
theorem fb_X13_chain_2 {K : Nat} {z0 z : ow_MS}  {go : Nat → Int32 → Int32 → Int32 → Int32 → Int32 → Int32 → Int32 → Int32 → ow_MS → Option (Int32 × ow_MS)} {x1 : Int32} {x2 : Int32} {x3 : Int32} {x4 : Int32} {x5 : Int32} {x6 : Int32} {t0 : Int32} {t1 : Int32}  (hgo : ∀ (L : Nat) (x1 : Int32) (x2 : Int32) (x3 : Int32) (x4 : Int32) (x5 : Int32) (x6 : Int32) (t0 : Int32) (t1 : Int32) (z : ow_MS), fr (pf [1, 47, 81, 82, 83, 84, 85, 86, 87, 88, 89, 90, 91, 92, 93] []) z0 z → Fo Prod.snd (pf [1, 47, 81, 82, 83, 84, 85, 86, 87, 88, 89, 90, 91, 92, 93] []) z0 (go L x1 x2 x3 x4 x5 x6 t0 t1 z)) (hz : fr (pf [1, 47, 81, 82, 83, 84, 85, 86, 87, 88, 89, 90, 91, 92, 93] []) z0 z)  : Fo Prod.snd (pf [1, 47, 81, 82, 83, 84, 85, 86, 87, 88, 89, 90, 91, 92, 93] []) z0 (qm_X13_chain_2 K go x1 x2 x3 x4 x5 x6 t0 t1 z) := by
  unfold qm_X13_chain_2
  exact (fo_if (hgo 3 _ _ _ _ _ _ _ _ z hz) (fo_cs1 (ff_X13_rankOf (by first | omega | decide)) (pf_sub (by decide) pf_0) hz (fun v22 z21 h_z21 => (fo_wrI (Or.inl (by decide)) h_z21 (fun z23 h_z23 => (hgo 2 _ _ _ _ _ _ _ _ z23 h_z23))))))
theorem fb_X13_chain_3 {K : Nat} {z0 z : ow_MS}  {go : Nat → Int32 → Int32 → Int32 → Int32 → Int32 → Int32 → Int32 → Int32 → ow_MS → Option (Int32 × ow_MS)} {x1 : Int32} {x2 : Int32} {x3 : Int32} {x4 : Int32} {x5 : Int32} {x6 : Int32} {t0 : Int32} {t1 : Int32}  (hgo : ∀ (L : Nat) (x1 : Int32) (x2 : Int32) (x3 : Int32) (x4 : Int32) (x5 : Int32) (x6 : Int32) (t0 : Int32) (t1 : Int32) (z : ow_MS), fr (pf [1, 47, 81, 82, 83, 84, 85, 86, 87, 88, 89, 90, 91, 92, 93] []) z0 z → Fo Prod.snd (pf [1, 47, 81, 82, 83, 84, 85, 86, 87, 88, 89, 90, 91, 92, 93] []) z0 (go L x1 x2 x3 x4 x5 x6 t0 t1 z)) (hz : fr (pf [1, 47, 81, 82, 83, 84, 85, 86, 87, 88, 89, 90, 91, 92, 93] []) z0 z)  : Fo Prod.snd (pf [1, 47, 81, 82, 83, 84, 85, 86, 87, 88, 89, 90, 91, 92, 93] []) z0 (qm_X13_chain_3 K go x1 x2 x3 x4 x5 x6 t0 t1 z) := by
  unfold qm_X13_chain_3
  exact (fo_if (hgo 1 _ _ _ _ _ _ _ _ z hz) (fo_rdI (fun v24 => (fo_rdI (fun v25 => (fo_if (hgo 4 _ _ _ _ _ _ _ _ z hz) (fo_rdI (fun v26 => (hgo 4 _ _ _ _ _ _ _ _ z hz)))))))))
theorem fb_X13_chain_4 {K : Nat} {z0 z : ow_MS}  {go : Nat → Int32 → Int32 → Int32 → Int32 → Int32 → Int32 → Int32 → Int32 → ow_MS → Option (Int32 × ow_MS)} {x1 : Int32} {x2 : Int32} {x3 : Int32} {x4 : Int32} {x5 : Int32} {x6 : Int32} {t0 : Int32} {t1 : Int32}  (hgo : ∀ (L : Nat) (x1 : Int32) (x2 : Int32) (x3 : Int32) (x4 : Int32) (x5 : Int32) (x6 : Int32) (t0 : Int32) (t1 : Int32) (z : ow_MS), fr (pf [1, 47, 81, 82, 83, 84, 85, 86, 87, 88, 89, 90, 91, 92, 93] []) z0 z → Fo Prod.snd (pf [1, 47, 81, 82, 83, 84, 85, 86, 87, 88, 89, 90, 91, 92, 93] []) z0 (go L x1 x2 x3 x4 x5 x6 t0 t1 z)) (hz : fr (pf [1, 47, 81, 82, 83, 84, 85, 86, 87, 88, 89, 90, 91, 92, 93] []) z0 z)  : Fo Prod.snd (pf [1, 47, 81, 82, 83, 84, 85, 86, 87, 88, 89, 90, 91, 92, 93] []) z0 (qm_X13_chain_4 K go x1 x2 x3 x4 x5 x6 t0 t1 z) := by
  unfold qm_X13_chain_4
  exact (fo_wrI (Or.inl (by decide)) hz (fun z27 h_z27 => (hgo 3 _ _ _ _ _ _ _ _ z27 h_z27)))
theorem fq_X13_chain {K : Nat} {z0 : ow_MS}   : ∀ (k L : Nat) (x1 : Int32) (x2 : Int32) (x3 : Int32) (x4 : Int32) (x5 : Int32) (x6 : Int32) (t0 : Int32) (t1 : Int32) (z : ow_MS), fr (pf [1, 47, 81, 82, 83, 84, 85, 86, 87, 88, 89, 90, 91, 92, 93] []) z0 z → Fo Prod.snd (pf [1, 47, 81, 82, 83, 84, 85, 86, 87, 88, 89, 90, 91, 92, 93] []) z0 (q_X13_chain K k L x1 x2 x3 x4 x5 x6 t0 t1 z)
  | 0 => by
    intros
    exact fo_none
  | k + 1 => by
    intro L x1 x2 x3 x4 x5 x6 t0 t1 z hz 
    show Fo Prod.snd (pf [1, 47, 81, 82, 83, 84, 85, 86, 87, 88, 89, 90, 91, 92, 93] []) z0 (qb_X13_chain K (q_X13_chain K k) L x1 x2 x3 x4 x5 x6 t0 t1 z)
    unfold qb_X13_chain
    split
    · exact fb_X13_chain_0 (fq_X13_chain k) hz 
    · exact fb_X13_chain_1 (fq_X13_chain k) hz 
    · exact fb_X13_chain_2 (fq_X13_chain k) hz 
    · exact fb_X13_chain_3 (fq_X13_chain k) hz 
    · exact fb_X13_chain_4 (fq_X13_chain k) hz 
    · exact fo_none
theorem ff_X13_chain {K : Nat} {x1 : Int32} {x2 : Int32} {z : ow_MS}  : Fo Prod.snd (pf [1, 47, 81, 82, 83, 84, 85, 86, 87, 88, 89, 90, 91, 92, 93] []) z (qe_X13_chain K x1 x2 z) := fq_X13_chain K 0 _ _ _ _ _ _ _ _ z fr_rf 
theorem fb_X13_rank_0 {K : Nat} {z0 z : ow_MS}  {go : Nat → Int32 → Int32 → Int64 → ow_MS → Option (Int32 × ow_MS)} {x1 : Int32} {x2 : Int32} {w3 : Int64}  (hgo : ∀ (L : Nat) (x1 : Int32) (x2 : Int32) (w3 : Int64) (z : ow_MS), fr (pf [1] []) z0 z → Fo Prod.snd (pf [1] []) z0 (go L x1 x2 w3 z)) (hz : fr (pf [1] []) z0 z)  : Fo Prod.snd (pf [1] []) z0 (qm_X13_rank_0 K go x1 x2 w3 z) := by
  unfold qm_X13_rank_0
  exact (fo_wrF (Or.inl (by decide)) hz (fun z1 h_z1 => (fo_rdF (fun v2 => (fo_if (hgo 1 _ _ _ z1 h_z1) (fo_if (hgo 1 _ _ _ z1 h_z1) (fo_if (hgo 1 _ _ _ z1 h_z1) (fo_if (fo_rdI (fun v3 => (fo_some h_z1))) (hgo 1 _ _ _ z1 h_z1)))))))))
theorem fb_X13_rank_1 {K : Nat} {z0 z : ow_MS}  {go : Nat → Int32 → Int32 → Int64 → ow_MS → Option (Int32 × ow_MS)} {x1 : Int32} {x2 : Int32} {w3 : Int64}  (hgo : ∀ (L : Nat) (x1 : Int32) (x2 : Int32) (w3 : Int64) (z : ow_MS), fr (pf [1] []) z0 z → Fo Prod.snd (pf [1] []) z0 (go L x1 x2 w3 z)) (hz : fr (pf [1] []) z0 z)  : Fo Prod.snd (pf [1] []) z0 (qm_X13_rank_1 K go x1 x2 w3 z) := by
  unfold qm_X13_rank_1
  exact (fo_some hz)
theorem fq_X13_rank {K : Nat} {z0 : ow_MS}   : ∀ (k L : Nat) (x1 : Int32) (x2 : Int32) (w3 : Int64) (z : ow_MS), fr (pf [1] []) z0 z → Fo Prod.snd (pf [1] []) z0 (q_X13_rank K k L x1 x2 w3 z)
  | 0 => by
    intros
    exact fo_none
  | k + 1 => by
    intro L x1 x2 w3 z hz 
    show Fo Prod.snd (pf [1] []) z0 (qb_X13_rank K (q_X13_rank K k) L x1 x2 w3 z)
    unfold qb_X13_rank
    split
    · exact fb_X13_rank_0 (fq_X13_rank k) hz 
    · exact fb_X13_rank_1 (fq_X13_rank k) hz 
    · exact fo_none
theorem ff_X13_rank {K : Nat} {x1 : Int32} {x2 : Int32} {z : ow_MS}  : Fo Prod.snd (pf [1] []) z (qe_X13_rank K x1 x2 z) := fq_X13_rank K 0 _ _ _ z fr_rf 
theorem fb_X13_run_0 {K : Nat} {z0 z : ow_MS}  {go : Nat → Int32 → Int32 → Int32 → Int32 → Int32 → Int32 → Int32 → Int32 → Int32 → ow_MS → Option (Int32 × ow_MS)} {x1 : Int32} {x2 : Int32} {x3 : Int32} {x4 : Int32} {x5 : Int32} {x6 : Int32} {t0 : Int32} {t1 : Int32} {t2 : Int32}  (hgo : ∀ (L : Nat) (x1 : Int32) (x2 : Int32) (x3 : Int32) (x4 : Int32) (x5 : Int32) (x6 : Int32) (t0 : Int32) (t1 : Int32) (t2 : Int32) (z : ow_MS), fr (pf [] []) z0 z → Fo Prod.snd (pf [] []) z0 (go L x1 x2 x3 x4 x5 x6 t0 t1 t2 z)) (hz : fr (pf [] []) z0 z)  : Fo Prod.snd (pf [] []) z0 (qm_X13_run_0 K go x1 x2 x3 x4 x5 x6 t0 t1 t2 z) := by
  unfold qm_X13_run_0
  exact (hgo 1 _ _ _ _ _ _ _ _ _ z hz)
theorem fb_X13_run_1 {K : Nat} {z0 z : ow_MS}  {go : Nat → Int32 → Int32 → Int32 → Int32 → Int32 → Int32 → Int32 → Int32 → Int32 → ow_MS → Option (Int32 × ow_MS)} {x1 : Int32} {x2 : Int32} {x3 : Int32} {x4 : Int32} {x5 : Int32} {x6 : Int32} {t0 : Int32} {t1 : Int32} {t2 : Int32}  (hgo : ∀ (L : Nat) (x1 : Int32) (x2 : Int32) (x3 : Int32) (x4 : Int32) (x5 : Int32) (x6 : Int32) (t0 : Int32) (t1 : Int32) (t2 : Int32) (z : ow_MS), fr (pf [] []) z0 z → Fo Prod.snd (pf [] []) z0 (go L x1 x2 x3 x4 x5 x6 t0 t1 t2 z)) (hz : fr (pf [] []) z0 z)  : Fo Prod.snd (pf [] []) z0 (qm_X13_run_1 K go x1 x2 x3 x4 x5 x6 t0 t1 t2 z) := by
  unfold qm_X13_run_1
  exact (fo_rdI (fun v1 => (fo_if (fo_some hz) (fo_rdI (fun v2 => (fo_if (hgo 2 _ _ _ _ _ _ _ _ _ z hz) (fo_if (hgo 2 _ _ _ _ _ _ _ _ _ z hz) (hgo 7 _ _ _ _ _ _ _ _ _ z hz))))))))
theorem fb_X13_run_2 {K : Nat} {z0 z : ow_MS}  {go : Nat → Int32 → Int32 → Int32 → Int32 → Int32 → Int32 → Int32 → Int32 → Int32 → ow_MS → Option (Int32 × ow_MS)} {x1 : Int32} {x2 : Int32} {x3 : Int32} {x4 : Int32} {x5 : Int32} {x6 : Int32} {t0 : Int32} {t1 : Int32} {t2 : Int32}  (hgo : ∀ (L : Nat) (x1 : Int32) (x2 : Int32) (x3 : Int32) (x4 : Int32) (x5 : Int32) (x6 : Int32) (t0 : Int32) (t1 : Int32) (t2 : Int32) (z : ow_MS), fr (pf [] []) z0 z → Fo Prod.snd (pf [] []) z0 (go L x1 x2 x3 x4 x5 x6 t0 t1 t2 z)) (hz : fr (pf [] []) z0 z)  : Fo Prod.snd (pf [] []) z0 (qm_X13_run_2 K go x1 x2 x3 x4 x5 x6 t0 t1 t2 z) := by
  unfold qm_X13_run_2
  exact (fo_if (hgo 3 _ _ _ _ _ _ _ _ _ z hz) (hgo 3 _ _ _ _ _ _ _ _ _ z hz))
theorem fb_X13_run_3 {K : Nat} {z0 z : ow_MS}  {go : Nat → Int32 → Int32 → Int32 → Int32 → Int32 → Int32 → Int32 → Int32 → Int32 → ow_MS → Option (Int32 × ow_MS)} {x1 : Int32} {x2 : Int32} {x3 : Int32} {x4 : Int32} {x5 : Int32} {x6 : Int32} {t0 : Int32} {t1 : Int32} {t2 : Int32}  (hgo : ∀ (L : Nat) (x1 : Int32) (x2 : Int32) (x3 : Int32) (x4 : Int32) (x5 : Int32) (x6 : Int32) (t0 : Int32) (t1 : Int32) (t2 : Int32) (z : ow_MS), fr (pf [] []) z0 z → Fo Prod.snd (pf [] []) z0 (go L x1 x2 x3 x4 x5 x6 t0 t1 t2 z)) (hz : fr (pf [] []) z0 z)  : Fo Prod.snd (pf [] []) z0 (qm_X13_run_3 K go x1 x2 x3 x4 x5 x6 t0 t1 t2 z) := by
  unfold qm_X13_run_3
  exact (fo_if (hgo 4 _ _ _ _ _ _ _ _ _ z hz) (hgo 4 _ _ _ _ _ _ _ _ _ z hz))
theorem fb_X13_run_4 {K : Nat} {z0 z : ow_MS}  {go : Nat → Int32 → Int32 → Int32 → Int32 → Int32 → Int32 → Int32 → Int32 → Int32 → ow_MS → Option (Int32 × ow_MS)} {x1 : Int32} {x2 : Int32} {x3 : Int32} {x4 : Int32} {x5 : Int32} {x6 : Int32} {t0 : Int32} {t1 : Int32} {t2 : Int32}  (hgo : ∀ (L : Nat) (x1 : Int32) (x2 : Int32) (x3 : Int32) (x4 : Int32) (x5 : Int32) (x6 : Int32) (t0 : Int32) (t1 : Int32) (t2 : Int32) (z : ow_MS), fr (pf [] []) z0 z → Fo Prod.snd (pf [] []) z0 (go L x1 x2 x3 x4 x5 x6 t0 t1 t2 z)) (hz : fr (pf [] []) z0 z)  : Fo Prod.snd (pf [] []) z0 (qm_X13_run_4 K go x1 x2 x3 x4 x5 x6 t0 t1 t2 z) := by
  unfold qm_X13_run_4
  exact (fo_if (hgo 5 _ _ _ _ _ _ _ _ _ z hz) (hgo 5 _ _ _ _ _ _ _ _ _ z hz))
theorem fb_X13_run_5 {K : Nat} {z0 z : ow_MS}  {go : Nat → Int32 → Int32 → Int32 → Int32 → Int32 → Int32 → Int32 → Int32 → Int32 → ow_MS → Option (Int32 × ow_MS)} {x1 : Int32} {x2 : Int32} {x3 : Int32} {x4 : Int32} {x5 : Int32} {x6 : Int32} {t0 : Int32} {t1 : Int32} {t2 : Int32}  (hgo : ∀ (L : Nat) (x1 : Int32) (x2 : Int32) (x3 : Int32) (x4 : Int32) (x5 : Int32) (x6 : Int32) (t0 : Int32) (t1 : Int32) (t2 : Int32) (z : ow_MS), fr (pf [] []) z0 z → Fo Prod.snd (pf [] []) z0 (go L x1 x2 x3 x4 x5 x6 t0 t1 t2 z)) (hz : fr (pf [] []) z0 z)  : Fo Prod.snd (pf [] []) z0 (qm_X13_run_5 K go x1 x2 x3 x4 x5 x6 t0 t1 t2 z) := by
  unfold qm_X13_run_5
  exact (fo_cs0 (ff_X12_add (by first | omega | decide)) (pf_sub (by decide) pf_0) hz (fun z3 h_z3 => (fo_if (hgo 6 _ _ _ _ _ _ _ _ _ z3 h_z3) (hgo 6 _ _ _ _ _ _ _ _ _ z3 h_z3))))
theorem fb_X13_run_6 {K : Nat} {z0 z : ow_MS}  {go : Nat → Int32 → Int32 → Int32 → Int32 → Int32 → Int32 → Int32 → Int32 → Int32 → ow_MS → Option (Int32 × ow_MS)} {x1 : Int32} {x2 : Int32} {x3 : Int32} {x4 : Int32} {x5 : Int32} {x6 : Int32} {t0 : Int32} {t1 : Int32} {t2 : Int32}  (hgo : ∀ (L : Nat) (x1 : Int32) (x2 : Int32) (x3 : Int32) (x4 : Int32) (x5 : Int32) (x6 : Int32) (t0 : Int32) (t1 : Int32) (t2 : Int32) (z : ow_MS), fr (pf [] []) z0 z → Fo Prod.snd (pf [] []) z0 (go L x1 x2 x3 x4 x5 x6 t0 t1 t2 z)) (hz : fr (pf [] []) z0 z)  : Fo Prod.snd (pf [] []) z0 (qm_X13_run_6 K go x1 x2 x3 x4 x5 x6 t0 t1 t2 z) := by
  unfold qm_X13_run_6
  exact (fo_wrI (Or.inr (Or.inr (by decide))) hz (fun z4 h_z4 => (hgo 7 _ _ _ _ _ _ _ _ _ z4 h_z4)))
theorem fb_X13_run_7 {K : Nat} {z0 z : ow_MS}  {go : Nat → Int32 → Int32 → Int32 → Int32 → Int32 → Int32 → Int32 → Int32 → Int32 → ow_MS → Option (Int32 × ow_MS)} {x1 : Int32} {x2 : Int32} {x3 : Int32} {x4 : Int32} {x5 : Int32} {x6 : Int32} {t0 : Int32} {t1 : Int32} {t2 : Int32}  (hgo : ∀ (L : Nat) (x1 : Int32) (x2 : Int32) (x3 : Int32) (x4 : Int32) (x5 : Int32) (x6 : Int32) (t0 : Int32) (t1 : Int32) (t2 : Int32) (z : ow_MS), fr (pf [] []) z0 z → Fo Prod.snd (pf [] []) z0 (go L x1 x2 x3 x4 x5 x6 t0 t1 t2 z)) (hz : fr (pf [] []) z0 z)  : Fo Prod.snd (pf [] []) z0 (qm_X13_run_7 K go x1 x2 x3 x4 x5 x6 t0 t1 t2 z) := by
  unfold qm_X13_run_7
  exact (hgo 1 _ _ _ _ _ _ _ _ _ z hz)
theorem fq_X13_run {K : Nat} {z0 : ow_MS}   : ∀ (k L : Nat) (x1 : Int32) (x2 : Int32) (x3 : Int32) (x4 : Int32) (x5 : Int32) (x6 : Int32) (t0 : Int32) (t1 : Int32) (t2 : Int32) (z : ow_MS), fr (pf [] []) z0 z → Fo Prod.snd (pf [] []) z0 (q_X13_run K k L x1 x2 x3 x4 x5 x6 t0 t1 t2 z)
  | 0 => by
    intros
    exact fo_none
  | k + 1 => by
    intro L x1 x2 x3 x4 x5 x6 t0 t1 t2 z hz 
    show Fo Prod.snd (pf [] []) z0 (qb_X13_run K (q_X13_run K k) L x1 x2 x3 x4 x5 x6 t0 t1 t2 z)
    unfold qb_X13_run
    split
    · exact fb_X13_run_0 (fq_X13_run k) hz 
    · exact fb_X13_run_1 (fq_X13_run k) hz 
    · exact fb_X13_run_2 (fq_X13_run k) hz 
    · exact fb_X13_run_3 (fq_X13_run k) hz 
    · exact fb_X13_run_4 (fq_X13_run k) hz 
    · exact fb_X13_run_5 (fq_X13_run k) hz 
    · exact fb_X13_run_6 (fq_X13_run k) hz 
    · exact fb_X13_run_7 (fq_X13_run k) hz 
    · exact fo_none
theorem ff_X13_run {K : Nat} {x1 : Int32} {x2 : Int32} {z : ow_MS}  : Fo Prod.snd (pf [] []) z (qe_X13_run K x1 x2 z) := fq_X13_run K 0 _ _ _ _ _ _ _ _ _ z fr_rf 
theorem fb_X13_close_0 {K : Nat} {z0 z : ow_MS}  {go : Nat → Int32 → Int32 → Int32 → ow_MS → Option ow_MS} {x1 : Int32} {x2 : Int32} {x3 : Int32}  (hgo : ∀ (L : Nat) (x1 : Int32) (x2 : Int32) (x3 : Int32) (z : ow_MS), fr (pf [120] []) z0 z → Fo id (pf [120] []) z0 (go L x1 x2 x3 z)) (hz : fr (pf [120] []) z0 z)  : Fo id (pf [120] []) z0 (qm_X13_close_0 K go x1 x2 x3 z) := by
  unfold qm_X13_close_0
  exact (fo_cs0 (ff_X12_clear (by first | omega | decide)) (pf_sub (by decide) pf_0) hz (fun z1 h_z1 => (hgo 1 _ _ _ z1 h_z1)))
theorem fb_X13_close_1 {K : Nat} {z0 z : ow_MS}  {go : Nat → Int32 → Int32 → Int32 → ow_MS → Option ow_MS} {x1 : Int32} {x2 : Int32} {x3 : Int32}  (hgo : ∀ (L : Nat) (x1 : Int32) (x2 : Int32) (x3 : Int32) (z : ow_MS), fr (pf [120] []) z0 z → Fo id (pf [120] []) z0 (go L x1 x2 x3 z)) (hz : fr (pf [120] []) z0 z)  : Fo id (pf [120] []) z0 (qm_X13_close_1 K go x1 x2 x3 z) := by
  unfold qm_X13_close_1
  exact (fo_if (hgo 2 _ _ _ z hz) (fo_wrZ (Or.inl (by decide)) hz (fun z2 h_z2 => (hgo 1 _ _ _ z2 h_z2))))
theorem fb_X13_close_2 {K : Nat} {z0 z : ow_MS}  {go : Nat → Int32 → Int32 → Int32 → ow_MS → Option ow_MS} {x1 : Int32} {x2 : Int32} {x3 : Int32}  (hgo : ∀ (L : Nat) (x1 : Int32) (x2 : Int32) (x3 : Int32) (z : ow_MS), fr (pf [120] []) z0 z → Fo id (pf [120] []) z0 (go L x1 x2 x3 z)) (hz : fr (pf [120] []) z0 z)  : Fo id (pf [120] []) z0 (qm_X13_close_2 K go x1 x2 x3 z) := by
  unfold qm_X13_close_2
  exact (fo_rdI (fun v3 => (fo_if (fo_some hz) (fo_rdI (fun v4 => (fo_if (hgo 3 _ _ _ z hz) (hgo 4 _ _ _ z hz)))))))
theorem fb_X13_close_3 {K : Nat} {z0 z : ow_MS}  {go : Nat → Int32 → Int32 → Int32 → ow_MS → Option ow_MS} {x1 : Int32} {x2 : Int32} {x3 : Int32}  (hgo : ∀ (L : Nat) (x1 : Int32) (x2 : Int32) (x3 : Int32) (z : ow_MS), fr (pf [120] []) z0 z → Fo id (pf [120] []) z0 (go L x1 x2 x3 z)) (hz : fr (pf [120] []) z0 z)  : Fo id (pf [120] []) z0 (qm_X13_close_3 K go x1 x2 x3 z) := by
  unfold qm_X13_close_3
  exact (fo_wrZ (Or.inl (by decide)) hz (fun z5 h_z5 => (fo_cs1 (ff_X13_run) (pf_sub (by decide) pf_0) h_z5 (fun v7 z6 h_z6 => (fo_if (fo_cs0 (ff_X12_end (by first | omega | decide)) (pf_sub (by decide) pf_0) h_z6 (fun z8 h_z8 => (hgo 4 _ _ _ z8 h_z8))) (hgo 3 _ _ _ z6 h_z6))))))
theorem fb_X13_close_4 {K : Nat} {z0 z : ow_MS}  {go : Nat → Int32 → Int32 → Int32 → ow_MS → Option ow_MS} {x1 : Int32} {x2 : Int32} {x3 : Int32}  (hgo : ∀ (L : Nat) (x1 : Int32) (x2 : Int32) (x3 : Int32) (z : ow_MS), fr (pf [120] []) z0 z → Fo id (pf [120] []) z0 (go L x1 x2 x3 z)) (hz : fr (pf [120] []) z0 z)  : Fo id (pf [120] []) z0 (qm_X13_close_4 K go x1 x2 x3 z) := by
  unfold qm_X13_close_4
  exact (hgo 2 _ _ _ z hz)
theorem fq_X13_close {K : Nat} {z0 : ow_MS}   : ∀ (k L : Nat) (x1 : Int32) (x2 : Int32) (x3 : Int32) (z : ow_MS), fr (pf [120] []) z0 z → Fo id (pf [120] []) z0 (q_X13_close K k L x1 x2 x3 z)
  | 0 => by
    intros
    exact fo_none
  | k + 1 => by
    intro L x1 x2 x3 z hz 
    show Fo id (pf [120] []) z0 (qb_X13_close K (q_X13_close K k) L x1 x2 x3 z)
    unfold qb_X13_close
    split
    · exact fb_X13_close_0 (fq_X13_close k) hz 
    · exact fb_X13_close_1 (fq_X13_close k) hz 
    · exact fb_X13_close_2 (fq_X13_close k) hz 
    · exact fb_X13_close_3 (fq_X13_close k) hz 
    · exact fb_X13_close_4 (fq_X13_close k) hz 
    · exact fo_none
theorem ff_X13_close {K : Nat} {x1 : Int32} {z : ow_MS}  : Fo id (pf [120] []) z (qe_X13_close K x1 z) := fq_X13_close K 0 _ _ _ z fr_rf 
theorem ff_X13_closure {K : Nat} {x1 : Int32} {z : ow_MS}  : Fo Prod.snd (pf [1, 2, 3, 4, 5, 6, 7, 8, 9, 12, 120] []) z (qe_X13_closure K x1 z) := by
  unfold qe_X13_closure qm_X13_closure_0
  exact (fo_wrF (Or.inl (by decide)) fr_rf (fun z1 h_z1 => (fo_cs1 (ff_X13_hasBraid) (pf_sub (by decide) pf_0) h_z1 (fun v3 z2 h_z2 => (fo_if (fo_cs1 (ff_X13_fails) (pf_sub (by decide) pf_0) h_z2 (fun v15 z14 h_z14 => (fo_some h_z14))) (fo_rdI (fun v4 => (fo_if (fo_cs1 (ff_X13_free) (pf_sub (by decide) pf_0) h_z2 (fun v6 z5 h_z5 => (fo_if (fo_cs1 (ff_X13_fails) (pf_sub (by decide) pf_0) h_z5 (fun v11 z10 h_z10 => (fo_some h_z10))) (fo_cs0 (ff_X13_close) (pf_sub (by decide) pf_0) h_z5 (fun z7 h_z7 => (fo_cs1 (ff_X13_keep) (pf_sub (by decide) pf_0) h_z7 (fun v9 z8 h_z8 => (fo_some h_z8)))))))) (fo_cs1 (ff_X13_fails) (pf_sub (by decide) pf_0) h_z2 (fun v13 z12 h_z12 => (fo_some h_z12)))))))))))
theorem fb_X13_product_0 {K : Nat} {z0 z : ow_MS}  {go : Nat → Int32 → Int32 → Int32 → Int32 → Int32 → Int32 → ow_MS → Option (Int32 × ow_MS)} {x1 : Int32} {x2 : Int32} {x3 : Int32} {x4 : Int32} {t0 : Int32} {t1 : Int32}  (hgo : ∀ (L : Nat) (x1 : Int32) (x2 : Int32) (x3 : Int32) (x4 : Int32) (t0 : Int32) (t1 : Int32) (z : ow_MS), fr (pf [1, 94, 95, 96] []) z0 z → Fo Prod.snd (pf [1, 94, 95, 96] []) z0 (go L x1 x2 x3 x4 t0 t1 z)) (hz : fr (pf [1, 94, 95, 96] []) z0 z)  : Fo Prod.snd (pf [1, 94, 95, 96] []) z0 (qm_X13_product_0 K go x1 x2 x3 x4 t0 t1 z) := by
  unfold qm_X13_product_0
  exact (fo_wrF (Or.inl (by decide)) hz (fun z1 h_z1 => (fo_cs1 (ff_X13_hasBraid) (pf_sub (by decide) pf_0) h_z1 (fun v3 z2 h_z2 => (fo_if (hgo 1 _ _ _ _ _ _ z2 h_z2) (fo_cs1 (ff_X13_hasBraid) (pf_sub (by decide) pf_0) h_z2 (fun v5 z4 h_z4 => (fo_if (hgo 1 _ _ _ _ _ _ z4 h_z4) (fo_rdI (fun v6 => (fo_rdI (fun v7 => (fo_if (fo_rdI (fun v8 => (fo_rdI (fun v9 => (fo_if (fo_cs1 (ff_X13_freeBraid) (pf_sub (by decide) pf_0) h_z4 (fun v11 z10 h_z10 => (fo_if (fo_cs1 (ff_X13_fails) (pf_sub (by decide) pf_0) h_z10 (fun v13 z12 h_z12 => (fo_some h_z12))) (hgo 2 _ _ _ _ _ _ z10 h_z10)))) (fo_cs1 (ff_X13_fails) (pf_sub (by decide) pf_0) h_z4 (fun v15 z14 h_z14 => (fo_some h_z14)))))))) (fo_cs1 (ff_X13_fails) (pf_sub (by decide) pf_0) h_z4 (fun v17 z16 h_z16 => (fo_some h_z16))))))))))))))))
theorem fb_X13_product_1 {K : Nat} {z0 z : ow_MS}  {go : Nat → Int32 → Int32 → Int32 → Int32 → Int32 → Int32 → ow_MS → Option (Int32 × ow_MS)} {x1 : Int32} {x2 : Int32} {x3 : Int32} {x4 : Int32} {t0 : Int32} {t1 : Int32}  (hgo : ∀ (L : Nat) (x1 : Int32) (x2 : Int32) (x3 : Int32) (x4 : Int32) (t0 : Int32) (t1 : Int32) (z : ow_MS), fr (pf [1, 94, 95, 96] []) z0 z → Fo Prod.snd (pf [1, 94, 95, 96] []) z0 (go L x1 x2 x3 x4 t0 t1 z)) (hz : fr (pf [1, 94, 95, 96] []) z0 z)  : Fo Prod.snd (pf [1, 94, 95, 96] []) z0 (qm_X13_product_1 K go x1 x2 x3 x4 t0 t1 z) := by
  unfold qm_X13_product_1
  exact (fo_cs1 (ff_X13_fails) (pf_sub (by decide) pf_0) hz (fun v19 z18 h_z18 => (fo_some h_z18)))
theorem fb_X13_product_2 {K : Nat} {z0 z : ow_MS}  {go : Nat → Int32 → Int32 → Int32 → Int32 → Int32 → Int32 → ow_MS → Option (Int32 × ow_MS)} {x1 : Int32} {x2 : Int32} {x3 : Int32} {x4 : Int32} {t0 : Int32} {t1 : Int32}  (hgo : ∀ (L : Nat) (x1 : Int32) (x2 : Int32) (x3 : Int32) (x4 : Int32) (t0 : Int32) (t1 : Int32) (z : ow_MS), fr (pf [1, 94, 95, 96] []) z0 z → Fo Prod.snd (pf [1, 94, 95, 96] []) z0 (go L x1 x2 x3 x4 t0 t1 z)) (hz : fr (pf [1, 94, 95, 96] []) z0 z)  : Fo Prod.snd (pf [1, 94, 95, 96] []) z0 (qm_X13_product_2 K go x1 x2 x3 x4 t0 t1 z) := by
  unfold qm_X13_product_2
  exact (fo_rdI (fun v20 => (fo_rdI (fun v21 => (fo_if (fo_rdI (fun v22 => (fo_rdI (fun v23 => (fo_wrI (Or.inl (by decide)) hz (fun z24 h_z24 => (fo_rdI (fun v25 => (fo_wrI (Or.inl (by decide)) h_z24 (fun z26 h_z26 => (fo_some h_z26))))))))))) (fo_rdI (fun v27 => (fo_if (fo_rdI (fun v28 => (fo_rdI (fun v29 => (hgo 3 _ _ _ _ _ _ z hz))))) (fo_rdI (fun v30 => (hgo 3 _ _ _ _ _ _ z hz)))))))))))
theorem fb_X13_product_3 {K : Nat} {z0 z : ow_MS}  {go : Nat → Int32 → Int32 → Int32 → Int32 → Int32 → Int32 → ow_MS → Option (Int32 × ow_MS)} {x1 : Int32} {x2 : Int32} {x3 : Int32} {x4 : Int32} {t0 : Int32} {t1 : Int32}  (hgo : ∀ (L : Nat) (x1 : Int32) (x2 : Int32) (x3 : Int32) (x4 : Int32) (t0 : Int32) (t1 : Int32) (z : ow_MS), fr (pf [1, 94, 95, 96] []) z0 z → Fo Prod.snd (pf [1, 94, 95, 96] []) z0 (go L x1 x2 x3 x4 t0 t1 z)) (hz : fr (pf [1, 94, 95, 96] []) z0 z)  : Fo Prod.snd (pf [1, 94, 95, 96] []) z0 (qm_X13_product_3 K go x1 x2 x3 x4 t0 t1 z) := by
  unfold qm_X13_product_3
  exact (fo_wrI (Or.inl (by decide)) hz (fun z31 h_z31 => (hgo 2 _ _ _ _ _ _ z31 h_z31)))
theorem fq_X13_product {K : Nat} {z0 : ow_MS}   : ∀ (k L : Nat) (x1 : Int32) (x2 : Int32) (x3 : Int32) (x4 : Int32) (t0 : Int32) (t1 : Int32) (z : ow_MS), fr (pf [1, 94, 95, 96] []) z0 z → Fo Prod.snd (pf [1, 94, 95, 96] []) z0 (q_X13_product K k L x1 x2 x3 x4 t0 t1 z)
  | 0 => by
    intros
    exact fo_none
  | k + 1 => by
    intro L x1 x2 x3 x4 t0 t1 z hz 
    show Fo Prod.snd (pf [1, 94, 95, 96] []) z0 (qb_X13_product K (q_X13_product K k) L x1 x2 x3 x4 t0 t1 z)
    unfold qb_X13_product
    split
    · exact fb_X13_product_0 (fq_X13_product k) hz 
    · exact fb_X13_product_1 (fq_X13_product k) hz 
    · exact fb_X13_product_2 (fq_X13_product k) hz 
    · exact fb_X13_product_3 (fq_X13_product k) hz 
    · exact fo_none
theorem ff_X13_product {K : Nat} {x1 : Int32} {x2 : Int32} {z : ow_MS}  : Fo Prod.snd (pf [1, 94, 95, 96] []) z (qe_X13_product K x1 x2 z) := fq_X13_product K 0 _ _ _ _ _ _ z fr_rf 
theorem fb_X13_inverse_0 {K : Nat} {z0 z : ow_MS}  {go : Nat → Int32 → Int32 → Int32 → ow_MS → Option (Int32 × ow_MS)} {x1 : Int32} {x2 : Int32} {x3 : Int32}  (hgo : ∀ (L : Nat) (x1 : Int32) (x2 : Int32) (x3 : Int32) (z : ow_MS), fr (pf [1, 94, 95, 96] []) z0 z → Fo Prod.snd (pf [1, 94, 95, 96] []) z0 (go L x1 x2 x3 z)) (hz : fr (pf [1, 94, 95, 96] []) z0 z)  : Fo Prod.snd (pf [1, 94, 95, 96] []) z0 (qm_X13_inverse_0 K go x1 x2 x3 z) := by
  unfold qm_X13_inverse_0
  exact (fo_wrF (Or.inl (by decide)) hz (fun z1 h_z1 => (fo_cs1 (ff_X13_hasBraid) (pf_sub (by decide) pf_0) h_z1 (fun v3 z2 h_z2 => (fo_if (fo_cs1 (ff_X13_fails) (pf_sub (by decide) pf_0) h_z2 (fun v9 z8 h_z8 => (fo_some h_z8))) (fo_cs1 (ff_X13_freeBraid) (pf_sub (by decide) pf_0) h_z2 (fun v5 z4 h_z4 => (fo_if (fo_cs1 (ff_X13_fails) (pf_sub (by decide) pf_0) h_z4 (fun v7 z6 h_z6 => (fo_some h_z6))) (hgo 1 _ _ _ z4 h_z4)))))))))
theorem fb_X13_inverse_1 {K : Nat} {z0 z : ow_MS}  {go : Nat → Int32 → Int32 → Int32 → ow_MS → Option (Int32 × ow_MS)} {x1 : Int32} {x2 : Int32} {x3 : Int32}  (hgo : ∀ (L : Nat) (x1 : Int32) (x2 : Int32) (x3 : Int32) (z : ow_MS), fr (pf [1, 94, 95, 96] []) z0 z → Fo Prod.snd (pf [1, 94, 95, 96] []) z0 (go L x1 x2 x3 z)) (hz : fr (pf [1, 94, 95, 96] []) z0 z)  : Fo Prod.snd (pf [1, 94, 95, 96] []) z0 (qm_X13_inverse_1 K go x1 x2 x3 z) := by
  unfold qm_X13_inverse_1
  exact (fo_rdI (fun v10 => (fo_if (fo_rdI (fun v11 => (fo_wrI (Or.inl (by decide)) hz (fun z12 h_z12 => (fo_rdI (fun v13 => (fo_wrI (Or.inl (by decide)) h_z12 (fun z14 h_z14 => (fo_some h_z14))))))))) (fo_rdI (fun v15 => (fo_rdI (fun v16 => (fo_wrI (Or.inl (by decide)) hz (fun z17 h_z17 => (hgo 1 _ _ _ z17 h_z17))))))))))
theorem fq_X13_inverse {K : Nat} {z0 : ow_MS}   : ∀ (k L : Nat) (x1 : Int32) (x2 : Int32) (x3 : Int32) (z : ow_MS), fr (pf [1, 94, 95, 96] []) z0 z → Fo Prod.snd (pf [1, 94, 95, 96] []) z0 (q_X13_inverse K k L x1 x2 x3 z)
  | 0 => by
    intros
    exact fo_none
  | k + 1 => by
    intro L x1 x2 x3 z hz 
    show Fo Prod.snd (pf [1, 94, 95, 96] []) z0 (qb_X13_inverse K (q_X13_inverse K k) L x1 x2 x3 z)
    unfold qb_X13_inverse
    split
    · exact fb_X13_inverse_0 (fq_X13_inverse k) hz 
    · exact fb_X13_inverse_1 (fq_X13_inverse k) hz 
    · exact fo_none
theorem ff_X13_inverse {K : Nat} {x1 : Int32} {z : ow_MS}  : Fo Prod.snd (pf [1, 94, 95, 96] []) z (qe_X13_inverse K x1 z) := fq_X13_inverse K 0 _ _ _ z fr_rf 
theorem fb_X13_begins_0 {K : Nat} {z0 z : ow_MS}  {go : Nat → Int32 → Int32 → Int32 → Int32 → Int32 → Int32 → Int32 → ow_MS → Option (Int32 × ow_MS)} {x1 : Int32} {x2 : Int32} {x3 : Int32} {x4 : Int32} {x5 : Int32} {x6 : Int32} {x7 : Int32}  (hgo : ∀ (L : Nat) (x1 : Int32) (x2 : Int32) (x3 : Int32) (x4 : Int32) (x5 : Int32) (x6 : Int32) (x7 : Int32) (z : ow_MS), fr (pf [110, 111] []) z0 z → Fo Prod.snd (pf [110, 111] []) z0 (go L x1 x2 x3 x4 x5 x6 x7 z)) (hz : fr (pf [110, 111] []) z0 z)  : Fo Prod.snd (pf [110, 111] []) z0 (qm_X13_begins_0 K go x1 x2 x3 x4 x5 x6 x7 z) := by
  unfold qm_X13_begins_0
  exact (fo_rdI (fun v1 => (fo_wrF (Or.inl (by decide)) hz (fun z2 h_z2 => (hgo 1 _ _ _ _ _ _ _ z2 h_z2)))))
theorem fb_X13_begins_1 {K : Nat} {z0 z : ow_MS}  {go : Nat → Int32 → Int32 → Int32 → Int32 → Int32 → Int32 → Int32 → ow_MS → Option (Int32 × ow_MS)} {x1 : Int32} {x2 : Int32} {x3 : Int32} {x4 : Int32} {x5 : Int32} {x6 : Int32} {x7 : Int32}  (hgo : ∀ (L : Nat) (x1 : Int32) (x2 : Int32) (x3 : Int32) (x4 : Int32) (x5 : Int32) (x6 : Int32) (x7 : Int32) (z : ow_MS), fr (pf [110, 111] []) z0 z → Fo Prod.snd (pf [110, 111] []) z0 (go L x1 x2 x3 x4 x5 x6 x7 z)) (hz : fr (pf [110, 111] []) z0 z)  : Fo Prod.snd (pf [110, 111] []) z0 (qm_X13_begins_1 K go x1 x2 x3 x4 x5 x6 x7 z) := by
  unfold qm_X13_begins_1
  exact (fo_rdF (fun v3 => (fo_if (fo_if (fo_okZ (fo_some hz)) (fo_okZ (fo_some hz))) (fo_if (fo_rdF (fun v6 => (fo_rdI (fun v7 => (fo_wrI (Or.inl (by decide)) hz (fun z8 h_z8 => (fo_rdF (fun v9 => (fo_wrF (Or.inl (by decide)) h_z8 (fun z10 h_z10 => (hgo 3 _ _ _ _ _ _ _ z10 h_z10))))))))))) (fo_rdI (fun v4 => (fo_rdI (fun v5 => (hgo 2 _ _ _ _ _ _ _ z hz)))))))))
theorem fb_X13_begins_2 {K : Nat} {z0 z : ow_MS}  {go : Nat → Int32 → Int32 → Int32 → Int32 → Int32 → Int32 → Int32 → ow_MS → Option (Int32 × ow_MS)} {x1 : Int32} {x2 : Int32} {x3 : Int32} {x4 : Int32} {x5 : Int32} {x6 : Int32} {x7 : Int32}  (hgo : ∀ (L : Nat) (x1 : Int32) (x2 : Int32) (x3 : Int32) (x4 : Int32) (x5 : Int32) (x6 : Int32) (x7 : Int32) (z : ow_MS), fr (pf [110, 111] []) z0 z → Fo Prod.snd (pf [110, 111] []) z0 (go L x1 x2 x3 x4 x5 x6 x7 z)) (hz : fr (pf [110, 111] []) z0 z)  : Fo Prod.snd (pf [110, 111] []) z0 (qm_X13_begins_2 K go x1 x2 x3 x4 x5 x6 x7 z) := by
  unfold qm_X13_begins_2
  exact (fo_rdI (fun v11 => (fo_if (fo_rdI (fun v12 => (hgo 3 _ _ _ _ _ _ _ z hz))) (fo_rdF (fun v13 => (fo_rdI (fun v14 => (fo_wrI (Or.inl (by decide)) hz (fun z15 h_z15 => (fo_rdF (fun v16 => (fo_wrF (Or.inl (by decide)) h_z15 (fun z17 h_z17 => (hgo 2 _ _ _ _ _ _ _ z17 h_z17))))))))))))))
theorem fb_X13_begins_3 {K : Nat} {z0 z : ow_MS}  {go : Nat → Int32 → Int32 → Int32 → Int32 → Int32 → Int32 → Int32 → ow_MS → Option (Int32 × ow_MS)} {x1 : Int32} {x2 : Int32} {x3 : Int32} {x4 : Int32} {x5 : Int32} {x6 : Int32} {x7 : Int32}  (hgo : ∀ (L : Nat) (x1 : Int32) (x2 : Int32) (x3 : Int32) (x4 : Int32) (x5 : Int32) (x6 : Int32) (x7 : Int32) (z : ow_MS), fr (pf [110, 111] []) z0 z → Fo Prod.snd (pf [110, 111] []) z0 (go L x1 x2 x3 x4 x5 x6 x7 z)) (hz : fr (pf [110, 111] []) z0 z)  : Fo Prod.snd (pf [110, 111] []) z0 (qm_X13_begins_3 K go x1 x2 x3 x4 x5 x6 x7 z) := by
  unfold qm_X13_begins_3
  exact (hgo 1 _ _ _ _ _ _ _ z hz)
theorem fq_X13_begins {K : Nat} {z0 : ow_MS}   : ∀ (k L : Nat) (x1 : Int32) (x2 : Int32) (x3 : Int32) (x4 : Int32) (x5 : Int32) (x6 : Int32) (x7 : Int32) (z : ow_MS), fr (pf [110, 111] []) z0 z → Fo Prod.snd (pf [110, 111] []) z0 (q_X13_begins K k L x1 x2 x3 x4 x5 x6 x7 z)
  | 0 => by
    intros
    exact fo_none
  | k + 1 => by
    intro L x1 x2 x3 x4 x5 x6 x7 z hz 
    show Fo Prod.snd (pf [110, 111] []) z0 (qb_X13_begins K (q_X13_begins K k) L x1 x2 x3 x4 x5 x6 x7 z)
    unfold qb_X13_begins
    split
    · exact fb_X13_begins_0 (fq_X13_begins k) hz 
    · exact fb_X13_begins_1 (fq_X13_begins k) hz 
    · exact fb_X13_begins_2 (fq_X13_begins k) hz 
    · exact fb_X13_begins_3 (fq_X13_begins k) hz 
    · exact fo_none
theorem ff_X13_begins {K : Nat} {x1 : Int32} {x2 : Int32} {z : ow_MS}  : Fo Prod.snd (pf [110, 111] []) z (qe_X13_begins K x1 x2 z) := fq_X13_begins K 0 _ _ _ _ _ _ _ z fr_rf 
theorem fb_X13_normalise_0 {K : Nat} {z0 z : ow_MS}  {go : Nat → Int32 → Int32 → Int32 → Int32 → Int32 → Int32 → Int32 → Int32 → ow_MS → Option ow_MS} {x1 : Int32} {x2 : Int32} {x3 : Int32} {x4 : Int32} {x5 : Int32} {x6 : Int32} {x7 : Int32} {x8 : Int32}  (hgo : ∀ (L : Nat) (x1 : Int32) (x2 : Int32) (x3 : Int32) (x4 : Int32) (x5 : Int32) (x6 : Int32) (x7 : Int32) (x8 : Int32) (z : ow_MS), fr (pf [108, 109, 110, 111, 112, 113, 114] []) z0 z → Fo id (pf [108, 109, 110, 111, 112, 113, 114] []) z0 (go L x1 x2 x3 x4 x5 x6 x7 x8 z)) (hz : fr (pf [108, 109, 110, 111, 112, 113, 114] []) z0 z)  : Fo id (pf [108, 109, 110, 111, 112, 113, 114] []) z0 (qm_X13_normalise_0 K go x1 x2 x3 x4 x5 x6 x7 x8 z) := by
  unfold qm_X13_normalise_0
  exact (fo_wrF (Or.inl (by decide)) hz (fun z1 h_z1 => (fo_wrF (Or.inl (by decide)) h_z1 (fun z2 h_z2 => (fo_rdI (fun v3 => (hgo 1 _ _ _ _ _ _ _ _ z2 h_z2)))))))
theorem fb_X13_normalise_1 {K : Nat} {z0 z : ow_MS}  {go : Nat → Int32 → Int32 → Int32 → Int32 → Int32 → Int32 → Int32 → Int32 → ow_MS → Option ow_MS} {x1 : Int32} {x2 : Int32} {x3 : Int32} {x4 : Int32} {x5 : Int32} {x6 : Int32} {x7 : Int32} {x8 : Int32}  (hgo : ∀ (L : Nat) (x1 : Int32) (x2 : Int32) (x3 : Int32) (x4 : Int32) (x5 : Int32) (x6 : Int32) (x7 : Int32) (x8 : Int32) (z : ow_MS), fr (pf [108, 109, 110, 111, 112, 113, 114] []) z0 z → Fo id (pf [108, 109, 110, 111, 112, 113, 114] []) z0 (go L x1 x2 x3 x4 x5 x6 x7 x8 z)) (hz : fr (pf [108, 109, 110, 111, 112, 113, 114] []) z0 z)  : Fo id (pf [108, 109, 110, 111, 112, 113, 114] []) z0 (qm_X13_normalise_1 K go x1 x2 x3 x4 x5 x6 x7 x8 z) := by
  unfold qm_X13_normalise_1
  exact (fo_rdF (fun v4 => (fo_if (fo_some hz) (hgo 2 _ _ _ _ _ _ _ _ z hz))))
theorem fb_X13_normalise_2 {K : Nat} {z0 z : ow_MS}  {go : Nat → Int32 → Int32 → Int32 → Int32 → Int32 → Int32 → Int32 → Int32 → ow_MS → Option ow_MS} {x1 : Int32} {x2 : Int32} {x3 : Int32} {x4 : Int32} {x5 : Int32} {x6 : Int32} {x7 : Int32} {x8 : Int32}  (hgo : ∀ (L : Nat) (x1 : Int32) (x2 : Int32) (x3 : Int32) (x4 : Int32) (x5 : Int32) (x6 : Int32) (x7 : Int32) (x8 : Int32) (z : ow_MS), fr (pf [108, 109, 110, 111, 112, 113, 114] []) z0 z → Fo id (pf [108, 109, 110, 111, 112, 113, 114] []) z0 (go L x1 x2 x3 x4 x5 x6 x7 x8 z)) (hz : fr (pf [108, 109, 110, 111, 112, 113, 114] []) z0 z)  : Fo id (pf [108, 109, 110, 111, 112, 113, 114] []) z0 (qm_X13_normalise_2 K go x1 x2 x3 x4 x5 x6 x7 x8 z) := by
  unfold qm_X13_normalise_2
  exact (fo_if (fo_if (fo_rdF (fun v9 => (fo_wrF (Or.inl (by decide)) hz (fun z10 h_z10 => (hgo 7 _ _ _ _ _ _ _ _ z10 h_z10))))) (fo_rdF (fun v5 => (fo_wrI (Or.inl (by decide)) hz (fun z6 h_z6 => (fo_rdF (fun v7 => (fo_wrF (Or.inl (by decide)) h_z6 (fun z8 h_z8 => (hgo 7 _ _ _ _ _ _ _ _ z8 h_z8)))))))))) (hgo 3 _ _ _ _ _ _ _ _ z hz))
theorem fb_X13_normalise_3 {K : Nat} {z0 z : ow_MS}  {go : Nat → Int32 → Int32 → Int32 → Int32 → Int32 → Int32 → Int32 → Int32 → ow_MS → Option ow_MS} {x1 : Int32} {x2 : Int32} {x3 : Int32} {x4 : Int32} {x5 : Int32} {x6 : Int32} {x7 : Int32} {x8 : Int32}  (hgo : ∀ (L : Nat) (x1 : Int32) (x2 : Int32) (x3 : Int32) (x4 : Int32) (x5 : Int32) (x6 : Int32) (x7 : Int32) (x8 : Int32) (z : ow_MS), fr (pf [108, 109, 110, 111, 112, 113, 114] []) z0 z → Fo id (pf [108, 109, 110, 111, 112, 113, 114] []) z0 (go L x1 x2 x3 x4 x5 x6 x7 x8 z)) (hz : fr (pf [108, 109, 110, 111, 112, 113, 114] []) z0 z)  : Fo id (pf [108, 109, 110, 111, 112, 113, 114] []) z0 (qm_X13_normalise_3 K go x1 x2 x3 x4 x5 x6 x7 x8 z) := by
  unfold qm_X13_normalise_3
  exact (fo_if (hgo 6 _ _ _ _ _ _ _ _ z hz) (fo_if (fo_rdI (fun v11 => (fo_if (hgo 5 _ _ _ _ _ _ _ _ z hz) (fo_rdF (fun v12 => (fo_if (hgo 5 _ _ _ _ _ _ _ _ z hz) (fo_cs1 (ff_X13_begins) (pf_sub (by decide) pf_0) hz (fun v14 z13 h_z13 => (fo_if (hgo 5 _ _ _ _ _ _ _ _ z13 h_z13) (fo_rdF (fun v15 => (fo_wrF (Or.inl (by decide)) h_z13 (fun z16 h_z16 => (hgo 4 _ _ _ _ _ _ _ _ z16 h_z16)))))))))))))) (hgo 6 _ _ _ _ _ _ _ _ z hz)))
theorem fb_X13_normalise_4 {K : Nat} {z0 z : ow_MS}  {go : Nat → Int32 → Int32 → Int32 → Int32 → Int32 → Int32 → Int32 → Int32 → ow_MS → Option ow_MS} {x1 : Int32} {x2 : Int32} {x3 : Int32} {x4 : Int32} {x5 : Int32} {x6 : Int32} {x7 : Int32} {x8 : Int32}  (hgo : ∀ (L : Nat) (x1 : Int32) (x2 : Int32) (x3 : Int32) (x4 : Int32) (x5 : Int32) (x6 : Int32) (x7 : Int32) (x8 : Int32) (z : ow_MS), fr (pf [108, 109, 110, 111, 112, 113, 114] []) z0 z → Fo id (pf [108, 109, 110, 111, 112, 113, 114] []) z0 (go L x1 x2 x3 x4 x5 x6 x7 x8 z)) (hz : fr (pf [108, 109, 110, 111, 112, 113, 114] []) z0 z)  : Fo id (pf [108, 109, 110, 111, 112, 113, 114] []) z0 (qm_X13_normalise_4 K go x1 x2 x3 x4 x5 x6 x7 x8 z) := by
  unfold qm_X13_normalise_4
  exact (fo_rdF (fun v17 => (fo_if (hgo 5 _ _ _ _ _ _ _ _ z hz) (fo_rdI (fun v18 => (fo_wrI (Or.inl (by decide)) hz (fun z19 h_z19 => (hgo 4 _ _ _ _ _ _ _ _ z19 h_z19))))))))
theorem fb_X13_normalise_5 {K : Nat} {z0 z : ow_MS}  {go : Nat → Int32 → Int32 → Int32 → Int32 → Int32 → Int32 → Int32 → Int32 → ow_MS → Option ow_MS} {x1 : Int32} {x2 : Int32} {x3 : Int32} {x4 : Int32} {x5 : Int32} {x6 : Int32} {x7 : Int32} {x8 : Int32}  (hgo : ∀ (L : Nat) (x1 : Int32) (x2 : Int32) (x3 : Int32) (x4 : Int32) (x5 : Int32) (x6 : Int32) (x7 : Int32) (x8 : Int32) (z : ow_MS), fr (pf [108, 109, 110, 111, 112, 113, 114] []) z0 z → Fo id (pf [108, 109, 110, 111, 112, 113, 114] []) z0 (go L x1 x2 x3 x4 x5 x6 x7 x8 z)) (hz : fr (pf [108, 109, 110, 111, 112, 113, 114] []) z0 z)  : Fo id (pf [108, 109, 110, 111, 112, 113, 114] []) z0 (qm_X13_normalise_5 K go x1 x2 x3 x4 x5 x6 x7 x8 z) := by
  unfold qm_X13_normalise_5
  exact (hgo 3 _ _ _ _ _ _ _ _ z hz)
theorem fb_X13_normalise_6 {K : Nat} {z0 z : ow_MS}  {go : Nat → Int32 → Int32 → Int32 → Int32 → Int32 → Int32 → Int32 → Int32 → ow_MS → Option ow_MS} {x1 : Int32} {x2 : Int32} {x3 : Int32} {x4 : Int32} {x5 : Int32} {x6 : Int32} {x7 : Int32} {x8 : Int32}  (hgo : ∀ (L : Nat) (x1 : Int32) (x2 : Int32) (x3 : Int32) (x4 : Int32) (x5 : Int32) (x6 : Int32) (x7 : Int32) (x8 : Int32) (z : ow_MS), fr (pf [108, 109, 110, 111, 112, 113, 114] []) z0 z → Fo id (pf [108, 109, 110, 111, 112, 113, 114] []) z0 (go L x1 x2 x3 x4 x5 x6 x7 x8 z)) (hz : fr (pf [108, 109, 110, 111, 112, 113, 114] []) z0 z)  : Fo id (pf [108, 109, 110, 111, 112, 113, 114] []) z0 (qm_X13_normalise_6 K go x1 x2 x3 x4 x5 x6 x7 x8 z) := by
  unfold qm_X13_normalise_6
  exact (hgo 2 _ _ _ _ _ _ _ _ z hz)
theorem fb_X13_normalise_7 {K : Nat} {z0 z : ow_MS}  {go : Nat → Int32 → Int32 → Int32 → Int32 → Int32 → Int32 → Int32 → Int32 → ow_MS → Option ow_MS} {x1 : Int32} {x2 : Int32} {x3 : Int32} {x4 : Int32} {x5 : Int32} {x6 : Int32} {x7 : Int32} {x8 : Int32}  (hgo : ∀ (L : Nat) (x1 : Int32) (x2 : Int32) (x3 : Int32) (x4 : Int32) (x5 : Int32) (x6 : Int32) (x7 : Int32) (x8 : Int32) (z : ow_MS), fr (pf [108, 109, 110, 111, 112, 113, 114] []) z0 z → Fo id (pf [108, 109, 110, 111, 112, 113, 114] []) z0 (go L x1 x2 x3 x4 x5 x6 x7 x8 z)) (hz : fr (pf [108, 109, 110, 111, 112, 113, 114] []) z0 z)  : Fo id (pf [108, 109, 110, 111, 112, 113, 114] []) z0 (qm_X13_normalise_7 K go x1 x2 x3 x4 x5 x6 x7 x8 z) := by
  unfold qm_X13_normalise_7
  exact (hgo 1 _ _ _ _ _ _ _ _ z hz)
theorem fq_X13_normalise {K : Nat} {z0 : ow_MS}   : ∀ (k L : Nat) (x1 : Int32) (x2 : Int32) (x3 : Int32) (x4 : Int32) (x5 : Int32) (x6 : Int32) (x7 : Int32) (x8 : Int32) (z : ow_MS), fr (pf [108, 109, 110, 111, 112, 113, 114] []) z0 z → Fo id (pf [108, 109, 110, 111, 112, 113, 114] []) z0 (q_X13_normalise K k L x1 x2 x3 x4 x5 x6 x7 x8 z)
  | 0 => by
    intros
    exact fo_none
  | k + 1 => by
    intro L x1 x2 x3 x4 x5 x6 x7 x8 z hz 
    show Fo id (pf [108, 109, 110, 111, 112, 113, 114] []) z0 (qb_X13_normalise K (q_X13_normalise K k) L x1 x2 x3 x4 x5 x6 x7 x8 z)
    unfold qb_X13_normalise
    split
    · exact fb_X13_normalise_0 (fq_X13_normalise k) hz 
    · exact fb_X13_normalise_1 (fq_X13_normalise k) hz 
    · exact fb_X13_normalise_2 (fq_X13_normalise k) hz 
    · exact fb_X13_normalise_3 (fq_X13_normalise k) hz 
    · exact fb_X13_normalise_4 (fq_X13_normalise k) hz 
    · exact fb_X13_normalise_5 (fq_X13_normalise k) hz 
    · exact fb_X13_normalise_6 (fq_X13_normalise k) hz 
    · exact fb_X13_normalise_7 (fq_X13_normalise k) hz 
    · exact fo_none
theorem ff_X13_normalise {K : Nat} {x1 : Int32} {x2 : Int32} {z : ow_MS}  : Fo id (pf [108, 109, 110, 111, 112, 113, 114] []) z (qe_X13_normalise K x1 x2 z) := fq_X13_normalise K 0 _ _ _ _ _ _ _ _ z fr_rf 
theorem fb_X13_append_0 {K : Nat} {z0 z : ow_MS}  {go : Nat → Int32 → Int32 → Int32 → Int32 → ow_MS → Option ow_MS} {x1 : Int32} {x2 : Int32} {x3 : Int32} {x4 : Int32}  (hgo : ∀ (L : Nat) (x1 : Int32) (x2 : Int32) (x3 : Int32) (x4 : Int32) (z : ow_MS), fr (pf [108, 109] []) z0 z → Fo id (pf [108, 109] []) z0 (go L x1 x2 x3 x4 z)) (hz : fr (pf [108, 109] []) z0 z)  : Fo id (pf [108, 109] []) z0 (qm_X13_append_0 K go x1 x2 x3 x4 z) := by
  unfold qm_X13_append_0
  exact (hgo 1 _ _ _ _ z hz)
theorem fb_X13_append_1 {K : Nat} {z0 z : ow_MS}  {go : Nat → Int32 → Int32 → Int32 → Int32 → ow_MS → Option ow_MS} {x1 : Int32} {x2 : Int32} {x3 : Int32} {x4 : Int32}  (hgo : ∀ (L : Nat) (x1 : Int32) (x2 : Int32) (x3 : Int32) (x4 : Int32) (z : ow_MS), fr (pf [108, 109] []) z0 z → Fo id (pf [108, 109] []) z0 (go L x1 x2 x3 x4 z)) (hz : fr (pf [108, 109] []) z0 z)  : Fo id (pf [108, 109] []) z0 (qm_X13_append_1 K go x1 x2 x3 x4 z) := by
  unfold qm_X13_append_1
  exact (fo_rdI (fun v1 => (fo_if (fo_some hz) (fo_rdF (fun v2 => (fo_rdI (fun v3 => (fo_wrI (Or.inl (by decide)) hz (fun z4 h_z4 => (fo_rdF (fun v5 => (fo_wrF (Or.inl (by decide)) h_z4 (fun z6 h_z6 => (hgo 1 _ _ _ _ z6 h_z6))))))))))))))
theorem fq_X13_append {K : Nat} {z0 : ow_MS}   : ∀ (k L : Nat) (x1 : Int32) (x2 : Int32) (x3 : Int32) (x4 : Int32) (z : ow_MS), fr (pf [108, 109] []) z0 z → Fo id (pf [108, 109] []) z0 (q_X13_append K k L x1 x2 x3 x4 z)
  | 0 => by
    intros
    exact fo_none
  | k + 1 => by
    intro L x1 x2 x3 x4 z hz 
    show Fo id (pf [108, 109] []) z0 (qb_X13_append K (q_X13_append K k) L x1 x2 x3 x4 z)
    unfold qb_X13_append
    split
    · exact fb_X13_append_0 (fq_X13_append k) hz 
    · exact fb_X13_append_1 (fq_X13_append k) hz 
    · exact fo_none
theorem ff_X13_append {K : Nat} {x1 : Int32} {x2 : Int32} {z : ow_MS}  : Fo id (pf [108, 109] []) z (qe_X13_append K x1 x2 z) := fq_X13_append K 0 _ _ _ _ z fr_rf 
theorem fb_X13_formOf_0 {K : Nat} {z0 z : ow_MS}  {go : Nat → Int32 → Int32 → Int32 → Int32 → Int32 → Int32 → ow_MS → Option ow_MS} {x1 : Int32} {x2 : Int32} {x3 : Int32} {x4 : Int32} {x5 : Int32} {x6 : Int32}  (hgo : ∀ (L : Nat) (x1 : Int32) (x2 : Int32) (x3 : Int32) (x4 : Int32) (x5 : Int32) (x6 : Int32) (z : ow_MS), fr (pf [108, 109, 110, 111, 112, 113, 114] []) z0 z → Fo id (pf [108, 109, 110, 111, 112, 113, 114] []) z0 (go L x1 x2 x3 x4 x5 x6 z)) (hz : fr (pf [108, 109, 110, 111, 112, 113, 114] []) z0 z)  : Fo id (pf [108, 109, 110, 111, 112, 113, 114] []) z0 (qm_X13_formOf_0 K go x1 x2 x3 x4 x5 x6 z) := by
  unfold qm_X13_formOf_0
  exact (fo_rdI (fun v1 => (fo_wrF (Or.inl (by decide)) hz (fun z2 h_z2 => (hgo 1 _ _ _ _ _ _ z2 h_z2)))))
theorem fb_X13_formOf_1 {K : Nat} {z0 z : ow_MS}  {go : Nat → Int32 → Int32 → Int32 → Int32 → Int32 → Int32 → ow_MS → Option ow_MS} {x1 : Int32} {x2 : Int32} {x3 : Int32} {x4 : Int32} {x5 : Int32} {x6 : Int32}  (hgo : ∀ (L : Nat) (x1 : Int32) (x2 : Int32) (x3 : Int32) (x4 : Int32) (x5 : Int32) (x6 : Int32) (z : ow_MS), fr (pf [108, 109, 110, 111, 112, 113, 114] []) z0 z → Fo id (pf [108, 109, 110, 111, 112, 113, 114] []) z0 (go L x1 x2 x3 x4 x5 x6 z)) (hz : fr (pf [108, 109, 110, 111, 112, 113, 114] []) z0 z)  : Fo id (pf [108, 109, 110, 111, 112, 113, 114] []) z0 (qm_X13_formOf_1 K go x1 x2 x3 x4 x5 x6 z) := by
  unfold qm_X13_formOf_1
  exact (fo_rdI (fun v3 => (fo_if (fo_cs0 (ff_X13_normalise) (pf_sub (by decide) pf_0) hz (fun z4 h_z4 => (fo_some h_z4))) (fo_rdI (fun v5 => (fo_if (hgo 2 _ _ _ _ _ _ z hz) (fo_rdF (fun v6 => (fo_wrI (Or.inl (by decide)) hz (fun z7 h_z7 => (fo_rdF (fun v8 => (fo_wrF (Or.inl (by decide)) h_z7 (fun z9 h_z9 => (hgo 3 _ _ _ _ _ _ z9 h_z9)))))))))))))))
theorem fb_X13_formOf_2 {K : Nat} {z0 z : ow_MS}  {go : Nat → Int32 → Int32 → Int32 → Int32 → Int32 → Int32 → ow_MS → Option ow_MS} {x1 : Int32} {x2 : Int32} {x3 : Int32} {x4 : Int32} {x5 : Int32} {x6 : Int32}  (hgo : ∀ (L : Nat) (x1 : Int32) (x2 : Int32) (x3 : Int32) (x4 : Int32) (x5 : Int32) (x6 : Int32) (z : ow_MS), fr (pf [108, 109, 110, 111, 112, 113, 114] []) z0 z → Fo id (pf [108, 109, 110, 111, 112, 113, 114] []) z0 (go L x1 x2 x3 x4 x5 x6 z)) (hz : fr (pf [108, 109, 110, 111, 112, 113, 114] []) z0 z)  : Fo id (pf [108, 109, 110, 111, 112, 113, 114] []) z0 (qm_X13_formOf_2 K go x1 x2 x3 x4 x5 x6 z) := by
  unfold qm_X13_formOf_2
  exact (fo_rdF (fun v10 => (fo_if (fo_rdI (fun v11 => (fo_rdI (fun v12 => (fo_cs0 (ff_X13_append) (pf_sub (by decide) pf_0) hz (fun z13 h_z13 => (hgo 3 _ _ _ _ _ _ z13 h_z13))))))) (fo_rdI (fun v14 => (fo_wrI (Or.inl (by decide)) hz (fun z15 h_z15 => (hgo 2 _ _ _ _ _ _ z15 h_z15))))))))
theorem fb_X13_formOf_3 {K : Nat} {z0 z : ow_MS}  {go : Nat → Int32 → Int32 → Int32 → Int32 → Int32 → Int32 → ow_MS → Option ow_MS} {x1 : Int32} {x2 : Int32} {x3 : Int32} {x4 : Int32} {x5 : Int32} {x6 : Int32}  (hgo : ∀ (L : Nat) (x1 : Int32) (x2 : Int32) (x3 : Int32) (x4 : Int32) (x5 : Int32) (x6 : Int32) (z : ow_MS), fr (pf [108, 109, 110, 111, 112, 113, 114] []) z0 z → Fo id (pf [108, 109, 110, 111, 112, 113, 114] []) z0 (go L x1 x2 x3 x4 x5 x6 z)) (hz : fr (pf [108, 109, 110, 111, 112, 113, 114] []) z0 z)  : Fo id (pf [108, 109, 110, 111, 112, 113, 114] []) z0 (qm_X13_formOf_3 K go x1 x2 x3 x4 x5 x6 z) := by
  unfold qm_X13_formOf_3
  exact (hgo 1 _ _ _ _ _ _ z hz)
theorem fq_X13_formOf {K : Nat} {z0 : ow_MS}   : ∀ (k L : Nat) (x1 : Int32) (x2 : Int32) (x3 : Int32) (x4 : Int32) (x5 : Int32) (x6 : Int32) (z : ow_MS), fr (pf [108, 109, 110, 111, 112, 113, 114] []) z0 z → Fo id (pf [108, 109, 110, 111, 112, 113, 114] []) z0 (q_X13_formOf K k L x1 x2 x3 x4 x5 x6 z)
  | 0 => by
    intros
    exact fo_none
  | k + 1 => by
    intro L x1 x2 x3 x4 x5 x6 z hz 
    show Fo id (pf [108, 109, 110, 111, 112, 113, 114] []) z0 (qb_X13_formOf K (q_X13_formOf K k) L x1 x2 x3 x4 x5 x6 z)
    unfold qb_X13_formOf
    split
    · exact fb_X13_formOf_0 (fq_X13_formOf k) hz 
    · exact fb_X13_formOf_1 (fq_X13_formOf k) hz 
    · exact fb_X13_formOf_2 (fq_X13_formOf k) hz 
    · exact fb_X13_formOf_3 (fq_X13_formOf k) hz 
    · exact fo_none
theorem ff_X13_formOf {K : Nat} {x1 : Int32} {z : ow_MS}  : Fo id (pf [108, 109, 110, 111, 112, 113, 114] []) z (qe_X13_formOf K x1 z) := fq_X13_formOf K 0 _ _ _ _ _ _ z fr_rf 
theorem fb_X13_normal_0 {K : Nat} {z0 z : ow_MS}  {go : Nat → Int32 → Int32 → ow_MS → Option (Int32 × ow_MS)} {x1 : Int32} {x2 : Int32}  (hgo : ∀ (L : Nat) (x1 : Int32) (x2 : Int32) (z : ow_MS), fr (pf [1, 108, 109, 110, 111, 112, 113, 114] []) z0 z → Fo Prod.snd (pf [1, 108, 109, 110, 111, 112, 113, 114] []) z0 (go L x1 x2 z)) (hz : fr (pf [1, 108, 109, 110, 111, 112, 113, 114] []) z0 z)  : Fo Prod.snd (pf [1, 108, 109, 110, 111, 112, 113, 114] []) z0 (qm_X13_normal_0 K go x1 x2 z) := by
  unfold qm_X13_normal_0
  exact (fo_wrF (Or.inl (by decide)) hz (fun z1 h_z1 => (fo_cs1 (ff_X13_hasBraid) (pf_sub (by decide) pf_0) h_z1 (fun v3 z2 h_z2 => (fo_if (fo_cs1 (ff_X13_fails) (pf_sub (by decide) pf_0) h_z2 (fun v10 z9 h_z9 => (fo_some h_z9))) (fo_if (hgo 1 _ _ z2 h_z2) (fo_if (fo_if (fo_rdI (fun v8 => (fo_some h_z2))) (fo_if (fo_rdI (fun v7 => (fo_some h_z2))) (fo_cs0 (ff_X13_formOf) (pf_sub (by decide) pf_0) h_z2 (fun z4 h_z4 => (fo_if (fo_rdF (fun v6 => (fo_some h_z4))) (fo_rdF (fun v5 => (fo_some h_z4)))))))) (hgo 1 _ _ z2 h_z2))))))))
theorem fb_X13_normal_1 {K : Nat} {z0 z : ow_MS}  {go : Nat → Int32 → Int32 → ow_MS → Option (Int32 × ow_MS)} {x1 : Int32} {x2 : Int32}  (hgo : ∀ (L : Nat) (x1 : Int32) (x2 : Int32) (z : ow_MS), fr (pf [1, 108, 109, 110, 111, 112, 113, 114] []) z0 z → Fo Prod.snd (pf [1, 108, 109, 110, 111, 112, 113, 114] []) z0 (go L x1 x2 z)) (hz : fr (pf [1, 108, 109, 110, 111, 112, 113, 114] []) z0 z)  : Fo Prod.snd (pf [1, 108, 109, 110, 111, 112, 113, 114] []) z0 (qm_X13_normal_1 K go x1 x2 z) := by
  unfold qm_X13_normal_1
  exact (fo_cs1 (ff_X13_fails) (pf_sub (by decide) pf_0) hz (fun v12 z11 h_z11 => (fo_some h_z11)))
theorem fq_X13_normal {K : Nat} {z0 : ow_MS}   : ∀ (k L : Nat) (x1 : Int32) (x2 : Int32) (z : ow_MS), fr (pf [1, 108, 109, 110, 111, 112, 113, 114] []) z0 z → Fo Prod.snd (pf [1, 108, 109, 110, 111, 112, 113, 114] []) z0 (q_X13_normal K k L x1 x2 z)
  | 0 => by
    intros
    exact fo_none
  | k + 1 => by
    intro L x1 x2 z hz 
    show Fo Prod.snd (pf [1, 108, 109, 110, 111, 112, 113, 114] []) z0 (qb_X13_normal K (q_X13_normal K k) L x1 x2 z)
    unfold qb_X13_normal
    split
    · exact fb_X13_normal_0 (fq_X13_normal k) hz 
    · exact fb_X13_normal_1 (fq_X13_normal k) hz 
    · exact fo_none
theorem ff_X13_normal {K : Nat} {x1 : Int32} {x2 : Int32} {z : ow_MS}  : Fo Prod.snd (pf [1, 108, 109, 110, 111, 112, 113, 114] []) z (qe_X13_normal K x1 x2 z) := fq_X13_normal K 0 _ _ z fr_rf 
theorem fb_X13_factor_0 {K : Nat} {z0 z : ow_MS}  {go : Nat → Int32 → Int32 → Int32 → ow_MS → Option (Int32 × ow_MS)} {x1 : Int32} {x2 : Int32} {x3 : Int32}  (hgo : ∀ (L : Nat) (x1 : Int32) (x2 : Int32) (x3 : Int32) (z : ow_MS), fr (pf [1, 108, 109, 110, 111, 112, 113, 114] []) z0 z → Fo Prod.snd (pf [1, 108, 109, 110, 111, 112, 113, 114] []) z0 (go L x1 x2 x3 z)) (hz : fr (pf [1, 108, 109, 110, 111, 112, 113, 114] []) z0 z)  : Fo Prod.snd (pf [1, 108, 109, 110, 111, 112, 113, 114] []) z0 (qm_X13_factor_0 K go x1 x2 x3 z) := by
  unfold qm_X13_factor_0
  exact (fo_wrF (Or.inl (by decide)) hz (fun z1 h_z1 => (fo_cs1 (ff_X13_hasBraid) (pf_sub (by decide) pf_0) h_z1 (fun v3 z2 h_z2 => (fo_if (fo_cs1 (ff_X13_fails) (pf_sub (by decide) pf_0) h_z2 (fun v11 z10 h_z10 => (fo_some h_z10))) (fo_cs0 (ff_X13_formOf) (pf_sub (by decide) pf_0) h_z2 (fun z4 h_z4 => (fo_if (hgo 1 _ _ _ z4 h_z4) (fo_rdF (fun v5 => (fo_if (hgo 1 _ _ _ z4 h_z4) (fo_if (hgo 1 _ _ _ z4 h_z4) (fo_rdI (fun v6 => (fo_if (fo_rdI (fun v7 => (fo_rdI (fun v8 => (fo_rdI (fun v9 => (fo_some h_z4))))))) (hgo 1 _ _ _ z4 h_z4))))))))))))))))
theorem fb_X13_factor_1 {K : Nat} {z0 z : ow_MS}  {go : Nat → Int32 → Int32 → Int32 → ow_MS → Option (Int32 × ow_MS)} {x1 : Int32} {x2 : Int32} {x3 : Int32}  (hgo : ∀ (L : Nat) (x1 : Int32) (x2 : Int32) (x3 : Int32) (z : ow_MS), fr (pf [1, 108, 109, 110, 111, 112, 113, 114] []) z0 z → Fo Prod.snd (pf [1, 108, 109, 110, 111, 112, 113, 114] []) z0 (go L x1 x2 x3 z)) (hz : fr (pf [1, 108, 109, 110, 111, 112, 113, 114] []) z0 z)  : Fo Prod.snd (pf [1, 108, 109, 110, 111, 112, 113, 114] []) z0 (qm_X13_factor_1 K go x1 x2 x3 z) := by
  unfold qm_X13_factor_1
  exact (fo_some hz)
theorem fq_X13_factor {K : Nat} {z0 : ow_MS}   : ∀ (k L : Nat) (x1 : Int32) (x2 : Int32) (x3 : Int32) (z : ow_MS), fr (pf [1, 108, 109, 110, 111, 112, 113, 114] []) z0 z → Fo Prod.snd (pf [1, 108, 109, 110, 111, 112, 113, 114] []) z0 (q_X13_factor K k L x1 x2 x3 z)
  | 0 => by
    intros
    exact fo_none
  | k + 1 => by
    intro L x1 x2 x3 z hz 
    show Fo Prod.snd (pf [1, 108, 109, 110, 111, 112, 113, 114] []) z0 (qb_X13_factor K (q_X13_factor K k) L x1 x2 x3 z)
    unfold qb_X13_factor
    split
    · exact fb_X13_factor_0 (fq_X13_factor k) hz 
    · exact fb_X13_factor_1 (fq_X13_factor k) hz 
    · exact fo_none
theorem ff_X13_factor {K : Nat} {x1 : Int32} {x2 : Int32} {x3 : Int32} {z : ow_MS}  : Fo Prod.snd (pf [1, 108, 109, 110, 111, 112, 113, 114] []) z (qe_X13_factor K x1 x2 x3 z) := fq_X13_factor K 0 _ _ _ z fr_rf 
theorem fb_X13_formTo_0 {K : Nat} {z0 z : ow_MS} {pr1 : Nat} {go : Nat → Int32 → Int32 → Nat → ow_MS → Option ow_MS} {x2 : Int32} {x3 : Int32} {r1 : Nat}  (hgo : ∀ (L : Nat) (x2 : Int32) (x3 : Int32) (r1 : Nat) (z : ow_MS), fr (pf [] [pr1]) z0 z → (L = 0 ∨ L = 1 → r1 = pr1) → Fo id (pf [] [pr1]) z0 (go L x2 x3 r1 z)) (hz : fr (pf [] [pr1]) z0 z) (e_r1 : r1 = pr1) : Fo id (pf [] [pr1]) z0 (qm_X13_formTo_0 K go x2 x3 r1 z) := by
  unfold qm_X13_formTo_0
  exact (fo_rdF (fun v1 => (fo_wrI (Or.inr (Or.inl (by rw [e_r1]; simp))) hz (fun z2 h_z2 => (fo_rdF (fun v3 => (fo_wrI (Or.inr (Or.inl (by rw [e_r1]; simp))) h_z2 (fun z4 h_z4 => (hgo 1 _ _ _ z4 h_z4 (fun _ => e_r1))))))))))
theorem fb_X13_formTo_1 {K : Nat} {z0 z : ow_MS} {pr1 : Nat} {go : Nat → Int32 → Int32 → Nat → ow_MS → Option ow_MS} {x2 : Int32} {x3 : Int32} {r1 : Nat}  (hgo : ∀ (L : Nat) (x2 : Int32) (x3 : Int32) (r1 : Nat) (z : ow_MS), fr (pf [] [pr1]) z0 z → (L = 0 ∨ L = 1 → r1 = pr1) → Fo id (pf [] [pr1]) z0 (go L x2 x3 r1 z)) (hz : fr (pf [] [pr1]) z0 z) (e_r1 : r1 = pr1) : Fo id (pf [] [pr1]) z0 (qm_X13_formTo_1 K go x2 x3 r1 z) := by
  unfold qm_X13_formTo_1
  exact (fo_rdF (fun v5 => (fo_if (fo_some hz) (fo_rdI (fun v6 => (fo_wrI (Or.inr (Or.inl (by rw [e_r1]; simp))) hz (fun z7 h_z7 => (hgo 1 _ _ _ z7 h_z7 (fun _ => e_r1)))))))))
theorem fq_X13_formTo {K : Nat} {z0 : ow_MS} {pr1 : Nat}  : ∀ (k L : Nat) (x2 : Int32) (x3 : Int32) (r1 : Nat) (z : ow_MS), fr (pf [] [pr1]) z0 z → (L = 0 ∨ L = 1 → r1 = pr1) → Fo id (pf [] [pr1]) z0 (q_X13_formTo K k L x2 x3 r1 z)
  | 0 => by
    intros
    exact fo_none
  | k + 1 => by
    intro L x2 x3 r1 z hz h9_r1
    show Fo id (pf [] [pr1]) z0 (qb_X13_formTo K (q_X13_formTo K k) L x2 x3 r1 z)
    unfold qb_X13_formTo
    split
    · exact fb_X13_formTo_0 (fq_X13_formTo k) hz (h9_r1 (by decide))
    · exact fb_X13_formTo_1 (fq_X13_formTo k) hz (h9_r1 (by decide))
    · exact fo_none
theorem ff_X13_formTo {K : Nat} {r1 : Nat} {x2 : Int32} {z : ow_MS}  : Fo id (pf [] [r1]) z (qe_X13_formTo K r1 x2 z) := fq_X13_formTo (pr1 := r1) K 0 _ _ _ z fr_rf (fun _ => rfl)
theorem fb_X13_isForm_0 {K : Nat} {z0 z : ow_MS}  {go : Nat → Int32 → Int32 → Int32 → Int32 → Nat → Nat → Int32 → ow_MS → Option (Int32 × ow_MS)} {x1 : Int32} {x3 : Int32} {x4 : Int32} {x5 : Int32} {r0 : Nat} {r2 : Nat} {t0 : Int32}  (hgo : ∀ (L : Nat) (x1 : Int32) (x3 : Int32) (x4 : Int32) (x5 : Int32) (r0 : Nat) (r2 : Nat) (t0 : Int32) (z : ow_MS), fr (pf [] []) z0 z → Fo Prod.snd (pf [] []) z0 (go L x1 x3 x4 x5 r0 r2 t0 z)) (hz : fr (pf [] []) z0 z)  : Fo Prod.snd (pf [] []) z0 (qm_X13_isForm_0 K go x1 x3 x4 x5 r0 r2 t0 z) := by
  unfold qm_X13_isForm_0
  exact (fo_rdI (fun v1 => (fo_rdI (fun v2 => (fo_if (fo_rdI (fun v3 => (fo_rdI (fun v4 => (fo_if (hgo 2 _ _ _ _ _ _ _ z hz) (hgo 1 _ _ _ _ _ _ _ z hz)))))) (hgo 1 _ _ _ _ _ _ _ z hz))))))
theorem fb_X13_isForm_1 {K : Nat} {z0 z : ow_MS}  {go : Nat → Int32 → Int32 → Int32 → Int32 → Nat → Nat → Int32 → ow_MS → Option (Int32 × ow_MS)} {x1 : Int32} {x3 : Int32} {x4 : Int32} {x5 : Int32} {r0 : Nat} {r2 : Nat} {t0 : Int32}  (hgo : ∀ (L : Nat) (x1 : Int32) (x3 : Int32) (x4 : Int32) (x5 : Int32) (r0 : Nat) (r2 : Nat) (t0 : Int32) (z : ow_MS), fr (pf [] []) z0 z → Fo Prod.snd (pf [] []) z0 (go L x1 x3 x4 x5 r0 r2 t0 z)) (hz : fr (pf [] []) z0 z)  : Fo Prod.snd (pf [] []) z0 (qm_X13_isForm_1 K go x1 x3 x4 x5 r0 r2 t0 z) := by
  unfold qm_X13_isForm_1
  exact (hgo 2 _ _ _ _ _ _ _ z hz)
theorem fb_X13_isForm_2 {K : Nat} {z0 z : ow_MS}  {go : Nat → Int32 → Int32 → Int32 → Int32 → Nat → Nat → Int32 → ow_MS → Option (Int32 × ow_MS)} {x1 : Int32} {x3 : Int32} {x4 : Int32} {x5 : Int32} {r0 : Nat} {r2 : Nat} {t0 : Int32}  (hgo : ∀ (L : Nat) (x1 : Int32) (x3 : Int32) (x4 : Int32) (x5 : Int32) (r0 : Nat) (r2 : Nat) (t0 : Int32) (z : ow_MS), fr (pf [] []) z0 z → Fo Prod.snd (pf [] []) z0 (go L x1 x3 x4 x5 r0 r2 t0 z)) (hz : fr (pf [] []) z0 z)  : Fo Prod.snd (pf [] []) z0 (qm_X13_isForm_2 K go x1 x3 x4 x5 r0 r2 t0 z) := by
  unfold qm_X13_isForm_2
  exact (hgo 3 _ _ _ _ _ _ _ z hz)
theorem fb_X13_isForm_3 {K : Nat} {z0 z : ow_MS}  {go : Nat → Int32 → Int32 → Int32 → Int32 → Nat → Nat → Int32 → ow_MS → Option (Int32 × ow_MS)} {x1 : Int32} {x3 : Int32} {x4 : Int32} {x5 : Int32} {r0 : Nat} {r2 : Nat} {t0 : Int32}  (hgo : ∀ (L : Nat) (x1 : Int32) (x3 : Int32) (x4 : Int32) (x5 : Int32) (r0 : Nat) (r2 : Nat) (t0 : Int32) (z : ow_MS), fr (pf [] []) z0 z → Fo Prod.snd (pf [] []) z0 (go L x1 x3 x4 x5 r0 r2 t0 z)) (hz : fr (pf [] []) z0 z)  : Fo Prod.snd (pf [] []) z0 (qm_X13_isForm_3 K go x1 x3 x4 x5 r0 r2 t0 z) := by
  unfold qm_X13_isForm_3
  exact (fo_if (fo_okZ (fo_some hz)) (fo_rdI (fun v5 => (fo_if (fo_okZ (fo_some hz)) (fo_rdI (fun v6 => (fo_rdI (fun v7 => (fo_if (hgo 4 _ _ _ _ _ _ _ z hz) (hgo 4 _ _ _ _ _ _ _ z hz))))))))))
theorem fb_X13_isForm_4 {K : Nat} {z0 z : ow_MS}  {go : Nat → Int32 → Int32 → Int32 → Int32 → Nat → Nat → Int32 → ow_MS → Option (Int32 × ow_MS)} {x1 : Int32} {x3 : Int32} {x4 : Int32} {x5 : Int32} {r0 : Nat} {r2 : Nat} {t0 : Int32}  (hgo : ∀ (L : Nat) (x1 : Int32) (x3 : Int32) (x4 : Int32) (x5 : Int32) (r0 : Nat) (r2 : Nat) (t0 : Int32) (z : ow_MS), fr (pf [] []) z0 z → Fo Prod.snd (pf [] []) z0 (go L x1 x3 x4 x5 r0 r2 t0 z)) (hz : fr (pf [] []) z0 z)  : Fo Prod.snd (pf [] []) z0 (qm_X13_isForm_4 K go x1 x3 x4 x5 r0 r2 t0 z) := by
  unfold qm_X13_isForm_4
  exact (hgo 3 _ _ _ _ _ _ _ z hz)
theorem fq_X13_isForm {K : Nat} {z0 : ow_MS}   : ∀ (k L : Nat) (x1 : Int32) (x3 : Int32) (x4 : Int32) (x5 : Int32) (r0 : Nat) (r2 : Nat) (t0 : Int32) (z : ow_MS), fr (pf [] []) z0 z → Fo Prod.snd (pf [] []) z0 (q_X13_isForm K k L x1 x3 x4 x5 r0 r2 t0 z)
  | 0 => by
    intros
    exact fo_none
  | k + 1 => by
    intro L x1 x3 x4 x5 r0 r2 t0 z hz 
    show Fo Prod.snd (pf [] []) z0 (qb_X13_isForm K (q_X13_isForm K k) L x1 x3 x4 x5 r0 r2 t0 z)
    unfold qb_X13_isForm
    split
    · exact fb_X13_isForm_0 (fq_X13_isForm k) hz 
    · exact fb_X13_isForm_1 (fq_X13_isForm k) hz 
    · exact fb_X13_isForm_2 (fq_X13_isForm k) hz 
    · exact fb_X13_isForm_3 (fq_X13_isForm k) hz 
    · exact fb_X13_isForm_4 (fq_X13_isForm k) hz 
    · exact fo_none
theorem ff_X13_isForm {K : Nat} {r0 : Nat} {x1 : Int32} {r2 : Nat} {x3 : Int32} {z : ow_MS}  : Fo Prod.snd (pf [] []) z (qe_X13_isForm K r0 x1 r2 x3 z) := fq_X13_isForm K 0 _ _ _ _ _ _ _ z fr_rf 
theorem ff_X13_equal {K : Nat} {x1 : Int32} {x2 : Int32} {z : ow_MS}  : Fo Prod.snd (pf [1, 108, 109, 110, 111, 112, 113, 114, 117, 118] []) z (qe_X13_equal K x1 x2 z) := by
  unfold qe_X13_equal qm_X13_equal_0
  exact (fo_wrF (Or.inl (by decide)) fr_rf (fun z1 h_z1 => (fo_cs1 (ff_X13_hasBraid) (pf_sub (by decide) pf_0) h_z1 (fun v3 z2 h_z2 => (fo_if (fo_okZ (fo_some h_z2)) (fo_cs1 (ff_X13_hasBraid) (pf_sub (by decide) pf_0) h_z2 (fun v5 z4 h_z4 => (fo_if (fo_okZ (fo_some h_z4)) (fo_rdI (fun v6 => (fo_rdI (fun v7 => (fo_if (fo_cs0 (ff_X13_formOf) (pf_sub (by decide) pf_0) h_z4 (fun z8 h_z8 => (fo_cs0 (ff_X13_formTo) (pf_sub (by decide) (pf_1 (Or.inl (by decide)))) h_z8 (fun z9 h_z9 => (fo_cs0 (ff_X13_formOf) (pf_sub (by decide) pf_0) h_z9 (fun z10 h_z10 => (fo_cs0 (ff_X13_formTo) (pf_sub (by decide) (pf_1 (Or.inl (by decide)))) h_z10 (fun z11 h_z11 => (fo_cs1 (ff_X13_isForm) (pf_sub (by decide) pf_0) h_z11 (fun v13 z12 h_z12 => (fo_okZ (fo_some h_z12)))))))))))) (fo_okZ (fo_some h_z4)))))))))))))))
theorem ff_X13_turned {K : Nat} {x1 : Int32} {x2 : Int32} {x3 : Int32} {z : ow_MS}  : Fo Prod.snd (pf [] []) z (qe_X13_turned K x1 x2 x3 z) := by
  unfold qe_X13_turned qm_X13_turned_0
  exact (fo_if (fo_some fr_rf) (fo_rdI (fun v1 => (fo_some fr_rf))))
theorem fb_X13_cycle_0 {K : Nat} {z0 z : ow_MS}  {go : Nat → Int32 → Int32 → Int32 → Int32 → Int32 → Int32 → Int32 → ow_MS → Option ow_MS} {x1 : Int32} {x2 : Int32} {x3 : Int32} {x4 : Int32} {x5 : Int32} {t0 : Int32} {t1 : Int32}  (hgo : ∀ (L : Nat) (x1 : Int32) (x2 : Int32) (x3 : Int32) (x4 : Int32) (x5 : Int32) (t0 : Int32) (t1 : Int32) (z : ow_MS), fr (pf [108, 109, 110, 111, 112, 113, 114] []) z0 z → Fo id (pf [108, 109, 110, 111, 112, 113, 114] []) z0 (go L x1 x2 x3 x4 x5 t0 t1 z)) (hz : fr (pf [108, 109, 110, 111, 112, 113, 114] []) z0 z)  : Fo id (pf [108, 109, 110, 111, 112, 113, 114] []) z0 (qm_X13_cycle_0 K go x1 x2 x3 x4 x5 t0 t1 z) := by
  unfold qm_X13_cycle_0
  exact (fo_rdF (fun v1 => (fo_rdF (fun v2 => (fo_wrF (Or.inl (by decide)) hz (fun z3 h_z3 => (fo_if (hgo 1 _ _ _ _ _ _ _ z3 h_z3) (fo_rdI (fun v4 => (fo_cs1 (ff_X13_turned) (pf_sub (by decide) pf_0) h_z3 (fun v6 z5 h_z5 => (fo_cs0 (ff_X13_append) (pf_sub (by decide) pf_0) h_z5 (fun z7 h_z7 => (hgo 1 _ _ _ _ _ _ _ z7 h_z7))))))))))))))
theorem fb_X13_cycle_1 {K : Nat} {z0 z : ow_MS}  {go : Nat → Int32 → Int32 → Int32 → Int32 → Int32 → Int32 → Int32 → ow_MS → Option ow_MS} {x1 : Int32} {x2 : Int32} {x3 : Int32} {x4 : Int32} {x5 : Int32} {t0 : Int32} {t1 : Int32}  (hgo : ∀ (L : Nat) (x1 : Int32) (x2 : Int32) (x3 : Int32) (x4 : Int32) (x5 : Int32) (t0 : Int32) (t1 : Int32) (z : ow_MS), fr (pf [108, 109, 110, 111, 112, 113, 114] []) z0 z → Fo id (pf [108, 109, 110, 111, 112, 113, 114] []) z0 (go L x1 x2 x3 x4 x5 t0 t1 z)) (hz : fr (pf [108, 109, 110, 111, 112, 113, 114] []) z0 z)  : Fo id (pf [108, 109, 110, 111, 112, 113, 114] []) z0 (qm_X13_cycle_1 K go x1 x2 x3 x4 x5 t0 t1 z) := by
  unfold qm_X13_cycle_1
  exact (fo_if (hgo 2 _ _ _ _ _ _ _ z hz) (hgo 2 _ _ _ _ _ _ _ z hz))
theorem fb_X13_cycle_2 {K : Nat} {z0 z : ow_MS}  {go : Nat → Int32 → Int32 → Int32 → Int32 → Int32 → Int32 → Int32 → ow_MS → Option ow_MS} {x1 : Int32} {x2 : Int32} {x3 : Int32} {x4 : Int32} {x5 : Int32} {t0 : Int32} {t1 : Int32}  (hgo : ∀ (L : Nat) (x1 : Int32) (x2 : Int32) (x3 : Int32) (x4 : Int32) (x5 : Int32) (t0 : Int32) (t1 : Int32) (z : ow_MS), fr (pf [108, 109, 110, 111, 112, 113, 114] []) z0 z → Fo id (pf [108, 109, 110, 111, 112, 113, 114] []) z0 (go L x1 x2 x3 x4 x5 t0 t1 z)) (hz : fr (pf [108, 109, 110, 111, 112, 113, 114] []) z0 z)  : Fo id (pf [108, 109, 110, 111, 112, 113, 114] []) z0 (qm_X13_cycle_2 K go x1 x2 x3 x4 x5 t0 t1 z) := by
  unfold qm_X13_cycle_2
  exact (hgo 3 _ _ _ _ _ _ _ z hz)
theorem fb_X13_cycle_3 {K : Nat} {z0 z : ow_MS}  {go : Nat → Int32 → Int32 → Int32 → Int32 → Int32 → Int32 → Int32 → ow_MS → Option ow_MS} {x1 : Int32} {x2 : Int32} {x3 : Int32} {x4 : Int32} {x5 : Int32} {t0 : Int32} {t1 : Int32}  (hgo : ∀ (L : Nat) (x1 : Int32) (x2 : Int32) (x3 : Int32) (x4 : Int32) (x5 : Int32) (t0 : Int32) (t1 : Int32) (z : ow_MS), fr (pf [108, 109, 110, 111, 112, 113, 114] []) z0 z → Fo id (pf [108, 109, 110, 111, 112, 113, 114] []) z0 (go L x1 x2 x3 x4 x5 t0 t1 z)) (hz : fr (pf [108, 109, 110, 111, 112, 113, 114] []) z0 z)  : Fo id (pf [108, 109, 110, 111, 112, 113, 114] []) z0 (qm_X13_cycle_3 K go x1 x2 x3 x4 x5 t0 t1 z) := by
  unfold qm_X13_cycle_3
  exact (fo_if (hgo 4 _ _ _ _ _ _ _ z hz) (hgo 4 _ _ _ _ _ _ _ z hz))
theorem fb_X13_cycle_4 {K : Nat} {z0 z : ow_MS}  {go : Nat → Int32 → Int32 → Int32 → Int32 → Int32 → Int32 → Int32 → ow_MS → Option ow_MS} {x1 : Int32} {x2 : Int32} {x3 : Int32} {x4 : Int32} {x5 : Int32} {t0 : Int32} {t1 : Int32}  (hgo : ∀ (L : Nat) (x1 : Int32) (x2 : Int32) (x3 : Int32) (x4 : Int32) (x5 : Int32) (t0 : Int32) (t1 : Int32) (z : ow_MS), fr (pf [108, 109, 110, 111, 112, 113, 114] []) z0 z → Fo id (pf [108, 109, 110, 111, 112, 113, 114] []) z0 (go L x1 x2 x3 x4 x5 t0 t1 z)) (hz : fr (pf [108, 109, 110, 111, 112, 113, 114] []) z0 z)  : Fo id (pf [108, 109, 110, 111, 112, 113, 114] []) z0 (qm_X13_cycle_4 K go x1 x2 x3 x4 x5 t0 t1 z) := by
  unfold qm_X13_cycle_4
  exact (fo_if (fo_if (fo_rdI (fun v8 => (fo_cs1 (ff_X13_turned) (pf_sub (by decide) pf_0) hz (fun v10 z9 h_z9 => (fo_cs0 (ff_X13_append) (pf_sub (by decide) pf_0) h_z9 (fun z11 h_z11 => (hgo 5 _ _ _ _ _ _ _ z11 h_z11))))))) (hgo 5 _ _ _ _ _ _ _ z hz)) (fo_rdI (fun v12 => (fo_cs0 (ff_X13_append) (pf_sub (by decide) pf_0) hz (fun z13 h_z13 => (hgo 3 _ _ _ _ _ _ _ z13 h_z13))))))
theorem fb_X13_cycle_5 {K : Nat} {z0 z : ow_MS}  {go : Nat → Int32 → Int32 → Int32 → Int32 → Int32 → Int32 → Int32 → ow_MS → Option ow_MS} {x1 : Int32} {x2 : Int32} {x3 : Int32} {x4 : Int32} {x5 : Int32} {t0 : Int32} {t1 : Int32}  (hgo : ∀ (L : Nat) (x1 : Int32) (x2 : Int32) (x3 : Int32) (x4 : Int32) (x5 : Int32) (t0 : Int32) (t1 : Int32) (z : ow_MS), fr (pf [108, 109, 110, 111, 112, 113, 114] []) z0 z → Fo id (pf [108, 109, 110, 111, 112, 113, 114] []) z0 (go L x1 x2 x3 x4 x5 t0 t1 z)) (hz : fr (pf [108, 109, 110, 111, 112, 113, 114] []) z0 z)  : Fo id (pf [108, 109, 110, 111, 112, 113, 114] []) z0 (qm_X13_cycle_5 K go x1 x2 x3 x4 x5 t0 t1 z) := by
  unfold qm_X13_cycle_5
  exact (fo_cs0 (ff_X13_normalise) (pf_sub (by decide) pf_0) hz (fun z14 h_z14 => (fo_some h_z14)))
theorem fq_X13_cycle {K : Nat} {z0 : ow_MS}   : ∀ (k L : Nat) (x1 : Int32) (x2 : Int32) (x3 : Int32) (x4 : Int32) (x5 : Int32) (t0 : Int32) (t1 : Int32) (z : ow_MS), fr (pf [108, 109, 110, 111, 112, 113, 114] []) z0 z → Fo id (pf [108, 109, 110, 111, 112, 113, 114] []) z0 (q_X13_cycle K k L x1 x2 x3 x4 x5 t0 t1 z)
  | 0 => by
    intros
    exact fo_none
  | k + 1 => by
    intro L x1 x2 x3 x4 x5 t0 t1 z hz 
    show Fo id (pf [108, 109, 110, 111, 112, 113, 114] []) z0 (qb_X13_cycle K (q_X13_cycle K k) L x1 x2 x3 x4 x5 t0 t1 z)
    unfold qb_X13_cycle
    split
    · exact fb_X13_cycle_0 (fq_X13_cycle k) hz 
    · exact fb_X13_cycle_1 (fq_X13_cycle k) hz 
    · exact fb_X13_cycle_2 (fq_X13_cycle k) hz 
    · exact fb_X13_cycle_3 (fq_X13_cycle k) hz 
    · exact fb_X13_cycle_4 (fq_X13_cycle k) hz 
    · exact fb_X13_cycle_5 (fq_X13_cycle k) hz 
    · exact fo_none
theorem ff_X13_cycle {K : Nat} {x1 : Int32} {x2 : Int32} {z : ow_MS}  : Fo id (pf [108, 109, 110, 111, 112, 113, 114] []) z (qe_X13_cycle K x1 x2 z) := fq_X13_cycle K 0 _ _ _ _ _ _ _ z fr_rf 
theorem fb_X13_summitOf_0 {K : Nat} {z0 z : ow_MS}  {go : Nat → Int32 → Int32 → Int32 → Int32 → Int32 → Int32 → ow_MS → Option ow_MS} {x1 : Int32} {x2 : Int32} {x3 : Int32} {x4 : Int32} {x5 : Int32} {t0 : Int32}  (hgo : ∀ (L : Nat) (x1 : Int32) (x2 : Int32) (x3 : Int32) (x4 : Int32) (x5 : Int32) (t0 : Int32) (z : ow_MS), fr (pf [108, 109, 110, 111, 112, 113, 114] []) z0 z → Fo id (pf [108, 109, 110, 111, 112, 113, 114] []) z0 (go L x1 x2 x3 x4 x5 t0 z)) (hz : fr (pf [108, 109, 110, 111, 112, 113, 114] []) z0 z)  : Fo id (pf [108, 109, 110, 111, 112, 113, 114] []) z0 (qm_X13_summitOf_0 K go x1 x2 x3 x4 x5 t0 z) := by
  unfold qm_X13_summitOf_0
  exact (fo_cs0 (ff_X13_formOf) (pf_sub (by decide) pf_0) hz (fun z1 h_z1 => (fo_rdI (fun v2 => (fo_rdI (fun v3 => (fo_rdI (fun v4 => (hgo 1 _ _ _ _ _ _ z1 h_z1)))))))))
theorem fb_X13_summitOf_1 {K : Nat} {z0 z : ow_MS}  {go : Nat → Int32 → Int32 → Int32 → Int32 → Int32 → Int32 → ow_MS → Option ow_MS} {x1 : Int32} {x2 : Int32} {x3 : Int32} {x4 : Int32} {x5 : Int32} {t0 : Int32}  (hgo : ∀ (L : Nat) (x1 : Int32) (x2 : Int32) (x3 : Int32) (x4 : Int32) (x5 : Int32) (t0 : Int32) (z : ow_MS), fr (pf [108, 109, 110, 111, 112, 113, 114] []) z0 z → Fo id (pf [108, 109, 110, 111, 112, 113, 114] []) z0 (go L x1 x2 x3 x4 x5 t0 z)) (hz : fr (pf [108, 109, 110, 111, 112, 113, 114] []) z0 z)  : Fo id (pf [108, 109, 110, 111, 112, 113, 114] []) z0 (qm_X13_summitOf_1 K go x1 x2 x3 x4 x5 t0 z) := by
  unfold qm_X13_summitOf_1
  exact (fo_if (hgo 3 _ _ _ _ _ _ z hz) (fo_rdF (fun v5 => (fo_if (hgo 3 _ _ _ _ _ _ z hz) (fo_rdF (fun v6 => (fo_cs0 (ff_X13_cycle) (pf_sub (by decide) pf_0) hz (fun z7 h_z7 => (fo_rdF (fun v8 => (fo_if (hgo 2 _ _ _ _ _ _ z7 h_z7) (hgo 2 _ _ _ _ _ _ z7 h_z7))))))))))))
theorem fb_X13_summitOf_2 {K : Nat} {z0 z : ow_MS}  {go : Nat → Int32 → Int32 → Int32 → Int32 → Int32 → Int32 → ow_MS → Option ow_MS} {x1 : Int32} {x2 : Int32} {x3 : Int32} {x4 : Int32} {x5 : Int32} {t0 : Int32}  (hgo : ∀ (L : Nat) (x1 : Int32) (x2 : Int32) (x3 : Int32) (x4 : Int32) (x5 : Int32) (t0 : Int32) (z : ow_MS), fr (pf [108, 109, 110, 111, 112, 113, 114] []) z0 z → Fo id (pf [108, 109, 110, 111, 112, 113, 114] []) z0 (go L x1 x2 x3 x4 x5 t0 z)) (hz : fr (pf [108, 109, 110, 111, 112, 113, 114] []) z0 z)  : Fo id (pf [108, 109, 110, 111, 112, 113, 114] []) z0 (qm_X13_summitOf_2 K go x1 x2 x3 x4 x5 t0 z) := by
  unfold qm_X13_summitOf_2
  exact (hgo 1 _ _ _ _ _ _ z hz)
theorem fb_X13_summitOf_3 {K : Nat} {z0 z : ow_MS}  {go : Nat → Int32 → Int32 → Int32 → Int32 → Int32 → Int32 → ow_MS → Option ow_MS} {x1 : Int32} {x2 : Int32} {x3 : Int32} {x4 : Int32} {x5 : Int32} {t0 : Int32}  (hgo : ∀ (L : Nat) (x1 : Int32) (x2 : Int32) (x3 : Int32) (x4 : Int32) (x5 : Int32) (t0 : Int32) (z : ow_MS), fr (pf [108, 109, 110, 111, 112, 113, 114] []) z0 z → Fo id (pf [108, 109, 110, 111, 112, 113, 114] []) z0 (go L x1 x2 x3 x4 x5 t0 z)) (hz : fr (pf [108, 109, 110, 111, 112, 113, 114] []) z0 z)  : Fo id (pf [108, 109, 110, 111, 112, 113, 114] []) z0 (qm_X13_summitOf_3 K go x1 x2 x3 x4 x5 t0 z) := by
  unfold qm_X13_summitOf_3
  exact (hgo 4 _ _ _ _ _ _ z hz)
theorem fb_X13_summitOf_4 {K : Nat} {z0 z : ow_MS}  {go : Nat → Int32 → Int32 → Int32 → Int32 → Int32 → Int32 → ow_MS → Option ow_MS} {x1 : Int32} {x2 : Int32} {x3 : Int32} {x4 : Int32} {x5 : Int32} {t0 : Int32}  (hgo : ∀ (L : Nat) (x1 : Int32) (x2 : Int32) (x3 : Int32) (x4 : Int32) (x5 : Int32) (t0 : Int32) (z : ow_MS), fr (pf [108, 109, 110, 111, 112, 113, 114] []) z0 z → Fo id (pf [108, 109, 110, 111, 112, 113, 114] []) z0 (go L x1 x2 x3 x4 x5 t0 z)) (hz : fr (pf [108, 109, 110, 111, 112, 113, 114] []) z0 z)  : Fo id (pf [108, 109, 110, 111, 112, 113, 114] []) z0 (qm_X13_summitOf_4 K go x1 x2 x3 x4 x5 t0 z) := by
  unfold qm_X13_summitOf_4
  exact (fo_if (fo_some hz) (fo_rdF (fun v9 => (fo_if (fo_some hz) (fo_rdF (fun v10 => (fo_rdF (fun v11 => (fo_cs0 (ff_X13_cycle) (pf_sub (by decide) pf_0) hz (fun z12 h_z12 => (fo_rdF (fun v13 => (fo_rdF (fun v14 => (fo_if (hgo 5 _ _ _ _ _ _ z12 h_z12) (hgo 5 _ _ _ _ _ _ z12 h_z12))))))))))))))))
theorem fb_X13_summitOf_5 {K : Nat} {z0 z : ow_MS}  {go : Nat → Int32 → Int32 → Int32 → Int32 → Int32 → Int32 → ow_MS → Option ow_MS} {x1 : Int32} {x2 : Int32} {x3 : Int32} {x4 : Int32} {x5 : Int32} {t0 : Int32}  (hgo : ∀ (L : Nat) (x1 : Int32) (x2 : Int32) (x3 : Int32) (x4 : Int32) (x5 : Int32) (t0 : Int32) (z : ow_MS), fr (pf [108, 109, 110, 111, 112, 113, 114] []) z0 z → Fo id (pf [108, 109, 110, 111, 112, 113, 114] []) z0 (go L x1 x2 x3 x4 x5 t0 z)) (hz : fr (pf [108, 109, 110, 111, 112, 113, 114] []) z0 z)  : Fo id (pf [108, 109, 110, 111, 112, 113, 114] []) z0 (qm_X13_summitOf_5 K go x1 x2 x3 x4 x5 t0 z) := by
  unfold qm_X13_summitOf_5
  exact (hgo 4 _ _ _ _ _ _ z hz)
theorem fq_X13_summitOf {K : Nat} {z0 : ow_MS}   : ∀ (k L : Nat) (x1 : Int32) (x2 : Int32) (x3 : Int32) (x4 : Int32) (x5 : Int32) (t0 : Int32) (z : ow_MS), fr (pf [108, 109, 110, 111, 112, 113, 114] []) z0 z → Fo id (pf [108, 109, 110, 111, 112, 113, 114] []) z0 (q_X13_summitOf K k L x1 x2 x3 x4 x5 t0 z)
  | 0 => by
    intros
    exact fo_none
  | k + 1 => by
    intro L x1 x2 x3 x4 x5 t0 z hz 
    show Fo id (pf [108, 109, 110, 111, 112, 113, 114] []) z0 (qb_X13_summitOf K (q_X13_summitOf K k) L x1 x2 x3 x4 x5 t0 z)
    unfold qb_X13_summitOf
    split
    · exact fb_X13_summitOf_0 (fq_X13_summitOf k) hz 
    · exact fb_X13_summitOf_1 (fq_X13_summitOf k) hz 
    · exact fb_X13_summitOf_2 (fq_X13_summitOf k) hz 
    · exact fb_X13_summitOf_3 (fq_X13_summitOf k) hz 
    · exact fb_X13_summitOf_4 (fq_X13_summitOf k) hz 
    · exact fb_X13_summitOf_5 (fq_X13_summitOf k) hz 
    · exact fo_none
theorem ff_X13_summitOf {K : Nat} {x1 : Int32} {z : ow_MS}  : Fo id (pf [108, 109, 110, 111, 112, 113, 114] []) z (qe_X13_summitOf K x1 z) := fq_X13_summitOf K 0 _ _ _ _ _ _ z fr_rf 
theorem fb_X13_isThere_0 {K : Nat} {z0 z : ow_MS}  {go : Nat → Int32 → Int32 → Nat → ow_MS → Option (Int32 × ow_MS)} {x2 : Int32} {x3 : Int32} {r1 : Nat}  (hgo : ∀ (L : Nat) (x2 : Int32) (x3 : Int32) (r1 : Nat) (z : ow_MS), fr (pf [] []) z0 z → Fo Prod.snd (pf [] []) z0 (go L x2 x3 r1 z)) (hz : fr (pf [] []) z0 z)  : Fo Prod.snd (pf [] []) z0 (qm_X13_isThere_0 K go x2 x3 r1 z) := by
  unfold qm_X13_isThere_0
  exact (hgo 1 _ _ _ z hz)
theorem fb_X13_isThere_1 {K : Nat} {z0 z : ow_MS}  {go : Nat → Int32 → Int32 → Nat → ow_MS → Option (Int32 × ow_MS)} {x2 : Int32} {x3 : Int32} {r1 : Nat}  (hgo : ∀ (L : Nat) (x2 : Int32) (x3 : Int32) (r1 : Nat) (z : ow_MS), fr (pf [] []) z0 z → Fo Prod.snd (pf [] []) z0 (go L x2 x3 r1 z)) (hz : fr (pf [] []) z0 z)  : Fo Prod.snd (pf [] []) z0 (qm_X13_isThere_1 K go x2 x3 r1 z) := by
  unfold qm_X13_isThere_1
  exact (fo_rdF (fun v1 => (fo_if (fo_okZ (fo_some hz)) (fo_if (fo_cs1 (ff_X13_isForm) (pf_sub (by decide) pf_0) hz (fun v3 z2 h_z2 => (hgo 1 _ _ _ z2 h_z2))) (fo_okZ (fo_some hz))))))
theorem fq_X13_isThere {K : Nat} {z0 : ow_MS}   : ∀ (k L : Nat) (x2 : Int32) (x3 : Int32) (r1 : Nat) (z : ow_MS), fr (pf [] []) z0 z → Fo Prod.snd (pf [] []) z0 (q_X13_isThere K k L x2 x3 r1 z)
  | 0 => by
    intros
    exact fo_none
  | k + 1 => by
    intro L x2 x3 r1 z hz 
    show Fo Prod.snd (pf [] []) z0 (qb_X13_isThere K (q_X13_isThere K k) L x2 x3 r1 z)
    unfold qb_X13_isThere
    split
    · exact fb_X13_isThere_0 (fq_X13_isThere k) hz 
    · exact fb_X13_isThere_1 (fq_X13_isThere k) hz 
    · exact fo_none
theorem ff_X13_isThere {K : Nat} {r1 : Nat} {z : ow_MS}  : Fo Prod.snd (pf [] []) z (qe_X13_isThere K r1 z) := fq_X13_isThere K 0 _ _ _ z fr_rf 
theorem fb_X13_allForms_0 {K : Nat} {z0 z : ow_MS}  {go : Nat → Int32 → Int32 → Int32 → Int32 → Int32 → ow_MS → Option (Int32 × ow_MS)} {x1 : Int32} {x2 : Int32} {x3 : Int32} {x4 : Int32} {x5 : Int32}  (hgo : ∀ (L : Nat) (x1 : Int32) (x2 : Int32) (x3 : Int32) (x4 : Int32) (x5 : Int32) (z : ow_MS), fr (pf [108, 109, 110, 111, 112, 113, 114, 115, 116, 117] []) z0 z → Fo Prod.snd (pf [108, 109, 110, 111, 112, 113, 114, 115, 116, 117] []) z0 (go L x1 x2 x3 x4 x5 z)) (hz : fr (pf [108, 109, 110, 111, 112, 113, 114, 115, 116, 117] []) z0 z)  : Fo Prod.snd (pf [108, 109, 110, 111, 112, 113, 114, 115, 116, 117] []) z0 (qm_X13_allForms_0 K go x1 x2 x3 x4 x5 z) := by
  unfold qm_X13_allForms_0
  exact (fo_cs0 (ff_X13_formTo) (pf_sub (by decide) (pf_1 (Or.inl (by decide)))) hz (fun z1 h_z1 => (fo_wrF (Or.inl (by decide)) h_z1 (fun z2 h_z2 => (hgo 1 _ _ _ _ _ z2 h_z2)))))
theorem fb_X13_allForms_1 {K : Nat} {z0 z : ow_MS}  {go : Nat → Int32 → Int32 → Int32 → Int32 → Int32 → ow_MS → Option (Int32 × ow_MS)} {x1 : Int32} {x2 : Int32} {x3 : Int32} {x4 : Int32} {x5 : Int32}  (hgo : ∀ (L : Nat) (x1 : Int32) (x2 : Int32) (x3 : Int32) (x4 : Int32) (x5 : Int32) (z : ow_MS), fr (pf [108, 109, 110, 111, 112, 113, 114, 115, 116, 117] []) z0 z → Fo Prod.snd (pf [108, 109, 110, 111, 112, 113, 114, 115, 116, 117] []) z0 (go L x1 x2 x3 x4 x5 z)) (hz : fr (pf [108, 109, 110, 111, 112, 113, 114, 115, 116, 117] []) z0 z)  : Fo Prod.snd (pf [108, 109, 110, 111, 112, 113, 114, 115, 116, 117] []) z0 (qm_X13_allForms_1 K go x1 x2 x3 x4 x5 z) := by
  unfold qm_X13_allForms_1
  exact (fo_rdF (fun v3 => (fo_if (fo_okZ (fo_some hz)) (hgo 2 _ _ _ _ _ z hz))))
theorem fb_X13_allForms_2 {K : Nat} {z0 z : ow_MS}  {go : Nat → Int32 → Int32 → Int32 → Int32 → Int32 → ow_MS → Option (Int32 × ow_MS)} {x1 : Int32} {x2 : Int32} {x3 : Int32} {x4 : Int32} {x5 : Int32}  (hgo : ∀ (L : Nat) (x1 : Int32) (x2 : Int32) (x3 : Int32) (x4 : Int32) (x5 : Int32) (z : ow_MS), fr (pf [108, 109, 110, 111, 112, 113, 114, 115, 116, 117] []) z0 z → Fo Prod.snd (pf [108, 109, 110, 111, 112, 113, 114, 115, 116, 117] []) z0 (go L x1 x2 x3 x4 x5 z)) (hz : fr (pf [108, 109, 110, 111, 112, 113, 114, 115, 116, 117] []) z0 z)  : Fo Prod.snd (pf [108, 109, 110, 111, 112, 113, 114, 115, 116, 117] []) z0 (qm_X13_allForms_2 K go x1 x2 x3 x4 x5 z) := by
  unfold qm_X13_allForms_2
  exact (fo_rdI (fun v4 => (fo_if (hgo 1 _ _ _ _ _ z hz) (fo_rdI (fun v5 => (fo_wrF (Or.inl (by decide)) hz (fun z6 h_z6 => (fo_rdI (fun v7 => (fo_cs1 (ff_X13_turned) (pf_sub (by decide) pf_0) h_z6 (fun v9 z8 h_z8 => (fo_cs0 (ff_X13_append) (pf_sub (by decide) pf_0) h_z8 (fun z10 h_z10 => (hgo 3 _ _ _ _ _ z10 h_z10))))))))))))))
theorem fb_X13_allForms_3 {K : Nat} {z0 z : ow_MS}  {go : Nat → Int32 → Int32 → Int32 → Int32 → Int32 → ow_MS → Option (Int32 × ow_MS)} {x1 : Int32} {x2 : Int32} {x3 : Int32} {x4 : Int32} {x5 : Int32}  (hgo : ∀ (L : Nat) (x1 : Int32) (x2 : Int32) (x3 : Int32) (x4 : Int32) (x5 : Int32) (z : ow_MS), fr (pf [108, 109, 110, 111, 112, 113, 114, 115, 116, 117] []) z0 z → Fo Prod.snd (pf [108, 109, 110, 111, 112, 113, 114, 115, 116, 117] []) z0 (go L x1 x2 x3 x4 x5 z)) (hz : fr (pf [108, 109, 110, 111, 112, 113, 114, 115, 116, 117] []) z0 z)  : Fo Prod.snd (pf [108, 109, 110, 111, 112, 113, 114, 115, 116, 117] []) z0 (qm_X13_allForms_3 K go x1 x2 x3 x4 x5 z) := by
  unfold qm_X13_allForms_3
  exact (fo_rdI (fun v11 => (fo_if (fo_cs0 (ff_X13_append) (pf_sub (by decide) pf_0) hz (fun z12 h_z12 => (fo_cs0 (ff_X13_normalise) (pf_sub (by decide) pf_0) h_z12 (fun z13 h_z13 => (fo_rdF (fun v14 => (fo_rdI (fun v15 => (fo_if (fo_rdF (fun v16 => (fo_rdI (fun v17 => (fo_if (fo_cs0 (ff_X13_formTo) (pf_sub (by decide) (pf_1 (Or.inl (by decide)))) h_z13 (fun z18 h_z18 => (fo_cs1 (ff_X13_isThere) (pf_sub (by decide) pf_0) h_z18 (fun v20 z19 h_z19 => (fo_if (fo_rdF (fun v21 => (fo_if (fo_okZ (fo_some h_z19)) (fo_rdF (fun v22 => (fo_cs0 (ff_X13_formTo) (pf_sub (by decide) (pf_1 (Or.inl (by decide)))) h_z19 (fun z23 h_z23 => (fo_rdF (fun v24 => (fo_wrF (Or.inl (by decide)) h_z23 (fun z25 h_z25 => (hgo 4 _ _ _ _ _ z25 h_z25)))))))))))) (hgo 4 _ _ _ _ _ z19 h_z19)))))) (hgo 4 _ _ _ _ _ z13 h_z13)))))) (hgo 4 _ _ _ _ _ z13 h_z13)))))))))) (fo_rdI (fun v26 => (fo_cs0 (ff_X13_append) (pf_sub (by decide) pf_0) hz (fun z27 h_z27 => (hgo 3 _ _ _ _ _ z27 h_z27))))))))
theorem fb_X13_allForms_4 {K : Nat} {z0 z : ow_MS}  {go : Nat → Int32 → Int32 → Int32 → Int32 → Int32 → ow_MS → Option (Int32 × ow_MS)} {x1 : Int32} {x2 : Int32} {x3 : Int32} {x4 : Int32} {x5 : Int32}  (hgo : ∀ (L : Nat) (x1 : Int32) (x2 : Int32) (x3 : Int32) (x4 : Int32) (x5 : Int32) (z : ow_MS), fr (pf [108, 109, 110, 111, 112, 113, 114, 115, 116, 117] []) z0 z → Fo Prod.snd (pf [108, 109, 110, 111, 112, 113, 114, 115, 116, 117] []) z0 (go L x1 x2 x3 x4 x5 z)) (hz : fr (pf [108, 109, 110, 111, 112, 113, 114, 115, 116, 117] []) z0 z)  : Fo Prod.snd (pf [108, 109, 110, 111, 112, 113, 114, 115, 116, 117] []) z0 (qm_X13_allForms_4 K go x1 x2 x3 x4 x5 z) := by
  unfold qm_X13_allForms_4
  exact (hgo 2 _ _ _ _ _ z hz)
theorem fq_X13_allForms {K : Nat} {z0 : ow_MS}   : ∀ (k L : Nat) (x1 : Int32) (x2 : Int32) (x3 : Int32) (x4 : Int32) (x5 : Int32) (z : ow_MS), fr (pf [108, 109, 110, 111, 112, 113, 114, 115, 116, 117] []) z0 z → Fo Prod.snd (pf [108, 109, 110, 111, 112, 113, 114, 115, 116, 117] []) z0 (q_X13_allForms K k L x1 x2 x3 x4 x5 z)
  | 0 => by
    intros
    exact fo_none
  | k + 1 => by
    intro L x1 x2 x3 x4 x5 z hz 
    show Fo Prod.snd (pf [108, 109, 110, 111, 112, 113, 114, 115, 116, 117] []) z0 (qb_X13_allForms K (q_X13_allForms K k) L x1 x2 x3 x4 x5 z)
    unfold qb_X13_allForms
    split
    · exact fb_X13_allForms_0 (fq_X13_allForms k) hz 
    · exact fb_X13_allForms_1 (fq_X13_allForms k) hz 
    · exact fb_X13_allForms_2 (fq_X13_allForms k) hz 
    · exact fb_X13_allForms_3 (fq_X13_allForms k) hz 
    · exact fb_X13_allForms_4 (fq_X13_allForms k) hz 
    · exact fo_none
theorem ff_X13_allForms {K : Nat} {x1 : Int32} {z : ow_MS}  : Fo Prod.snd (pf [108, 109, 110, 111, 112, 113, 114, 115, 116, 117] []) z (qe_X13_allForms K x1 z) := fq_X13_allForms K 0 _ _ _ _ _ z fr_rf 
theorem ff_X13_summit {K : Nat} {x1 : Int32} {z : ow_MS}  : Fo Prod.snd (pf [1, 108, 109, 110, 111, 112, 113, 114, 115, 116, 117] []) z (qe_X13_summit K x1 z) := by
  unfold qe_X13_summit qm_X13_summit_0
  exact (fo_wrF (Or.inl (by decide)) fr_rf (fun z1 h_z1 => (fo_cs1 (ff_X13_hasBraid) (pf_sub (by decide) pf_0) h_z1 (fun v3 z2 h_z2 => (fo_if (fo_cs1 (ff_X13_fails) (pf_sub (by decide) pf_0) h_z2 (fun v13 z12 h_z12 => (fo_some h_z12))) (fo_rdI (fun v4 => (fo_if (fo_cs1 (ff_X13_fails) (pf_sub (by decide) pf_0) h_z2 (fun v11 z10 h_z10 => (fo_some h_z10))) (fo_cs0 (ff_X13_summitOf) (pf_sub (by decide) pf_0) h_z2 (fun z5 h_z5 => (fo_rdI (fun v6 => (fo_cs1 (ff_X13_allForms) (pf_sub (by decide) pf_0) h_z5 (fun v8 z7 h_z7 => (fo_if (fo_some h_z7) (fo_rdF (fun v9 => (fo_some h_z7))))))))))))))))))
theorem fb_X13_conjugate_0 {K : Nat} {z0 z : ow_MS}  {go : Nat → Int32 → Int32 → ow_MS → Option (Int32 × ow_MS)} {x1 : Int32} {x2 : Int32}  (hgo : ∀ (L : Nat) (x1 : Int32) (x2 : Int32) (z : ow_MS), fr (pf [1, 108, 109, 110, 111, 112, 113, 114, 115, 116, 117, 118] []) z0 z → Fo Prod.snd (pf [1, 108, 109, 110, 111, 112, 113, 114, 115, 116, 117, 118] []) z0 (go L x1 x2 z)) (hz : fr (pf [1, 108, 109, 110, 111, 112, 113, 114, 115, 116, 117, 118] []) z0 z)  : Fo Prod.snd (pf [1, 108, 109, 110, 111, 112, 113, 114, 115, 116, 117, 118] []) z0 (qm_X13_conjugate_0 K go x1 x2 z) := by
  unfold qm_X13_conjugate_0
  exact (fo_wrF (Or.inl (by decide)) hz (fun z1 h_z1 => (fo_cs1 (ff_X13_hasBraid) (pf_sub (by decide) pf_0) h_z1 (fun v3 z2 h_z2 => (fo_if (hgo 1 _ _ z2 h_z2) (fo_cs1 (ff_X13_hasBraid) (pf_sub (by decide) pf_0) h_z2 (fun v5 z4 h_z4 => (fo_if (hgo 1 _ _ z4 h_z4) (fo_rdI (fun v6 => (fo_rdI (fun v7 => (fo_if (fo_rdI (fun v8 => (fo_if (fo_cs1 (ff_X13_fails) (pf_sub (by decide) pf_0) h_z4 (fun v20 z19 h_z19 => (fo_some h_z19))) (fo_cs0 (ff_X13_summitOf) (pf_sub (by decide) pf_0) h_z4 (fun z9 h_z9 => (fo_cs0 (ff_X13_formTo) (pf_sub (by decide) (pf_1 (Or.inl (by decide)))) h_z9 (fun z10 h_z10 => (fo_cs0 (ff_X13_summitOf) (pf_sub (by decide) pf_0) h_z10 (fun z11 h_z11 => (fo_cs1 (ff_X13_allForms) (pf_sub (by decide) pf_0) h_z11 (fun v13 z12 h_z12 => (fo_if (fo_some h_z12) (fo_cs1 (ff_X13_isThere) (pf_sub (by decide) pf_0) h_z12 (fun v15 z14 h_z14 => (fo_if (fo_cs0 (ff_X13_summitOf) (pf_sub (by decide) pf_0) h_z14 (fun z16 h_z16 => (fo_cs1 (ff_X13_allForms) (pf_sub (by decide) pf_0) h_z16 (fun v18 z17 h_z17 => (fo_if (fo_some h_z17) (fo_some h_z17)))))) (fo_some h_z14)))))))))))))))) (fo_cs1 (ff_X13_fails) (pf_sub (by decide) pf_0) h_z4 (fun v22 z21 h_z21 => (fo_some h_z21))))))))))))))))
theorem fb_X13_conjugate_1 {K : Nat} {z0 z : ow_MS}  {go : Nat → Int32 → Int32 → ow_MS → Option (Int32 × ow_MS)} {x1 : Int32} {x2 : Int32}  (hgo : ∀ (L : Nat) (x1 : Int32) (x2 : Int32) (z : ow_MS), fr (pf [1, 108, 109, 110, 111, 112, 113, 114, 115, 116, 117, 118] []) z0 z → Fo Prod.snd (pf [1, 108, 109, 110, 111, 112, 113, 114, 115, 116, 117, 118] []) z0 (go L x1 x2 z)) (hz : fr (pf [1, 108, 109, 110, 111, 112, 113, 114, 115, 116, 117, 118] []) z0 z)  : Fo Prod.snd (pf [1, 108, 109, 110, 111, 112, 113, 114, 115, 116, 117, 118] []) z0 (qm_X13_conjugate_1 K go x1 x2 z) := by
  unfold qm_X13_conjugate_1
  exact (fo_cs1 (ff_X13_fails) (pf_sub (by decide) pf_0) hz (fun v24 z23 h_z23 => (fo_some h_z23)))
theorem fq_X13_conjugate {K : Nat} {z0 : ow_MS}   : ∀ (k L : Nat) (x1 : Int32) (x2 : Int32) (z : ow_MS), fr (pf [1, 108, 109, 110, 111, 112, 113, 114, 115, 116, 117, 118] []) z0 z → Fo Prod.snd (pf [1, 108, 109, 110, 111, 112, 113, 114, 115, 116, 117, 118] []) z0 (q_X13_conjugate K k L x1 x2 z)
  | 0 => by
    intros
    exact fo_none
  | k + 1 => by
    intro L x1 x2 z hz 
    show Fo Prod.snd (pf [1, 108, 109, 110, 111, 112, 113, 114, 115, 116, 117, 118] []) z0 (qb_X13_conjugate K (q_X13_conjugate K k) L x1 x2 z)
    unfold qb_X13_conjugate
    split
    · exact fb_X13_conjugate_0 (fq_X13_conjugate k) hz 
    · exact fb_X13_conjugate_1 (fq_X13_conjugate k) hz 
    · exact fo_none
theorem ff_X13_conjugate {K : Nat} {x1 : Int32} {x2 : Int32} {z : ow_MS}  : Fo Prod.snd (pf [1, 108, 109, 110, 111, 112, 113, 114, 115, 116, 117, 118] []) z (qe_X13_conjugate K x1 x2 z) := fq_X13_conjugate K 0 _ _ z fr_rf 
theorem fb_X13_two_0 {K : Nat} {z0 z : ow_MS}  {go : Nat → Int32 → Int32 → Int32 → Int32 → ow_MS → Option (Int32 × ow_MS)} {x1 : Int32} {x2 : Int32} {x3 : Int32} {x4 : Int32}  (hgo : ∀ (L : Nat) (x1 : Int32) (x2 : Int32) (x3 : Int32) (x4 : Int32) (z : ow_MS), fr (pf [1, 2, 3, 4, 5, 6, 7, 8, 9, 27, 41, 42, 44, 45, 46, 120] []) z0 z → Fo Prod.snd (pf [1, 2, 3, 4, 5, 6, 7, 8, 9, 27, 41, 42, 44, 45, 46, 120] []) z0 (go L x1 x2 x3 x4 z)) (hz : fr (pf [1, 2, 3, 4, 5, 6, 7, 8, 9, 27, 41, 42, 44, 45, 46, 120] []) z0 z)  : Fo Prod.snd (pf [1, 2, 3, 4, 5, 6, 7, 8, 9, 27, 41, 42, 44, 45, 46, 120] []) z0 (qm_X13_two_0 K go x1 x2 x3 x4 z) := by
  unfold qm_X13_two_0
  exact (fo_wrF (Or.inl (by decide)) hz (fun z1 h_z1 => (fo_cs1 (ff_X13_hasBraid) (pf_sub (by decide) pf_0) h_z1 (fun v3 z2 h_z2 => (fo_if (fo_cs1 (ff_X13_fails) (pf_sub (by decide) pf_0) h_z2 (fun v12 z11 h_z11 => (fo_some h_z11))) (fo_rdI (fun v4 => (fo_if (fo_cs0 (ff_X13_close) (pf_sub (by decide) pf_0) h_z2 (fun z5 h_z5 => (fo_cs0 (ff_X13_pack (by first | omega | decide)) (pf_sub (by decide) (pf_1 (Or.inl (by decide)))) h_z5 (fun z6 h_z6 => (fo_cs1 (ff_X13_isSame) (pf_sub (by decide) pf_0) h_z6 (fun v8 z7 h_z7 => (fo_if (hgo 1 _ _ _ _ z7 h_z7) (hgo 3 _ _ _ _ z7 h_z7)))))))) (fo_cs1 (ff_X13_fails) (pf_sub (by decide) pf_0) h_z2 (fun v10 z9 h_z9 => (fo_some h_z9)))))))))))
theorem fb_X13_two_1 {K : Nat} {z0 z : ow_MS}  {go : Nat → Int32 → Int32 → Int32 → Int32 → ow_MS → Option (Int32 × ow_MS)} {x1 : Int32} {x2 : Int32} {x3 : Int32} {x4 : Int32}  (hgo : ∀ (L : Nat) (x1 : Int32) (x2 : Int32) (x3 : Int32) (x4 : Int32) (z : ow_MS), fr (pf [1, 2, 3, 4, 5, 6, 7, 8, 9, 27, 41, 42, 44, 45, 46, 120] []) z0 z → Fo Prod.snd (pf [1, 2, 3, 4, 5, 6, 7, 8, 9, 27, 41, 42, 44, 45, 46, 120] []) z0 (go L x1 x2 x3 x4 z)) (hz : fr (pf [1, 2, 3, 4, 5, 6, 7, 8, 9, 27, 41, 42, 44, 45, 46, 120] []) z0 z)  : Fo Prod.snd (pf [1, 2, 3, 4, 5, 6, 7, 8, 9, 27, 41, 42, 44, 45, 46, 120] []) z0 (qm_X13_two_1 K go x1 x2 x3 x4 z) := by
  unfold qm_X13_two_1
  exact (fo_if (fo_rdN (fun n13 hn13 => (fo_cs0 (ff_X13_unpack (by first | omega | decide)) (pf_sub (by decide) pf_0) hz (fun z14 h_z14 => (fo_okZ (fo_wrF (Or.inl (by decide)) h_z14 (fun z15 h_z15 => (fo_cs0 (ff_X13_skein) (pf_sub (by decide) pf_0) h_z15 (fun z16 h_z16 => (hgo 2 _ _ _ _ z16 h_z16)))))))))) (fo_wrJ (Or.inl (by decide)) hz (fun z17 h_z17 => (hgo 1 _ _ _ _ z17 h_z17))))
theorem fb_X13_two_2 {K : Nat} {z0 z : ow_MS}  {go : Nat → Int32 → Int32 → Int32 → Int32 → ow_MS → Option (Int32 × ow_MS)} {x1 : Int32} {x2 : Int32} {x3 : Int32} {x4 : Int32}  (hgo : ∀ (L : Nat) (x1 : Int32) (x2 : Int32) (x3 : Int32) (x4 : Int32) (z : ow_MS), fr (pf [1, 2, 3, 4, 5, 6, 7, 8, 9, 27, 41, 42, 44, 45, 46, 120] []) z0 z → Fo Prod.snd (pf [1, 2, 3, 4, 5, 6, 7, 8, 9, 27, 41, 42, 44, 45, 46, 120] []) z0 (go L x1 x2 x3 x4 z)) (hz : fr (pf [1, 2, 3, 4, 5, 6, 7, 8, 9, 27, 41, 42, 44, 45, 46, 120] []) z0 z)  : Fo Prod.snd (pf [1, 2, 3, 4, 5, 6, 7, 8, 9, 27, 41, 42, 44, 45, 46, 120] []) z0 (qm_X13_two_2 K go x1 x2 x3 x4 z) := by
  unfold qm_X13_two_2
  exact (fo_if (hgo 3 _ _ _ _ z hz) (fo_rdI (fun v18 => (fo_wrI (Or.inl (by decide)) hz (fun z19 h_z19 => (hgo 2 _ _ _ _ z19 h_z19))))))
theorem fb_X13_two_3 {K : Nat} {z0 z : ow_MS}  {go : Nat → Int32 → Int32 → Int32 → Int32 → ow_MS → Option (Int32 × ow_MS)} {x1 : Int32} {x2 : Int32} {x3 : Int32} {x4 : Int32}  (hgo : ∀ (L : Nat) (x1 : Int32) (x2 : Int32) (x3 : Int32) (x4 : Int32) (z : ow_MS), fr (pf [1, 2, 3, 4, 5, 6, 7, 8, 9, 27, 41, 42, 44, 45, 46, 120] []) z0 z → Fo Prod.snd (pf [1, 2, 3, 4, 5, 6, 7, 8, 9, 27, 41, 42, 44, 45, 46, 120] []) z0 (go L x1 x2 x3 x4 z)) (hz : fr (pf [1, 2, 3, 4, 5, 6, 7, 8, 9, 27, 41, 42, 44, 45, 46, 120] []) z0 z)  : Fo Prod.snd (pf [1, 2, 3, 4, 5, 6, 7, 8, 9, 27, 41, 42, 44, 45, 46, 120] []) z0 (qm_X13_two_3 K go x1 x2 x3 x4 z) := by
  unfold qm_X13_two_3
  exact (fo_if (hgo 4 _ _ _ _ z hz) (fo_if (hgo 4 _ _ _ _ z hz) (fo_if (hgo 4 _ _ _ _ z hz) (fo_if (fo_rdJ (fun v20 => (fo_some hz))) (hgo 4 _ _ _ _ z hz)))))
theorem fb_X13_two_4 {K : Nat} {z0 z : ow_MS}  {go : Nat → Int32 → Int32 → Int32 → Int32 → ow_MS → Option (Int32 × ow_MS)} {x1 : Int32} {x2 : Int32} {x3 : Int32} {x4 : Int32}  (hgo : ∀ (L : Nat) (x1 : Int32) (x2 : Int32) (x3 : Int32) (x4 : Int32) (z : ow_MS), fr (pf [1, 2, 3, 4, 5, 6, 7, 8, 9, 27, 41, 42, 44, 45, 46, 120] []) z0 z → Fo Prod.snd (pf [1, 2, 3, 4, 5, 6, 7, 8, 9, 27, 41, 42, 44, 45, 46, 120] []) z0 (go L x1 x2 x3 x4 z)) (hz : fr (pf [1, 2, 3, 4, 5, 6, 7, 8, 9, 27, 41, 42, 44, 45, 46, 120] []) z0 z)  : Fo Prod.snd (pf [1, 2, 3, 4, 5, 6, 7, 8, 9, 27, 41, 42, 44, 45, 46, 120] []) z0 (qm_X13_two_4 K go x1 x2 x3 x4 z) := by
  unfold qm_X13_two_4
  exact (fo_some hz)
theorem fq_X13_two {K : Nat} {z0 : ow_MS}   : ∀ (k L : Nat) (x1 : Int32) (x2 : Int32) (x3 : Int32) (x4 : Int32) (z : ow_MS), fr (pf [1, 2, 3, 4, 5, 6, 7, 8, 9, 27, 41, 42, 44, 45, 46, 120] []) z0 z → Fo Prod.snd (pf [1, 2, 3, 4, 5, 6, 7, 8, 9, 27, 41, 42, 44, 45, 46, 120] []) z0 (q_X13_two K k L x1 x2 x3 x4 z)
  | 0 => by
    intros
    exact fo_none
  | k + 1 => by
    intro L x1 x2 x3 x4 z hz 
    show Fo Prod.snd (pf [1, 2, 3, 4, 5, 6, 7, 8, 9, 27, 41, 42, 44, 45, 46, 120] []) z0 (qb_X13_two K (q_X13_two K k) L x1 x2 x3 x4 z)
    unfold qb_X13_two
    split
    · exact fb_X13_two_0 (fq_X13_two k) hz 
    · exact fb_X13_two_1 (fq_X13_two k) hz 
    · exact fb_X13_two_2 (fq_X13_two k) hz 
    · exact fb_X13_two_3 (fq_X13_two k) hz 
    · exact fb_X13_two_4 (fq_X13_two k) hz 
    · exact fo_none
theorem ff_X13_two {K : Nat} {x1 : Int32} {x2 : Int32} {x3 : Int32} {z : ow_MS}  : Fo Prod.snd (pf [1, 2, 3, 4, 5, 6, 7, 8, 9, 27, 41, 42, 44, 45, 46, 120] []) z (qe_X13_two K x1 x2 x3 z) := fq_X13_two K 0 _ _ _ _ z fr_rf 
end
section
/-! 99zzzzzzzzzzzzj.xini1 -/
/-! what the class's constructors write: binomials -/
theorem binN_0 : ∀ {m i : Nat}, m < i → binN m i = 0
  | 0, 0, h => absurd h (by omega)
  | 0, _ + 1, _ => rfl
  | m + 1, 0, h => absurd h (by omega)
  | m + 1, i + 1, h => by
    show binN m i + binN m (i + 1) = 0
    rw [binN_0 (show m < i by omega), binN_0 (show m < i + 1 by omega)]
theorem binN_z (m : Nat) : binN m 0 = 1 := by cases m <;> rfl
theorem biN_n : ∀ m i, biN m i = binN m i
  | 0, 0 => rfl
  | 0, _ + 1 => rfl
  | m + 1, 0 => by
    show biN m 0 + 0 = 1
    rw [biN_n m 0, binN_z]
  | m + 1, i + 1 => by
    show biN m (i + 1) + biN m i = binN m i + binN m (i + 1)
    rw [biN_n m (i + 1), biN_n m i]
    omega
section XIb8
variable {z : ow_MS}
theorem ch_b8 {m : Nat} (hm : m < 24) : (cT8.2 (39001 + m)).2.1 = 24 := by
  have key : ∀ m : Fin 24, (cT8.2 (39001 + m.val)).2.1 = 24 := by decide +kernel
  exact key ⟨m, hm⟩
theorem u_X8i_b8_1 {x1 : Int32} {x2 : Int32} {r0 : Nat} {z : ow_MS} {Q : ow_MS → Prop} (H : Tt (fun K k => cm_X8i_1_b8 K (c_X8i_b8 K k) x1 x2 r0 z) Q) : Tt (fun K k => c_X8i_b8 K k 1 x1 x2 r0 z) Q := w_un (fun _ _ => rfl) H
theorem u_X8i_b8_2 {x1 : Int32} {x2 : Int32} {r0 : Nat} {z : ow_MS} {Q : ow_MS → Prop} (H : Tt (fun K k => cm_X8i_2_b8 K (c_X8i_b8 K k) x1 x2 r0 z) Q) : Tt (fun K k => c_X8i_b8 K k 2 x1 x2 r0 z) Q := w_un (fun _ _ => rfl) H
theorem e_X8i_b8 {r0 : Nat} {z : ow_MS} {Q : ow_MS → Prop} (H : Tt (fun K k => c_X8i_b8 K k 0 0 0 r0 z) Q) : Te (fun K => ce_X8i_b8 K r0 z) Q := w_te H
theorem u_X8i_b8_0 {x1 : Int32} {x2 : Int32} {r0 : Nat} {z : ow_MS} {Q : ow_MS → Prop} (H : Tt (fun K k => cm_X8i_0_b8 K (c_X8i_b8 K k) x1 x2 r0 z) Q) : Tt (fun K k => c_X8i_b8 K k 0 x1 x2 r0 z) Q := w_un (fun _ _ => rfl) H
theorem ti_b8 (h0 : ∀ m i, m < 24 → z.2.1 (39001 + m) i = 0) : Te (fun K => ce_X8i_b8 K 24000 z) (fun z1 => (∀ m i, m < 24 → i ≤ m → z1.2.1 (39001 + m) i = nI (binN m i)) ∧ fr (fun g => 39001 ≤ g ∧ g < 39001 + 24) z z1) := by
  let Q : ow_MS → Prop := fun z1 => (∀ m i, m < 24 → i ≤ m → z1.2.1 (39001 + m) i = nI (binN m i)) ∧ fr (fun g => 39001 ≤ g ∧ g < 39001 + 24) z z1
  let J : Nat → ow_MS → Prop := fun m y => (∀ a i, a < m → y.2.1 (39001 + a) i = nI (binN a i)) ∧ fr (fun g => 39001 ≤ g ∧ g < 39001 + 24) z y
  have c1 : ∀ (d m : Nat) (y : ow_MS), m + d = 24 → J m y → (∀ a i, m ≤ a → a < 24 → y.2.1 (39001 + a) i = 0) → Tt (fun K t => c_X8i_b8 K t 1 (nI m) 0 24000 y) Q := by
    intro d
    induction d with
    | zero =>
      intro m y hm hj _
      refine u_X8i_b8_1 ?_; unfold cm_X8i_1_b8
      exact w_leT (a := 24) (by omega) (by omega) (w_some ⟨fun a i ha hi => hj.1 a i (by omega), hj.2⟩)
    | succ d ih =>
      intro m y hm hj hz
      have c2 : ∀ (e j : Nat) (y : ow_MS), j + e = m + 1 → 1 ≤ j → J m y → (∀ a i, m + 1 ≤ a → a < 24 → y.2.1 (39001 + a) i = 0) → (∀ i, y.2.1 (39001 + m) i = if i < j then nI (binN m i) else 0) → Tt (fun K t => c_X8i_b8 K t 2 (nI m) (nI j) 24000 y) Q := by
        intro e
        induction e with
        | zero =>
          intro j y hj0 hj1 hj hz hr
          have ej : j = m + 1 := by omega
          refine u_X8i_b8_2 ?_; unfold cm_X8i_2_b8
          rw [nI_1]
          refine w_ltT (by omega) (by omega) (ih (m + 1) y (by omega) ⟨fun a i ha => ?_, hj.2⟩ hz)
          by_cases e9 : a = m
          · rw [e9, hr]
            by_cases hi : i < j
            · rw [if_pos hi]
            · rw [if_neg hi, binN_0 (by omega)]
              rfl
          · exact hj.1 a i (by omega)
        | succ e ihe =>
          intro j y hj0 hj1 hj hz hr
          obtain ⟨m1, rfl⟩ : ∃ m1, m = m1 + 1 := ⟨m - 1, by omega⟩
          obtain ⟨j1, rfl⟩ : ∃ j1, j = j1 + 1 := ⟨j - 1, by omega⟩
          have em : nI (m1 + 1) - 1 = nI m1 := pk_sub (a := m1 + 1) (b := 1) (by omega)
          have ej : nI (j1 + 1) - 1 = nI j1 := pk_sub (a := j1 + 1) (b := 1) (by omega)
          refine u_X8i_b8_2 ?_; unfold cm_X8i_2_b8
          rw [em, ej, show nI (j1 + 1) + 1 = nI (j1 + 1 + 1) from nI_1 _]
          refine w_ltF (by omega) (by omega) (w_crX rfl (show m1 + 1 < 24 by omega) (w_crX rfl (show m1 < 24 by omega) (w_crI (ch_b8 (show m1 < 24 by omega)) rfl (show j1 < 24 by omega) (hj.1 m1 j1 (by omega)) (w_crX rfl (show m1 < 24 by omega) (w_crI (ch_b8 (show m1 < 24 by omega)) rfl (show j1 + 1 < 24 by omega) (hj.1 m1 (j1 + 1) (by omega)) (w_ctI (ch_b8 (show m1 + 1 < 24 by omega)) rfl (show j1 + 1 < 24 by omega) ?_))))))
          refine ihe (j1 + 1 + 1) _ (by omega) (by omega) ⟨fun a i ha => ?_, fr_I2 hj.2 (by omega)⟩ (fun a i ha ha2 => ?_) (fun i => ?_)
          · rw [rd_ot (show 39001 + a ≠ 24000 + 15001 + (m1 + 1) by omega)]
            exact hj.1 a i ha
          · rw [rd_ot (show 39001 + a ≠ 24000 + 15001 + (m1 + 1) by omega)]
            exact hz a i ha ha2
          · by_cases e9 : i = j1 + 1
            · rw [e9, if_pos (by omega)]
              have : (usI y (24000 + 15001 + (m1 + 1)) (j1 + 1) (nI (binN m1 j1) + nI (binN m1 (j1 + 1)))).2.1 (39001 + (m1 + 1)) (j1 + 1) = nI (binN m1 j1) + nI (binN m1 (j1 + 1)) := po_usI_at
              rw [this, nI_add]
              rfl
            · have : (usI y (24000 + 15001 + (m1 + 1)) (j1 + 1) (nI (binN m1 j1) + nI (binN m1 (j1 + 1)))).2.1 (39001 + (m1 + 1)) i = y.2.1 (39001 + (m1 + 1)) i := rd_ne e9 rfl
              rw [this, hr]
              by_cases h1 : i < j1 + 1
              · rw [if_pos h1, if_pos (by omega)]
              · rw [if_neg h1, if_neg (by omega)]
      refine u_X8i_b8_1 ?_; unfold cm_X8i_1_b8
      refine w_leF (a := 24) (by omega) (by omega) (w_crX rfl (show m < 24 by omega) (w_ctI (ch_b8 (show m < 24 by omega)) nI_0.symm (by omega) (c2 m 1 _ (by omega) (by omega) ⟨fun a i ha => ?_, fr_I2 hj.2 (by omega)⟩ (fun a i ha ha2 => ?_) (fun i => ?_))))
      · rw [rd_ot (show 39001 + a ≠ 24000 + 15001 + m by omega)]
        exact hj.1 a i ha
      · rw [rd_ot (show 39001 + a ≠ 24000 + 15001 + m by omega)]
        exact hz a i (by omega) ha2
      · by_cases e9 : i = 0
        · rw [e9, if_pos (by omega), binN_z]
          exact po_usI_at
        · have : (usI y (24000 + 15001 + m) 0 1).2.1 (39001 + m) i = y.2.1 (39001 + m) i := rd_ne e9 rfl
          rw [this, hz m i (Nat.le_refl _) (by omega), if_neg (by omega)]
  refine e_X8i_b8 ?_
  refine u_X8i_b8_0 ?_; unfold cm_X8i_0_b8
  exact c1 24 0 z (by omega) ⟨fun a i ha => absurd ha (Nat.not_lt_zero _), fr_rf⟩ (fun a i _ ha => h0 a i ha)
end XIb8
section XIb1
variable {z : ow_MS}
theorem ch_b1 {m : Nat} (hm : m < 11) : (cT1.2 (45001 + m)).2.1 = 11 := by
  have key : ∀ m : Fin 11, (cT1.2 (45001 + m.val)).2.1 = 11 := by decide +kernel
  exact key ⟨m, hm⟩
theorem u_X1i_b1_1 {x1 : Int32} {x2 : Int32} {r0 : Nat} {z : ow_MS} {Q : ow_MS → Prop} (H : Tt (fun K k => cm_X1i_1_b1 K (c_X1i_b1 K k) x1 x2 r0 z) Q) : Tt (fun K k => c_X1i_b1 K k 1 x1 x2 r0 z) Q := w_un (fun _ _ => rfl) H
theorem u_X1i_b1_2 {x1 : Int32} {x2 : Int32} {r0 : Nat} {z : ow_MS} {Q : ow_MS → Prop} (H : Tt (fun K k => cm_X1i_2_b1 K (c_X1i_b1 K k) x1 x2 r0 z) Q) : Tt (fun K k => c_X1i_b1 K k 2 x1 x2 r0 z) Q := w_un (fun _ _ => rfl) H
theorem e_X1i_b1 {r0 : Nat} {z : ow_MS} {Q : ow_MS → Prop} (H : Tt (fun K k => c_X1i_b1 K k 0 0 0 r0 z) Q) : Te (fun K => ce_X1i_b1 K r0 z) Q := w_te H
theorem u_X1i_b1_0 {x1 : Int32} {x2 : Int32} {r0 : Nat} {z : ow_MS} {Q : ow_MS → Prop} (H : Tt (fun K k => cm_X1i_0_b1 K (c_X1i_b1 K k) x1 x2 r0 z) Q) : Tt (fun K k => c_X1i_b1 K k 0 x1 x2 r0 z) Q := w_un (fun _ _ => rfl) H
theorem ti_b1 (h0 : ∀ m i, m < 11 → z.2.1 (45001 + m) i = 0) : Te (fun K => ce_X1i_b1 K 43000 z) (fun z1 => (∀ m i, m < 11 → i ≤ m → z1.2.1 (45001 + m) i = nI (binN m i)) ∧ fr (fun g => 45001 ≤ g ∧ g < 45001 + 11) z z1) := by
  let Q : ow_MS → Prop := fun z1 => (∀ m i, m < 11 → i ≤ m → z1.2.1 (45001 + m) i = nI (binN m i)) ∧ fr (fun g => 45001 ≤ g ∧ g < 45001 + 11) z z1
  let J : Nat → ow_MS → Prop := fun m y => (∀ a i, a < m → y.2.1 (45001 + a) i = nI (binN a i)) ∧ fr (fun g => 45001 ≤ g ∧ g < 45001 + 11) z y
  have c1 : ∀ (d m : Nat) (y : ow_MS), m + d = 11 → J m y → (∀ a i, m ≤ a → a < 11 → y.2.1 (45001 + a) i = 0) → Tt (fun K t => c_X1i_b1 K t 1 (nI m) 0 43000 y) Q := by
    intro d
    induction d with
    | zero =>
      intro m y hm hj _
      refine u_X1i_b1_1 ?_; unfold cm_X1i_1_b1
      exact w_ltT (a := 10) (by omega) (by omega) (w_some ⟨fun a i ha hi => hj.1 a i (by omega), hj.2⟩)
    | succ d ih =>
      intro m y hm hj hz
      have c2 : ∀ (e j : Nat) (y : ow_MS), j + e = m + 1 → 1 ≤ j → J m y → (∀ a i, m + 1 ≤ a → a < 11 → y.2.1 (45001 + a) i = 0) → (∀ i, y.2.1 (45001 + m) i = if i < j then nI (binN m i) else 0) → Tt (fun K t => c_X1i_b1 K t 2 (nI m) (nI j) 43000 y) Q := by
        intro e
        induction e with
        | zero =>
          intro j y hj0 hj1 hj hz hr
          have ej : j = m + 1 := by omega
          refine u_X1i_b1_2 ?_; unfold cm_X1i_2_b1
          rw [nI_1]
          refine w_ltT (by omega) (by omega) (ih (m + 1) y (by omega) ⟨fun a i ha => ?_, hj.2⟩ hz)
          by_cases e9 : a = m
          · rw [e9, hr]
            by_cases hi : i < j
            · rw [if_pos hi]
            · rw [if_neg hi, binN_0 (by omega)]
              rfl
          · exact hj.1 a i (by omega)
        | succ e ihe =>
          intro j y hj0 hj1 hj hz hr
          obtain ⟨m1, rfl⟩ : ∃ m1, m = m1 + 1 := ⟨m - 1, by omega⟩
          obtain ⟨j1, rfl⟩ : ∃ j1, j = j1 + 1 := ⟨j - 1, by omega⟩
          have em : nI (m1 + 1) - 1 = nI m1 := pk_sub (a := m1 + 1) (b := 1) (by omega)
          have ej : nI (j1 + 1) - 1 = nI j1 := pk_sub (a := j1 + 1) (b := 1) (by omega)
          refine u_X1i_b1_2 ?_; unfold cm_X1i_2_b1
          rw [em, ej, show nI (j1 + 1) + 1 = nI (j1 + 1 + 1) from nI_1 _]
          refine w_ltF (by omega) (by omega) (w_crX rfl (show m1 + 1 < 11 by omega) (w_crX rfl (show m1 < 11 by omega) (w_crI (ch_b1 (show m1 < 11 by omega)) rfl (show j1 < 11 by omega) (hj.1 m1 j1 (by omega)) (w_crX rfl (show m1 < 11 by omega) (w_crI (ch_b1 (show m1 < 11 by omega)) rfl (show j1 + 1 < 11 by omega) (hj.1 m1 (j1 + 1) (by omega)) (w_ctI (ch_b1 (show m1 + 1 < 11 by omega)) rfl (show j1 + 1 < 11 by omega) ?_))))))
          refine ihe (j1 + 1 + 1) _ (by omega) (by omega) ⟨fun a i ha => ?_, fr_I2 hj.2 (by omega)⟩ (fun a i ha ha2 => ?_) (fun i => ?_)
          · rw [rd_ot (show 45001 + a ≠ 43000 + 2001 + (m1 + 1) by omega)]
            exact hj.1 a i ha
          · rw [rd_ot (show 45001 + a ≠ 43000 + 2001 + (m1 + 1) by omega)]
            exact hz a i ha ha2
          · by_cases e9 : i = j1 + 1
            · rw [e9, if_pos (by omega)]
              have : (usI y (43000 + 2001 + (m1 + 1)) (j1 + 1) (nI (binN m1 j1) + nI (binN m1 (j1 + 1)))).2.1 (45001 + (m1 + 1)) (j1 + 1) = nI (binN m1 j1) + nI (binN m1 (j1 + 1)) := po_usI_at
              rw [this, nI_add]
              rfl
            · have : (usI y (43000 + 2001 + (m1 + 1)) (j1 + 1) (nI (binN m1 j1) + nI (binN m1 (j1 + 1)))).2.1 (45001 + (m1 + 1)) i = y.2.1 (45001 + (m1 + 1)) i := rd_ne e9 rfl
              rw [this, hr]
              by_cases h1 : i < j1 + 1
              · rw [if_pos h1, if_pos (by omega)]
              · rw [if_neg h1, if_neg (by omega)]
      refine u_X1i_b1_1 ?_; unfold cm_X1i_1_b1
      refine w_ltF (a := 10) (by omega) (by omega) (w_crX rfl (show m < 11 by omega) (w_ctI (ch_b1 (show m < 11 by omega)) nI_0.symm (by omega) (c2 m 1 _ (by omega) (by omega) ⟨fun a i ha => ?_, fr_I2 hj.2 (by omega)⟩ (fun a i ha ha2 => ?_) (fun i => ?_))))
      · rw [rd_ot (show 45001 + a ≠ 43000 + 2001 + m by omega)]
        exact hj.1 a i ha
      · rw [rd_ot (show 45001 + a ≠ 43000 + 2001 + m by omega)]
        exact hz a i (by omega) ha2
      · by_cases e9 : i = 0
        · rw [e9, if_pos (by omega), binN_z]
          exact po_usI_at
        · have : (usI y (43000 + 2001 + m) 0 1).2.1 (45001 + m) i = y.2.1 (45001 + m) i := rd_ne e9 rfl
          rw [this, hz m i (Nat.le_refl _) (by omega), if_neg (by omega)]
  refine e_X1i_b1 ?_
  refine u_X1i_b1_0 ?_; unfold cm_X1i_0_b1
  exact c1 11 0 z (by omega) ⟨fun a i ha => absurd ha (Nat.not_lt_zero _), fr_rf⟩ (fun a i _ ha => h0 a i ha)
end XIb1
end
section
/-! 99zzzzzzzzzzzzk.xini2 -/
/-! what the class's constructors write: places of numbers, permutations -/
section XJ1
variable {z : ow_MS}
theorem ch_b1b : (cT1b.2 43005).2.1 = 1024 := by decide +kernel
theorem ch_b1r : (cT1b.2 53001).2.1 = 11 := by decide +kernel
theorem u_X1j_b1b_1 {x2 : Int32} {r0 : Nat} {r1 : Nat} {z : ow_MS} {Q : ow_MS → Prop} (H : Tt (fun K k => cm_X1j_1_b1b K (c_X1j_b1b K k) x2 r0 r1 z) Q) : Tt (fun K k => c_X1j_b1b K k 1 x2 r0 r1 z) Q := w_un (fun _ _ => rfl) H
theorem e_X1j_b1b {r0 : Nat} {r1 : Nat} {z : ow_MS} {Q : ow_MS → Prop} (H : Tt (fun K k => c_X1j_b1b K k 0 0 r0 r1 z) Q) : Te (fun K => ce_X1j_b1b K r0 r1 z) Q := w_te H
theorem u_X1j_b1b_0 {x2 : Int32} {r0 : Nat} {r1 : Nat} {z : ow_MS} {Q : ow_MS → Prop} (H : Tt (fun K k => cm_X1j_0_b1b K (c_X1j_b1b K k) x2 r0 r1 z) Q) : Tt (fun K k => c_X1j_b1b K k 0 x2 r0 r1 z) Q := w_un (fun _ _ => rfl) H
theorem ti_b1b (h0 : ∀ r, z.2.1 53001 r = 0) : Te (fun K => ce_X1j_b1b K 43000 53001 z) (fun z1 => (∀ m, m < 1024 → z1.2.1 43005 m = nI (cpN (pc m) m)) ∧ fr (fun g => g = 43005 ∨ g = 53001) z z1) := by
  let Q : ow_MS → Prop := fun z1 => (∀ m, m < 1024 → z1.2.1 43005 m = nI (cpN (pc m) m)) ∧ fr (fun g => g = 43005 ∨ g = 53001) z z1
  have c1 : ∀ (d m : Nat) (y : ow_MS), m + d = 1024 → (∀ i, i < m → y.2.1 43005 i = nI (cpN (pc i) i)) → (∀ r, r < 11 → y.2.1 53001 r = nI (cpN r m)) → fr (fun g => g = 43005 ∨ g = 53001) z y → Tt (fun K t => c_X1j_b1b K t 1 (nI m) 43000 53001 y) Q := by
    intro d
    induction d with
    | zero =>
      intro m y hm h1 h2 hf
      have hl : (Int32.ofNat (uw_len cT1b y (43000 + 5))) = nI 1024 := by
        show nI (cT1b.2 43005).2.1 = nI 1024
        rw [ch_b1b]
      refine u_X1j_b1b_1 ?_; unfold cm_X1j_1_b1b
      rw [hl]
      exact w_leT (by omega) (by omega) (w_some ⟨fun i hi => h1 i (by omega), hf⟩)
    | succ d ih =>
      intro m y hm h1 h2 hf
      have hl : (Int32.ofNat (uw_len cT1b y (43000 + 5))) = nI 1024 := by
        show nI (cT1b.2 43005).2.1 = nI 1024
        rw [ch_b1b]
      have hpc : pc m ≤ 10 := pc_le (c := 10) (by show m < 1024; omega)
      refine u_X1j_b1b_1 ?_; unfold cm_X1j_1_b1b
      rw [hl, bc_pc (show m < 4096 by omega), show nI m + 1 = nI (m + 1) from nI_1 _]
      refine w_leF (by omega) (by omega) (w_crI ch_b1r rfl (show pc m < 11 by omega) (h2 _ (by omega)) (w_ctI ch_b1b rfl (show m < 1024 by omega) (w_crI ch_b1r rfl (show pc m < 11 by omega) (x := nI (cpN (pc m) m)) ?_ (w_ctI ch_b1r rfl (show pc m < 11 by omega) (ih (m + 1) _ (by omega) (fun i hi => ?_) (fun r hr => ?_) (fr_I2 (fr_I2 hf (Or.inl rfl)) (Or.inr rfl)))))))
      · rw [rd_ot (show (53001 : Nat) ≠ 43000 + 5 by omega)]
        exact h2 _ (by omega)
      · rw [rd_ot (show (43005 : Nat) ≠ 53001 by omega)]
        by_cases e : i = m
        · rw [e]
          exact po_usI_at
        · exact rd_ne e (h1 i (by omega))
      · show _ = nI (cpN r m + if pc m = r then 1 else 0)
        by_cases e : r = pc m
        · rw [e, if_pos rfl, po_usI_at]
          exact nI_1 _
        · have : (usI (usI y (43000 + 5) m (nI (cpN (pc m) m))) 53001 (pc m) (nI (cpN (pc m) m) + 1)).2.1 53001 r = (usI y (43000 + 5) m (nI (cpN (pc m) m))).2.1 53001 r := rd_ne e rfl
          have t2 : (usI y (43000 + 5) m (nI (cpN (pc m) m))).2.1 53001 r = nI (cpN r m) := rd_ot (by omega) (h2 r hr)
          rw [this, t2, if_neg (fun e9 => e e9.symm), Nat.add_zero]
  refine e_X1j_b1b ?_
  refine u_X1j_b1b_0 ?_; unfold cm_X1j_0_b1b
  exact c1 1024 0 z (by omega) (fun i hi => absurd hi (Nat.not_lt_zero _)) (fun r _ => h0 r) fr_rf
end XJ1
section XJ0
variable {z : ow_MS}
theorem ch_0r : (cT0.2 53001).2.1 = 24 := by decide +kernel
theorem ch_06 : (cT0.2 41006).2.1 = 576 := by decide +kernel
theorem ch_07 : (cT0.2 41007).2.1 = 24 := by decide +kernel
theorem u_X0_listPermutations_b0_1 {x1 : Int32} {x2 : Int32} {x3 : Int32} {x4 : Int32} {x5 : Int32} {x6 : Int32} {r0 : Nat} {z : ow_MS} {Q : ow_MS → Prop} (H : Tt (fun K k => cm_X0_listPermutations_1_b0 K (c_X0_listPermutations_b0 K k) x1 x2 x3 x4 x5 x6 r0 z) Q) : Tt (fun K k => c_X0_listPermutations_b0 K k 1 x1 x2 x3 x4 x5 x6 r0 z) Q := w_un (fun _ _ => rfl) H
theorem u_X0_listPermutations_b0_2 {x1 : Int32} {x2 : Int32} {x3 : Int32} {x4 : Int32} {x5 : Int32} {x6 : Int32} {r0 : Nat} {z : ow_MS} {Q : ow_MS → Prop} (H : Tt (fun K k => cm_X0_listPermutations_2_b0 K (c_X0_listPermutations_b0 K k) x1 x2 x3 x4 x5 x6 r0 z) Q) : Tt (fun K k => c_X0_listPermutations_b0 K k 2 x1 x2 x3 x4 x5 x6 r0 z) Q := w_un (fun _ _ => rfl) H
theorem e_X0_listPermutations_b0 {r0 : Nat} {z : ow_MS} {Q : ow_MS → Prop} (H : Tt (fun K k => c_X0_listPermutations_b0 K k 0 0 0 0 0 0 0 r0 z) Q) : Te (fun K => ce_X0_listPermutations_b0 K r0 z) Q := w_te H
theorem u_X0_listPermutations_b0_0 {x1 : Int32} {x2 : Int32} {x3 : Int32} {x4 : Int32} {x5 : Int32} {x6 : Int32} {r0 : Nat} {z : ow_MS} {Q : ow_MS → Prop} (H : Tt (fun K k => cm_X0_listPermutations_0_b0 K (c_X0_listPermutations_b0 K k) x1 x2 x3 x4 x5 x6 r0 z) Q) : Tt (fun K k => c_X0_listPermutations_b0 K k 0 x1 x2 x3 x4 x5 x6 r0 z) Q := w_un (fun _ _ => rfl) H
theorem ti_perms : Te (fun K => ce_X0_listPermutations_b0 K 53001 z) (fun z1 => fr (fun g => g = 53001) z z1) := by
  let Q : ow_MS → Prop := fun z1 => fr (fun g => g = 53001) z z1
  have c1 : ∀ (d m k : Nat) (y : ow_MS), m + d = 256 → k ≤ 24 → fr (fun g => g = 53001) z y → Tt (fun K t => c_X0_listPermutations_b0 K t 1 (nI k) (nI m) 0 0 0 0 53001 y) Q := by
    intro d
    induction d with
    | zero =>
      intro m k y hm hk hf
      refine u_X0_listPermutations_b0_1 ?_; unfold cm_X0_listPermutations_1_b0
      exact w_leT (a := 256) (by omega) (by omega) (w_some hf)
    | succ d ih =>
      intro m k y hm hk hf
      have c2 : ∀ (k : Nat) (a b c e : Int32) (y : ow_MS), k ≤ 24 → fr (fun g => g = 53001) z y → Tt (fun K t => c_X0_listPermutations_b0 K t 2 (nI k) (nI m) a b c e 53001 y) Q := by
        intro k a b c e y hk hf
        refine u_X0_listPermutations_b0_2 ?_; unfold cm_X0_listPermutations_2_b0
        rw [nI_1]
        exact ih (m + 1) k y (by omega) hk hf
      refine u_X0_listPermutations_b0_1 ?_; unfold cm_X0_listPermutations_1_b0
      rw [show nI k + 1 = nI (k + 1) from nI_1 _]
      refine w_leF (a := 256) (by omega) (by omega) (w_le (a := 24) (by omega) (by omega) (fun _ => w_some hf) (fun h24 => w_if (fun _ => w_ctI ch_0r rfl (show k < 24 by omega) (c2 (k + 1) _ _ _ _ _ (by omega) (fr_I2 hf rfl))) (fun _ => c2 k _ _ _ _ _ hk hf)))
  refine e_X0_listPermutations_b0 ?_
  refine u_X0_listPermutations_b0_0 ?_; unfold cm_X0_listPermutations_0_b0
  exact c1 256 0 0 z (by omega) (by omega) fr_rf
theorem u_X0_indexOf_b0_1 {x1 : Int32} {x2 : Int32} {r0 : Nat} {z : ow_MS} {Q : (Int32 × ow_MS) → Prop} (H : Tt (fun K k => cm_X0_indexOf_1_b0 K (c_X0_indexOf_b0 K k) x1 x2 r0 z) Q) : Tt (fun K k => c_X0_indexOf_b0 K k 1 x1 x2 r0 z) Q := w_un (fun _ _ => rfl) H
theorem e_X0_indexOf_b0 {r0 : Nat} {x1 : Int32} {z : ow_MS} {Q : (Int32 × ow_MS) → Prop} (H : Tt (fun K k => c_X0_indexOf_b0 K k 0 x1 0 r0 z) Q) : Te (fun K => ce_X0_indexOf_b0 K r0 x1 z) Q := w_te H
theorem u_X0_indexOf_b0_0 {x1 : Int32} {x2 : Int32} {r0 : Nat} {z : ow_MS} {Q : (Int32 × ow_MS) → Prop} (H : Tt (fun K k => cm_X0_indexOf_0_b0 K (c_X0_indexOf_b0 K k) x1 x2 r0 z) Q) : Tt (fun K k => c_X0_indexOf_b0 K k 0 x1 x2 r0 z) Q := w_un (fun _ _ => rfl) H
theorem ti_index {b : Int32} : Te (fun K => ce_X0_indexOf_b0 K 53001 b z) (fun r => (∃ k, k < 24 ∧ r.1 = nI k) ∧ r.2 = z) := by
  let Q : Int32 × ow_MS → Prop := fun r => (∃ k, k < 24 ∧ r.1 = nI k) ∧ r.2 = z
  have hl : (Int32.ofNat (uw_len cT0 z 53001)) = nI 24 := by
    show nI (cT0.2 53001).2.1 = nI 24
    rw [ch_0r]
  have c1 : ∀ (d m : Nat), m + d = 24 → Tt (fun K t => c_X0_indexOf_b0 K t 1 b (nI m) 53001 z) Q := by
    intro d
    induction d with
    | zero =>
      intro m hm
      refine u_X0_indexOf_b0_1 ?_; unfold cm_X0_indexOf_1_b0
      rw [hl]
      exact w_leT (by omega) (by omega) (w_some ⟨⟨0, by omega, rfl⟩, rfl⟩)
    | succ d ih =>
      intro m hm
      refine u_X0_indexOf_b0_1 ?_; unfold cm_X0_indexOf_1_b0
      rw [hl, nI_1]
      exact w_leF (by omega) (by omega) (w_crI ch_0r rfl (show m < 24 by omega) rfl (w_if (fun _ => w_some ⟨⟨m, by omega, rfl⟩, rfl⟩) (fun _ => ih (m + 1) (by omega))))
  refine e_X0_indexOf_b0 ?_
  refine u_X0_indexOf_b0_0 ?_; unfold cm_X0_indexOf_0_b0
  exact c1 24 0 (by omega)
theorem e_X5_image_b0 {x0 : Int32} {x1 : Int32} {z : ow_MS} {Q : (Int32 × ow_MS) → Prop} (H : Tt (fun K _ => cm_X5_image_0_b0 K x0 x1 z) Q) : Te (fun K => ce_X5_image_b0 K x0 x1 z) Q := w_te0 H
theorem ti_image {a b : Int32} : Te (fun K => ce_X5_image_b0 K a b z) (fun r => r.2 = z) := by
  refine e_X5_image_b0 ?_; unfold cm_X5_image_0_b0
  exact w_some rfl
theorem u_X5_invert_b0_1 {x0 : Int32} {x1 : Int32} {x2 : Int32} {x3 : Int32} {z : ow_MS} {Q : (Int32 × ow_MS) → Prop} (H : Tt (fun K k => cm_X5_invert_1_b0 K (c_X5_invert_b0 K k) x0 x1 x2 x3 z) Q) : Tt (fun K k => c_X5_invert_b0 K k 1 x0 x1 x2 x3 z) Q := w_un (fun _ _ => rfl) H
theorem e_X5_invert_b0 {x0 : Int32} {x1 : Int32} {z : ow_MS} {Q : (Int32 × ow_MS) → Prop} (H : Tt (fun K k => c_X5_invert_b0 K k 0 x0 x1 0 0 z) Q) : Te (fun K => ce_X5_invert_b0 K x0 x1 z) Q := w_te H
theorem u_X5_invert_b0_0 {x0 : Int32} {x1 : Int32} {x2 : Int32} {x3 : Int32} {z : ow_MS} {Q : (Int32 × ow_MS) → Prop} (H : Tt (fun K k => cm_X5_invert_0_b0 K (c_X5_invert_b0 K k) x0 x1 x2 x3 z) Q) : Tt (fun K k => c_X5_invert_b0 K k 0 x0 x1 x2 x3 z) Q := w_un (fun _ _ => rfl) H
theorem ti_invert {a : Int32} : Te (fun K => ce_X5_invert_b0 K a 4 z) (fun r => r.2 = z) := by
  have c1 : ∀ (d m : Nat) (w : Int32), m + d = 4 → Tt (fun K t => c_X5_invert_b0 K t 1 a 4 w (nI m) z) (fun r => r.2 = z) := by
    intro d
    induction d with
    | zero =>
      intro m w hm
      refine u_X5_invert_b0_1 ?_; unfold cm_X5_invert_1_b0
      exact w_leT (a := 4) (by omega) (by omega) (w_some rfl)
    | succ d ih =>
      intro m w hm
      refine u_X5_invert_b0_1 ?_; unfold cm_X5_invert_1_b0
      refine w_leF (a := 4) (by omega) (by omega) (w_cs1 ti_image (fun v y1 e => ?_))
      have e : y1 = z := e
      rw [e, nI_1]
      exact ih (m + 1) _ (by omega)
  refine e_X5_invert_b0 ?_
  refine u_X5_invert_b0_0 ?_; unfold cm_X5_invert_0_b0
  exact c1 4 0 0 (by omega)
theorem nar_24 : ∀ k : Fin 24, vp_nar .byte (nI k.val).toInt8.toInt32 = nI k.val := by decide +kernel
theorem u_X0i_b0_1 {x2 : Int32} {x3 : Int32} {x4 : Int32} {x5 : Int32} {r0 : Nat} {r1 : Nat} {z : ow_MS} {Q : ow_MS → Prop} (H : Tt (fun K k => cm_X0i_1_b0 K (c_X0i_b0 K k) x2 x3 x4 x5 r0 r1 z) Q) : Tt (fun K k => c_X0i_b0 K k 1 x2 x3 x4 x5 r0 r1 z) Q := w_un (fun _ _ => rfl) H
theorem u_X0i_b0_2 {x2 : Int32} {x3 : Int32} {x4 : Int32} {x5 : Int32} {r0 : Nat} {r1 : Nat} {z : ow_MS} {Q : ow_MS → Prop} (H : Tt (fun K k => cm_X0i_2_b0 K (c_X0i_b0 K k) x2 x3 x4 x5 r0 r1 z) Q) : Tt (fun K k => c_X0i_b0 K k 2 x2 x3 x4 x5 r0 r1 z) Q := w_un (fun _ _ => rfl) H
theorem u_X0i_b0_3 {x2 : Int32} {x3 : Int32} {x4 : Int32} {x5 : Int32} {r0 : Nat} {r1 : Nat} {z : ow_MS} {Q : ow_MS → Prop} (H : Tt (fun K k => cm_X0i_3_b0 K (c_X0i_b0 K k) x2 x3 x4 x5 r0 r1 z) Q) : Tt (fun K k => c_X0i_b0 K k 3 x2 x3 x4 x5 r0 r1 z) Q := w_un (fun _ _ => rfl) H
theorem e_X0i_b0 {r0 : Nat} {r1 : Nat} {z : ow_MS} {Q : ow_MS → Prop} (H : Tt (fun K k => c_X0i_b0 K k 0 0 0 0 0 r0 r1 z) Q) : Te (fun K => ce_X0i_b0 K r0 r1 z) Q := w_te H
theorem u_X0i_b0_0 {x2 : Int32} {x3 : Int32} {x4 : Int32} {x5 : Int32} {r0 : Nat} {r1 : Nat} {z : ow_MS} {Q : ow_MS → Prop} (H : Tt (fun K k => cm_X0i_0_b0 K (c_X0i_b0 K k) x2 x3 x4 x5 r0 r1 z) Q) : Tt (fun K k => c_X0i_b0 K k 0 x2 x3 x4 x5 r0 r1 z) Q := w_un (fun _ _ => rfl) H
theorem ti_b0 : Te (fun K => ce_X0i_b0 K 41000 53001 z) (fun z1 => ((∀ i, i < 576 → ∃ k, k < 24 ∧ z1.2.1 41006 i = nI k) ∧ ∀ i, i < 24 → ∃ k, k < 24 ∧ z1.2.1 41007 i = nI k) ∧ fr (fun g => g = 41006 ∨ g = 41007 ∨ g = 53001) z z1) := by
  let Q : ow_MS → Prop := fun z1 => ((∀ i, i < 576 → ∃ k, k < 24 ∧ z1.2.1 41006 i = nI k) ∧ ∀ i, i < 24 → ∃ k, k < 24 ∧ z1.2.1 41007 i = nI k) ∧ fr (fun g => g = 41006 ∨ g = 41007 ∨ g = 53001) z z1
  let I : Nat → Nat → ow_MS → Prop := fun m n y => (∀ i, i < m → ∃ k, k < 24 ∧ y.2.1 41006 i = nI k) ∧ (∀ i, i < n → ∃ k, k < 24 ∧ y.2.1 41007 i = nI k) ∧ fr (fun g => g = 41006 ∨ g = 41007 ∨ g = 53001) z y
  have c1 : ∀ (d m : Nat) (y : ow_MS), m + d = 24 → I (24 * m) m y → Tt (fun K t => c_X0i_b0 K t 1 (nI m) 0 0 0 41000 53001 y) Q := by
    intro d
    induction d with
    | zero =>
      intro m y hm hI
      have e : m = 24 := by omega
      subst e
      refine u_X0i_b0_1 ?_; unfold cm_X0i_1_b0
      exact w_leT (a := 24) (by omega) (by omega) (w_some ⟨⟨hI.1, hI.2.1⟩, hI.2.2⟩)
    | succ d ih =>
      intro m y hm hI
      have c2 : ∀ (e n : Nat) (y : ow_MS), n + e = 24 → I (24 * m + n) m y → Tt (fun K t => c_X0i_b0 K t 2 (nI m) (nI n) 0 0 41000 53001 y) Q := by
        intro e
        induction e with
        | zero =>
          intro n y hn hI
          have e : n = 24 := by omega
          subst e
          refine u_X0i_b0_2 ?_; unfold cm_X0i_2_b0
          refine w_leT (a := 24) (by omega) (by omega) (w_crI ch_0r rfl (show m < 24 by omega) rfl (w_cs1 ti_invert (fun v y1 e => ?_)))
          have e : y1 = y := e
          subst e
          refine w_cs1 ti_index (fun v y2 ⟨⟨k, k1, k2⟩, e⟩ => ?_)
          have e : y2 = y1 := e
          have k2 : v = nI k := k2
          rw [e, k2, nI_1]
          refine w_ctB ch_07 rfl (show m < 24 by omega) ?_
          rw [nar_24 ⟨k, k1⟩]
          refine ih (m + 1) _ (by omega) ⟨fun i hi => ?_, fun i hi => ?_, fr_I2 hI.2.2 (Or.inr (Or.inl rfl))⟩
          · obtain ⟨k', q1, q2⟩ := hI.1 i (by omega)
            exact ⟨k', q1, rd_ot (by omega) q2⟩
          · by_cases e9 : i = m
            · rw [e9]
              exact ⟨k, k1, po_usI_at⟩
            · obtain ⟨k', q1, q2⟩ := hI.2.1 i (by omega)
              exact ⟨k', q1, rd_ne e9 q2⟩
        | succ e ihe =>
          intro n y hn hI
          have c3 : ∀ (e5 q : Nat) (w : Int32), q + e5 = 4 → Tt (fun K t => c_X0i_b0 K t 3 (nI m) (nI n) w (nI q) 41000 53001 y) Q := by
            intro e5
            induction e5 with
            | zero =>
              intro q w hq
              refine u_X0i_b0_3 ?_; unfold cm_X0i_3_b0
              refine w_leT (a := 4) (by omega) (by omega) (w_cs1 ti_index (fun v y2 ⟨⟨k, k1, k2⟩, e⟩ => ?_))
              have e : y2 = y := e
              have k2 : v = nI k := k2
              rw [e, k2, nI_1, show (24 : Int32) * nI m = nI (24 * m) from pk_mul 24 m, nI_add]
              refine w_ctB ch_06 rfl (show 24 * m + n < 576 by omega) ?_
              rw [nar_24 ⟨k, k1⟩]
              refine ihe (n + 1) _ (by omega) ⟨fun i hi => ?_, fun i hi => ?_, fr_I2 hI.2.2 (Or.inl rfl)⟩
              · by_cases e9 : i = 24 * m + n
                · rw [e9]
                  exact ⟨k, k1, po_usI_at⟩
                · obtain ⟨k', q1, q2⟩ := hI.1 i (by omega)
                  exact ⟨k', q1, rd_ne e9 q2⟩
              · obtain ⟨k', q1, q2⟩ := hI.2.1 i hi
                exact ⟨k', q1, rd_ot (by omega) q2⟩
            | succ e5 ih5 =>
              intro q w hq
              refine u_X0i_b0_3 ?_; unfold cm_X0i_3_b0
              refine w_leF (a := 4) (by omega) (by omega) (w_crI ch_0r rfl (show m < 24 by omega) rfl (w_cs1 ti_image (fun v1 y1 e => ?_)))
              have e : y1 = y := e
              subst e
              refine w_crI ch_0r rfl (show m < 24 by omega) rfl (w_crI ch_0r rfl (show n < 24 by omega) rfl (w_cs1 ti_image (fun v2 y2 e => ?_)))
              have e : y2 = y1 := e
              subst e
              refine w_cs1 ti_image (fun v3 y3 e => ?_)
              have e : y3 = y2 := e
              subst e
              rw [nI_1]
              exact ih5 (q + 1) _ (by omega)
          refine u_X0i_b0_2 ?_; unfold cm_X0i_2_b0
          refine w_leF (a := 24) (by omega) (by omega) (c3 4 0 0 (by omega))
      refine u_X0i_b0_1 ?_; unfold cm_X0i_1_b0
      exact w_leF (a := 24) (by omega) (by omega) (c2 24 0 y (by omega) hI)
  refine e_X0i_b0 ?_
  refine u_X0i_b0_0 ?_; unfold cm_X0i_0_b0
  refine w_cs0 ti_perms (fun y hf => c1 24 0 y (by omega) ⟨fun i hi => absurd hi (Nat.not_lt_zero _), fun i hi => absurd hi (Nat.not_lt_zero _), fr_mono (fun g hg => Or.inr (Or.inr hg)) hf⟩)
end XJ0
end
section
/-! 99zzzzzzzzzzzzl.xini3 -/
/-! the states that both constructors leave are related -/
/-- all that the class's calls ask of its state, besides what is related -/
def CI (vl : Nat → Nat) (y : ow_MS) : Prop := knC y ∧ jnC y ∧ bnC y ∧ mpC y ∧ stP y ∧ tbP y ∧ chP y ∧ ∃ W C, vI vl W C
/-- the whole relation -/
def REL (S : ow_LwS) : Prop := rel3 XR S.2.2 S.2.1 ∧ CI S.1 S.2.1 ∧ jnR S.2.2
def spc (g : Nat) : Prop := 39001 ≤ g ∧ g < 39025 ∨ g = 41006 ∨ g = 41007 ∨ g = 43005 ∨ 45001 ≤ g ∧ g < 45012
theorem bl8_i (b : Nat) : bl8.contains b = true ↔ 24 ≤ b ∧ b ≤ 40 := by
  unfold bl8
  simp only [List.contains_cons, List.contains_nil, Bool.or_false, Bool.or_eq_true, beq_iff_eq]
  omega
theorem bl0_i (b : Nat) : bl0.contains b = true ↔ 41 ≤ b ∧ b ≤ 42 := by
  unfold bl0
  simp only [List.contains_cons, List.contains_nil, Bool.or_false, Bool.or_eq_true, beq_iff_eq]
  omega
theorem bl1_i (b : Nat) : bl1.contains b = true ↔ 43 ≤ b ∧ b ≤ 45 := by
  unfold bl1
  simp only [List.contains_cons, List.contains_nil, Bool.or_false, Bool.or_eq_true, beq_iff_eq]
  omega
section XZ
variable {z8 z0 z1 : ow_MS}
theorem Zj_8 {g : Nat} (h1 : 24 ≤ g / 1000) (h2 : g / 1000 ≤ 40) : (Zc z8 z0 z1).1 g = z8.1 g ∧ (Zc z8 z0 z1).2.1 g = z8.2.1 g := by
  have e := (bl8_i (g / 1000)).mpr ⟨h1, h2⟩
  exact ⟨if_pos e, if_pos e⟩
theorem Zc_z {g : Nat} (h1 : 41 ≤ g / 1000) (h2 : g / 1000 ≤ 42) : (Zc z8 z0 z1).1 g = z0.1 g ∧ (Zc z8 z0 z1).2.1 g = z0.2.1 g := by
  have e := (bl0_i (g / 1000)).mpr ⟨h1, h2⟩
  have n8 : ¬ bl8.contains (g / 1000) = true := fun h9 => by have := (bl8_i _).mp h9; omega
  exact ⟨(if_neg n8).trans (if_pos e), (if_neg n8).trans (if_pos e)⟩
theorem Zj_1 {g : Nat} (h1 : 43 ≤ g / 1000) (h2 : g / 1000 ≤ 45) : (Zc z8 z0 z1).1 g = z1.1 g ∧ (Zc z8 z0 z1).2.1 g = z1.2.1 g := by
  have e := (bl1_i (g / 1000)).mpr ⟨h1, h2⟩
  have n8 : ¬ bl8.contains (g / 1000) = true := fun h9 => by have := (bl8_i _).mp h9; omega
  have n0 : ¬ bl0.contains (g / 1000) = true := fun h9 => by have := (bl0_i _).mp h9; omega
  exact ⟨((if_neg n8).trans (if_neg n0)).trans (if_pos e), ((if_neg n8).trans (if_neg n0)).trans (if_pos e)⟩
theorem Zc_n {g : Nat} (h : g / 1000 < 24 ∨ 45 < g / 1000) : (Zc z8 z0 z1).1 g = 0 ∧ (Zc z8 z0 z1).2.1 g = fun _ => 0 := by
  have n8 : ¬ bl8.contains (g / 1000) = true := fun h9 => by have := (bl8_i _).mp h9; omega
  have n0 : ¬ bl0.contains (g / 1000) = true := fun h9 => by have := (bl0_i _).mp h9; omega
  have n1 : ¬ bl1.contains (g / 1000) = true := fun h9 => by have := (bl1_i _).mp h9; omega
  exact ⟨((if_neg n8).trans (if_neg n0)).trans (if_neg n1), ((if_neg n8).trans (if_neg n0)).trans (if_neg n1)⟩
end XZ
section XZ2
variable {y : ow_MS}
theorem tbO_nil {g p : Nat} (h5 : y.1 (g + 5) = 0) (hb : byR y (g + 1)) : tbO y g p [] [] := ⟨⟨h5, rfl, fun s C h => (by rw [List.getElem?_nil] at h; cases h), fun k s h => (by rw [List.getElem?_nil] at h; cases h)⟩, fun i j hij hj => absurd hj (Nat.not_lt_zero _), fun C hC => absurd hC List.not_mem_nil, Nat.zero_le _, hb⟩
theorem by_0 {g : Nat} (h : ∀ i, y.2.1 g i = 0) : byR y g := fun i => by
  rw [h i]
  rfl
theorem cOK_0 : cOK (0, []) := by
  unfold cOK
  simp
/-- a state of noughts -/
theorem gM_0 (h : ∀ g, ¬ spc g → y.1 g = 0 ∧ ∀ i, y.2.1 g i = 0) : gM y := by
  have n : ∀ g, g < 39001 ∨ 45012 ≤ g → ¬ spc g := fun g hg h9 => by unfold spc at h9; omega
  have b : ∀ g, g < 39001 ∨ 45012 ≤ g → byR y g := fun g hg => by_0 (h g (n g hg)).2
  refine ⟨⟨⟨b 1001 (by omega), fun d hd => Or.inl ⟨0, by omega, (h 1003 (n _ (by omega))).2 d, (h 1002 (n _ (by omega))).2 d, fun i a hi => by rw [List.getElem?_nil] at hi; cases hi⟩⟩, fun g hg => ?_, fun k hk => ?_⟩, ⟨[], [], tbO_nil (h 2005 (n _ (by omega))).1 (b 2001 (by omega))⟩, ⟨[], [], tbO_nil (h 3005 (n _ (by omega))).1 (b 3001 (by omega))⟩, b 13001 (by omega), b 14001 (by omega), b 15001 (by omega)⟩
  · have key : ∀ g, g ∈ nHL → ¬ spc (g + 8) ∧ ¬ spc (g + 9) ∧ ¬ spc (g + 1) ∧ ¬ spc (g + 2) ∧ ¬ spc (g + 3) := by
      unfold spc nHL
      decide
    obtain ⟨k1, k2, k3, k4, k5⟩ := key g hg
    exact ⟨(0, 0, (fun _ => 0, fun _ => 0), fun _ => 0), ⟨(h _ k1).1, (h _ k2).1, fun v => (h _ k3).2 v, fun v => (h _ k4).2 v, fun v => (h _ k5).2 v⟩, fun _ => by show 0 < 24; omega, fun _ => by show 0 < 24; omega⟩
  · rcases hk with rfl | rfl
    · exact ⟨b 8001 (by omega), b 9001 (by omega), b 10001 (by omega)⟩
    · exact ⟨b 21001 (by omega), b 22001 (by omega), b 23001 (by omega)⟩
end XZ2
section XZ3
variable {z : ow_MS}
theorem ref_init2 : ∃ m1 m2, (∃ b, ∀ K, b ≤ K → qe_X13_makeSimples_a K Z13 = some m1) ∧ (∃ b, ∀ K, b ≤ K → qe_X13_makePermutations_a K m1 = some m2) ∧ gI XR (usZ m2 blM) ∧ (∀ g, g < 73 → (usZ m2 blM).1 g = 0) ∧ ∀ g i, ¬ (73 ≤ g ∧ g ≤ 76 ∨ 97 ≤ g ∧ g ≤ 107) → (usZ m2 blM).2.1 g i = 0 := by
  have h1 : ∀ g, Z13.1 g = 0 := fun _ => rfl
  have h2 : ∀ g i, g ≠ 73 → Z13.2.1 g i = 0 := fun g i hg => by
    show (if g = 73 then fT13 else fun _ => 0) i = 0
    rw [if_neg hg]
  have h73 : ∀ m, m ≤ 4 → Z13.2.1 73 m = nI (thM m) := by
    intro m hm
    have key : ∀ m : Fin 5, fT13 m.val = nI (thM m.val) := by decide +kernel
    exact key ⟨m, by omega⟩
  obtain ⟨m1, m2, e1, e2, hg⟩ := ref_init (z := Z13) h1 h2 h73
  obtain ⟨r1, ⟨b1, hb1⟩, hD, hf1⟩ := tp_makeSimples_a (z := Z13) (fun n _ => h2 100 _ (by omega))
  have er1 : r1 = m1 := by
    obtain ⟨b, hb⟩ := e1
    have q1 := hb (b + b1) (by omega)
    have q2 := hb1 (b + b1) (by omega)
    exact Option.some.inj (q2.symm.trans q1)
  subst er1
  have pa : ∀ g, ¬ (97 ≤ g ∧ g ≤ 107) → ¬ pA g := fun g hg h => hg h
  have m1I : ∀ g i, ¬ (97 ≤ g ∧ g ≤ 107) → g ≠ 73 → r1.2.1 g i = 0 := fun g i hg h9 => by
    rw [(hf1 g (pa g hg)).2.1]
    exact h2 g i h9
  obtain ⟨r2, ⟨b2, hb2⟩, hJ, hf2⟩ := tp_perms_a (z := r1) ⟨fun i => ⟨0, by omega, m1I 74 i (by omega) (by omega)⟩, fun m g1 g4 o p ho hp => ⟨⟨0, by omega, m1I 75 _ (by omega) (by omega)⟩, 0, by omega, m1I 76 _ (by omega) (by omega)⟩⟩
  have er2 : r2 = m2 := by
    obtain ⟨b, hb⟩ := e2
    have q1 := hb (b + b2) (by omega)
    have q2 := hb2 (b + b2) (by omega)
    exact Option.some.inj (q2.symm.trans q1)
  subst er2
  have pp : ∀ g, ¬ (74 ≤ g ∧ g ≤ 76) → ¬ pmP g := fun g hg h => by unfold pmP at h; omega
  refine ⟨r1, r2, e1, e2, hg, fun g hg => ?_, fun g i hg => ?_⟩
  · show (if _ then 0 else r2.1 g) = 0
    split
    · rfl
    · rw [(hf2 g (pp g (by omega))).1, (hf1 g (pa g (by omega))).1]
      exact h1 g
  · show (if _ then (fun _ => 0) else r2.2.1 g) i = 0
    split
    · rfl
    · rw [(hf2 g (pp g (by omega))).2.1]
      exact m1I g i (by omega) (by omega)
end XZ3
end
section
/-! 99zzzzzzzzzzzzma.foc0 -/
/-! which handles a method of the class may change, read off its text -/
section FOC
variable {O α : Type} {st : O → ow_MS} {P P' : Nat → Prop} {z0 z : ow_MS} {h g : Nat} {i j x k : Int32} {y : Int64} {X : ow_Tb}
theorem fc_crI {f : Int32 → Option O} (H : ∀ v, Fo st P z0 (f v)) : Fo st P z0 (crI X z h i f) := fo_if fo_none (H _)
theorem fc_crJ {f : Int64 → Option O} (H : ∀ v, Fo st P z0 (f v)) : Fo st P z0 (crJ X z h i f) := fo_if fo_none (H _)
theorem fc_ctI {f : ow_MS → Option O} (hP : P h) (hz : fr P z0 z) (H : ∀ z1, fr P z0 z1 → Fo st P z0 (f z1)) : Fo st P z0 (ctI X z h i x f) := fo_if fo_none (H _ (fr_I2 hz hP))
theorem fc_ctB {f : ow_MS → Option O} (hP : P h) (hz : fr P z0 z) (H : ∀ z1, fr P z0 z1 → Fo st P z0 (f z1)) : Fo st P z0 (ctB X z h i x f) := fo_if fo_none (H _ (fr_I2 hz hP))
theorem fc_ctJ {f : ow_MS → Option O} (hP : P h) (hz : fr P z0 z) (H : ∀ z1, fr P z0 z1 → Fo st P z0 (f z1)) : Fo st P z0 (ctJ X z h i y f) := fo_if fo_none (H _ (fr_J2 hz hP))
theorem fr_usR {f : Nat → Int32} (hP : P g) (hz : fr P z0 z) : fr P z0 (usR z g f) := fun q hq => by
  obtain ⟨a1, a2, a3⟩ := hz q hq
  refine ⟨a1, ?_, a3⟩
  show (if q = g then f else z.2.1 q) = _
  rw [if_neg (fun e => hq (by rw [e]; exact hP))]
  exact a2
theorem fc_cpI {f : ow_MS → Option O} (hP : P g) (hz : fr P z0 z) (H : ∀ z1, fr P z0 z1 → Fo st P z0 (f z1)) : Fo st P z0 (cpI X z h i g j k f) := fo_if fo_none (H _ (fr_usR hP hz))
theorem fc_cpB {f : ow_MS → Option O} (hP : P g) (hz : fr P z0 z) (H : ∀ z1, fr P z0 z1 → Fo st P z0 (f z1)) : Fo st P z0 (cpB X z h i g j k f) := fo_if (fc_cpI hP hz H) fo_none
theorem fc_tc0 {o : Option (Nat × ow_MS)} {E : Nat → ow_MS → Option O} {f : ow_MS → Option O} (hc : Fo Prod.snd P' z o) (hs : ∀ g, P' g → P g) (hz : fr P z0 z) (HE : ∀ k z1, fr P z0 z1 → Fo st P z0 (E k z1)) (H : ∀ z1, fr P z0 z1 → Fo st P z0 (f z1)) : Fo st P z0 (tc0 o E f) := by
  cases o with
  | none => exact fo_none
  | some r =>
    have h9 := fr_tr hz (fr_mono hs (hc r rfl))
    exact fo_if (H _ h9) (HE _ _ h9)
theorem fc_tc1 {o : Option (Nat × α × ow_MS)} {E : Nat → ow_MS → Option O} {f : α → ow_MS → Option O} (hc : Fo (fun r => r.2.2) P' z o) (hs : ∀ g, P' g → P g) (hz : fr P z0 z) (HE : ∀ k z1, fr P z0 z1 → Fo st P z0 (E k z1)) (H : ∀ a z1, fr P z0 z1 → Fo st P z0 (f a z1)) : Fo st P z0 (tc1 o E f) := by
  cases o with
  | none => exact fo_none
  | some r =>
    have h9 := fr_tr hz (fr_mono hs (hc r rfl))
    exact fo_if (H _ _ h9) (HE _ _ h9)
end FOC
theorem fb_X9_take_0 {K : Nat} {vl : Nat → Nat} {z0 z : ow_MS} {pr0 : Nat} {go : Nat → Int32 → Int32 → Nat → ow_MS → Option ow_MS} {x1 : Int32} {x2 : Int32} {r0 : Nat} (hgo : ∀ (L : Nat) (x1 : Int32) (x2 : Int32) (r0 : Nat) (z : ow_MS), fr (fun g => pr0 + 1 ≤ g ∧ g ≤ pr0 + 2) z0 z → (L = 0 ∨ L = 1 → r0 = pr0) → Fo id (fun g => pr0 + 1 ≤ g ∧ g ≤ pr0 + 2) z0 (go L x1 x2 r0 z)) (hz : fr (fun g => pr0 + 1 ≤ g ∧ g ≤ pr0 + 2) z0 z) (e_r0 : r0 = pr0) : Fo id (fun g => pr0 + 1 ≤ g ∧ g ≤ pr0 + 2) z0 (cm_X9_take_0 vl K go x1 x2 r0 z) := by
  unfold cm_X9_take_0
  exact (hgo 1 _ _ _ z hz (fun _ => by omega))
theorem fb_X9_take_1 {K : Nat} {vl : Nat → Nat} {z0 z : ow_MS} {pr0 : Nat} {go : Nat → Int32 → Int32 → Nat → ow_MS → Option ow_MS} {x1 : Int32} {x2 : Int32} {r0 : Nat} (hgo : ∀ (L : Nat) (x1 : Int32) (x2 : Int32) (r0 : Nat) (z : ow_MS), fr (fun g => pr0 + 1 ≤ g ∧ g ≤ pr0 + 2) z0 z → (L = 0 ∨ L = 1 → r0 = pr0) → Fo id (fun g => pr0 + 1 ≤ g ∧ g ≤ pr0 + 2) z0 (go L x1 x2 r0 z)) (hz : fr (fun g => pr0 + 1 ≤ g ∧ g ≤ pr0 + 2) z0 z) (e_r0 : r0 = pr0) : Fo id (fun g => pr0 + 1 ≤ g ∧ g ≤ pr0 + 2) z0 (cm_X9_take_1 vl K go x1 x2 r0 z) := by
  unfold cm_X9_take_1
  exact (fo_if (fo_some hz) (fo_rdF (fun v1 => (fo_if (fo_some hz) (fo_rdF (fun v2 => (fc_ctB (by omega) hz (fun z3 h_z3 => (fo_rdF (fun v4 => (fo_wrF (by omega) h_z3 (fun z5 h_z5 => (hgo 1 _ _ _ z5 h_z5 (fun _ => by omega))))))))))))))
theorem fq_X9_take {K : Nat} {vl : Nat → Nat} {z0 : ow_MS} {pr0 : Nat} : ∀ (k L : Nat) (x1 : Int32) (x2 : Int32) (r0 : Nat) (z : ow_MS), fr (fun g => pr0 + 1 ≤ g ∧ g ≤ pr0 + 2) z0 z → (L = 0 ∨ L = 1 → r0 = pr0) → Fo id (fun g => pr0 + 1 ≤ g ∧ g ≤ pr0 + 2) z0 (c_X9_take vl K k L x1 x2 r0 z)
  | 0 => by
    intros
    exact fo_none
  | k + 1 => by
    intro L x1 x2 r0 z hz h9_r0
    show Fo id (fun g => pr0 + 1 ≤ g ∧ g ≤ pr0 + 2) z0 (cb_X9_take vl K (c_X9_take vl K k) L x1 x2 r0 z)
    unfold cb_X9_take
    split
    · exact fb_X9_take_0 (fq_X9_take k) hz (h9_r0 (by decide))
    · exact fb_X9_take_1 (fq_X9_take k) hz (h9_r0 (by decide))
    · exact fo_none
theorem ff_X9_take {vl : Nat → Nat} {K : Nat} {r0 : Nat} {x1 : Int32} {z : ow_MS} : Fo id (fun g => r0 + 1 ≤ g ∧ g ≤ r0 + 2) z (ce_X9_take vl K r0 x1 z) := fq_X9_take (pr0 := r0) K 0 _ _ _ z fr_rf (fun _ => rfl)
theorem ff_X11_feed {vl : Nat → Nat} {K : Nat} {r0 : Nat} {x1 : Int32} {x2 : Int32} {x3 : Int32} {x4 : Int32} {x5 : Int32} {z : ow_MS} : Fo (fun r => r.2.2) (fun g => r0 + 11001 ≤ g ∧ g ≤ r0 + 11002) z (ce_X11_feed vl K r0 x1 x2 x3 x4 x5 z) := by
  unfold ce_X11_feed cm_X11_feed_0
  exact (fo_rdF (fun v1 => (fo_if (fo_cs0 ff_X9_take (fun g hg => by omega) fr_rf (fun z2 h_z2 => (fo_cs0 ff_X9_take (fun g hg => by omega) h_z2 (fun z3 h_z3 => (fo_cs0 ff_X9_take (fun g hg => by omega) h_z3 (fun z4 h_z4 => (fo_cs0 ff_X9_take (fun g hg => by omega) h_z4 (fun z5 h_z5 => (fo_cs0 ff_X9_take (fun g hg => by omega) h_z5 (fun z6 h_z6 => (fo_rdF (fun v7 => (fo_some h_z6))))))))))))) (fo_some fr_rf))))
theorem ff_X11_end {vl : Nat → Nat} {K : Nat} {r0 : Nat} {x1 : Int32} {z : ow_MS} : Fo Prod.snd (fun g => g = r0 + 11001) z (ce_X11_end vl K r0 x1 z) := by
  unfold ce_X11_end cm_X11_end_0
  exact (fo_if (fo_some fr_rf) (fo_rdF (fun v1 => (fo_if (fo_wrF (by omega) fr_rf (fun z2 h_z2 => (fo_some h_z2))) (fo_some fr_rf)))))
theorem fb_X11_freeDiagram_0 {K : Nat} {vl : Nat → Nat} {z0 z : ow_MS} {pr0 : Nat} {go : Nat → Int32 → Nat → ow_MS → Option (Nat × Int32 × ow_MS)} {x1 : Int32} {r0 : Nat} (hgo : ∀ (L : Nat) (x1 : Int32) (r0 : Nat) (z : ow_MS), fr (fun _ => False) z0 z → (L = 0 ∨ L = 1 → r0 = pr0) → Fo (fun r => r.2.2) (fun _ => False) z0 (go L x1 r0 z)) (hz : fr (fun _ => False) z0 z) (e_r0 : r0 = pr0) : Fo (fun r => r.2.2) (fun _ => False) z0 (cm_X11_freeDiagram_0 vl K go x1 r0 z) := by
  unfold cm_X11_freeDiagram_0
  exact (hgo 1 _ _ z hz (fun _ => by omega))
theorem fb_X11_freeDiagram_1 {K : Nat} {vl : Nat → Nat} {z0 z : ow_MS} {pr0 : Nat} {go : Nat → Int32 → Nat → ow_MS → Option (Nat × Int32 × ow_MS)} {x1 : Int32} {r0 : Nat} (hgo : ∀ (L : Nat) (x1 : Int32) (r0 : Nat) (z : ow_MS), fr (fun _ => False) z0 z → (L = 0 ∨ L = 1 → r0 = pr0) → Fo (fun r => r.2.2) (fun _ => False) z0 (go L x1 r0 z)) (hz : fr (fun _ => False) z0 z) (e_r0 : r0 = pr0) : Fo (fun r => r.2.2) (fun _ => False) z0 (cm_X11_freeDiagram_1 vl K go x1 r0 z) := by
  unfold cm_X11_freeDiagram_1
  exact (fo_if (fo_some hz) (fc_crI (fun v1 => (fo_if (fo_some hz) (hgo 1 _ _ z hz (fun _ => by omega))))))
theorem fq_X11_freeDiagram {K : Nat} {vl : Nat → Nat} {z0 : ow_MS} {pr0 : Nat} : ∀ (k L : Nat) (x1 : Int32) (r0 : Nat) (z : ow_MS), fr (fun _ => False) z0 z → (L = 0 ∨ L = 1 → r0 = pr0) → Fo (fun r => r.2.2) (fun _ => False) z0 (c_X11_freeDiagram vl K k L x1 r0 z)
  | 0 => by
    intros
    exact fo_none
  | k + 1 => by
    intro L x1 r0 z hz h9_r0
    show Fo (fun r => r.2.2) (fun _ => False) z0 (cb_X11_freeDiagram vl K (c_X11_freeDiagram vl K k) L x1 r0 z)
    unfold cb_X11_freeDiagram
    split
    · exact fb_X11_freeDiagram_0 (fq_X11_freeDiagram k) hz (h9_r0 (by decide))
    · exact fb_X11_freeDiagram_1 (fq_X11_freeDiagram k) hz (h9_r0 (by decide))
    · exact fo_none
theorem ff_X11_freeDiagram {vl : Nat → Nat} {K : Nat} {r0 : Nat} {z : ow_MS} : Fo (fun r => r.2.2) (fun _ => False) z (ce_X11_freeDiagram vl K r0 z) := fq_X11_freeDiagram (pr0 := r0) K 0 _ _ z fr_rf (fun _ => rfl)
theorem fb_J7_fill_53178_0 {K : Nat} {vl : Nat → Nat} {z0 z : ow_MS} {pr0 : Nat} {go : Nat → Int32 → Int32 → Int32 → Nat → ow_MS → Option ow_MS} {x1 : Int32} {x2 : Int32} {x3 : Int32} {r0 : Nat} (hgo : ∀ (L : Nat) (x1 : Int32) (x2 : Int32) (x3 : Int32) (r0 : Nat) (z : ow_MS), fr (fun g => g = pr0) z0 z → (L = 0 ∨ L = 1 → r0 = pr0) → Fo id (fun g => g = pr0) z0 (go L x1 x2 x3 r0 z)) (hz : fr (fun g => g = pr0) z0 z) (e_r0 : r0 = pr0) : Fo id (fun g => g = pr0) z0 (cm_J7_fill_53178_0 vl K go x1 x2 x3 r0 z) := by
  unfold cm_J7_fill_53178_0
  exact (hgo 1 _ _ _ _ z hz (fun _ => by omega))
theorem fb_J7_fill_53178_1 {K : Nat} {vl : Nat → Nat} {z0 z : ow_MS} {pr0 : Nat} {go : Nat → Int32 → Int32 → Int32 → Nat → ow_MS → Option ow_MS} {x1 : Int32} {x2 : Int32} {x3 : Int32} {r0 : Nat} (hgo : ∀ (L : Nat) (x1 : Int32) (x2 : Int32) (x3 : Int32) (r0 : Nat) (z : ow_MS), fr (fun g => g = pr0) z0 z → (L = 0 ∨ L = 1 → r0 = pr0) → Fo id (fun g => g = pr0) z0 (go L x1 x2 x3 r0 z)) (hz : fr (fun g => g = pr0) z0 z) (e_r0 : r0 = pr0) : Fo id (fun g => g = pr0) z0 (cm_J7_fill_53178_1 vl K go x1 x2 x3 r0 z) := by
  unfold cm_J7_fill_53178_1
  exact (fo_if (fo_some hz) (fc_ctI (by omega) hz (fun z1 h_z1 => (hgo 1 _ _ _ _ z1 h_z1 (fun _ => by omega)))))
theorem fq_J7_fill_53178 {K : Nat} {vl : Nat → Nat} {z0 : ow_MS} {pr0 : Nat} : ∀ (k L : Nat) (x1 : Int32) (x2 : Int32) (x3 : Int32) (r0 : Nat) (z : ow_MS), fr (fun g => g = pr0) z0 z → (L = 0 ∨ L = 1 → r0 = pr0) → Fo id (fun g => g = pr0) z0 (c_J7_fill_53178 vl K k L x1 x2 x3 r0 z)
  | 0 => by
    intros
    exact fo_none
  | k + 1 => by
    intro L x1 x2 x3 r0 z hz h9_r0
    show Fo id (fun g => g = pr0) z0 (cb_J7_fill_53178 vl K (c_J7_fill_53178 vl K k) L x1 x2 x3 r0 z)
    unfold cb_J7_fill_53178
    split
    · exact fb_J7_fill_53178_0 (fq_J7_fill_53178 k) hz (h9_r0 (by decide))
    · exact fb_J7_fill_53178_1 (fq_J7_fill_53178 k) hz (h9_r0 (by decide))
    · exact fo_none
theorem ff_J7_fill_53178 {vl : Nat → Nat} {K : Nat} {r0 : Nat} {x1 : Int32} {z : ow_MS} : Fo id (fun g => g = r0) z (ce_J7_fill_53178 vl K r0 x1 z) := fq_J7_fill_53178 (pr0 := r0) K 0 _ _ _ _ z fr_rf (fun _ => rfl)
theorem ff_X7_empty {vl : Nat → Nat} {K : Nat} {r0 : Nat} {z : ow_MS} : Fo id (fun g => r0 + 8 ≤ g ∧ g ≤ r0 + 9) z (ce_X7_empty vl K r0 z) := by
  unfold ce_X7_empty cm_X7_empty_0
  exact (fo_wrF (by omega) fr_rf (fun z1 h_z1 => (fo_wrF (by omega) h_z1 (fun z2 h_z2 => (fo_some h_z2)))))
theorem ff_X7_link {vl : Nat → Nat} {K : Nat} {r0 : Nat} {x1 : Int32} {x2 : Int32} {z : ow_MS} : Fo id (fun g => r0 + 1 ≤ g ∧ g ≤ r0 + 2) z (ce_X7_link vl K r0 x1 x2 z) := by
  unfold ce_X7_link cm_X7_link_0
  exact (fc_ctI (by omega) fr_rf (fun z1 h_z1 => (fc_ctI (by omega) h_z1 (fun z2 h_z2 => (fo_some h_z2)))))
theorem ff_X9_finish {vl : Nat → Nat} {K : Nat} {r0 : Nat} {x1 : Int32} {x2 : Int32} {z : ow_MS} : Fo id (fun g => r0 + 1 ≤ g ∧ g ≤ r0 + 9) z (ce_X9_finish vl K r0 x1 x2 z) := by
  unfold ce_X9_finish cm_X9_finish_0
  exact (fo_if (fo_rdF (fun v2 => (fo_wrF (by omega) fr_rf (fun z3 h_z3 => (fo_some h_z3))))) (fo_cs0 ff_X7_link (fun g hg => by omega) fr_rf (fun z1 h_z1 => (fo_some h_z1))))
theorem fb_X9_readVisit_0 {K : Nat} {vl : Nat → Nat} {z0 z : ow_MS} {pr0 : Nat} {go : Nat → Nat → ow_MS → Option (Int32 × ow_MS)} {r0 : Nat} (hgo : ∀ (L : Nat) (r0 : Nat) (z : ow_MS), fr (fun g => pr0 + 5 ≤ g ∧ g ≤ pr0 + 6) z0 z → (L = 0 ∨ L = 1 ∨ L = 2 ∨ L = 3 ∨ L = 4 ∨ L = 5 → r0 = pr0) → Fo Prod.snd (fun g => pr0 + 5 ≤ g ∧ g ≤ pr0 + 6) z0 (go L r0 z)) (hz : fr (fun g => pr0 + 5 ≤ g ∧ g ≤ pr0 + 6) z0 z) (e_r0 : r0 = pr0) : Fo Prod.snd (fun g => pr0 + 5 ≤ g ∧ g ≤ pr0 + 6) z0 (cm_X9_readVisit_0 vl K go r0 z) := by
  unfold cm_X9_readVisit_0
  exact (fo_rdF (fun v1 => (fc_crI (fun v2 => (fo_if (hgo 1 _ z hz (fun _ => by omega)) (fo_rdF (fun v3 => (fc_crI (fun v4 => (fo_if (hgo 1 _ z hz (fun _ => by omega)) (fo_rdF (fun v5 => (fo_some hz)))))))))))))
theorem fb_X9_readVisit_1 {K : Nat} {vl : Nat → Nat} {z0 z : ow_MS} {pr0 : Nat} {go : Nat → Nat → ow_MS → Option (Int32 × ow_MS)} {r0 : Nat} (hgo : ∀ (L : Nat) (r0 : Nat) (z : ow_MS), fr (fun g => pr0 + 5 ≤ g ∧ g ≤ pr0 + 6) z0 z → (L = 0 ∨ L = 1 ∨ L = 2 ∨ L = 3 ∨ L = 4 ∨ L = 5 → r0 = pr0) → Fo Prod.snd (fun g => pr0 + 5 ≤ g ∧ g ≤ pr0 + 6) z0 (go L r0 z)) (hz : fr (fun g => pr0 + 5 ≤ g ∧ g ≤ pr0 + 6) z0 z) (e_r0 : r0 = pr0) : Fo Prod.snd (fun g => pr0 + 5 ≤ g ∧ g ≤ pr0 + 6) z0 (cm_X9_readVisit_1 vl K go r0 z) := by
  unfold cm_X9_readVisit_1
  exact (fo_rdF (fun v6 => (fo_wrF (by omega) hz (fun z7 h_z7 => (fo_rdF (fun v8 => (fo_rdF (fun v9 => (fo_if (hgo 2 _ z7 h_z7 (fun _ => by omega)) (fo_rdF (fun v10 => (fc_crI (fun v11 => (fo_if (hgo 2 _ z7 h_z7 (fun _ => by omega)) (fo_rdF (fun v12 => (fc_crI (fun v13 => (fo_if (fo_rdF (fun v14 => (fc_crI (fun v15 => (fo_wrF (by omega) h_z7 (fun z16 h_z16 => (fo_rdF (fun v17 => (fo_wrF (by omega) h_z16 (fun z18 h_z18 => (fo_rdF (fun v19 => (fo_rdF (fun v20 => (fo_if (hgo 3 _ z18 h_z18 (fun _ => by omega)) (fo_rdF (fun v21 => (fc_crI (fun v22 => (fo_if (hgo 3 _ z18 h_z18 (fun _ => by omega)) (fo_rdF (fun v23 => (fc_crI (fun v24 => (fo_if (hgo 3 _ z18 h_z18 (fun _ => by omega)) (fo_rdF (fun v25 => (fo_rdF (fun v26 => (fc_crI (fun v27 => (fo_wrF (by omega) h_z18 (fun z28 h_z28 => (fo_rdF (fun v29 => (fo_wrF (by omega) h_z28 (fun z30 h_z30 => (hgo 3 _ z30 h_z30 (fun _ => by omega))))))))))))))))))))))))))))))))))))))) (hgo 2 _ z7 h_z7 (fun _ => by omega)))))))))))))))))))))
theorem fb_X9_readVisit_2 {K : Nat} {vl : Nat → Nat} {z0 z : ow_MS} {pr0 : Nat} {go : Nat → Nat → ow_MS → Option (Int32 × ow_MS)} {r0 : Nat} (hgo : ∀ (L : Nat) (r0 : Nat) (z : ow_MS), fr (fun g => pr0 + 5 ≤ g ∧ g ≤ pr0 + 6) z0 z → (L = 0 ∨ L = 1 ∨ L = 2 ∨ L = 3 ∨ L = 4 ∨ L = 5 → r0 = pr0) → Fo Prod.snd (fun g => pr0 + 5 ≤ g ∧ g ≤ pr0 + 6) z0 (go L r0 z)) (hz : fr (fun g => pr0 + 5 ≤ g ∧ g ≤ pr0 + 6) z0 z) (e_r0 : r0 = pr0) : Fo Prod.snd (fun g => pr0 + 5 ≤ g ∧ g ≤ pr0 + 6) z0 (cm_X9_readVisit_2 vl K go r0 z) := by
  unfold cm_X9_readVisit_2
  exact (fo_rdF (fun v31 => (fo_some hz)))
theorem fb_X9_readVisit_3 {K : Nat} {vl : Nat → Nat} {z0 z : ow_MS} {pr0 : Nat} {go : Nat → Nat → ow_MS → Option (Int32 × ow_MS)} {r0 : Nat} (hgo : ∀ (L : Nat) (r0 : Nat) (z : ow_MS), fr (fun g => pr0 + 5 ≤ g ∧ g ≤ pr0 + 6) z0 z → (L = 0 ∨ L = 1 ∨ L = 2 ∨ L = 3 ∨ L = 4 ∨ L = 5 → r0 = pr0) → Fo Prod.snd (fun g => pr0 + 5 ≤ g ∧ g ≤ pr0 + 6) z0 (go L r0 z)) (hz : fr (fun g => pr0 + 5 ≤ g ∧ g ≤ pr0 + 6) z0 z) (e_r0 : r0 = pr0) : Fo Prod.snd (fun g => pr0 + 5 ≤ g ∧ g ≤ pr0 + 6) z0 (cm_X9_readVisit_3 vl K go r0 z) := by
  unfold cm_X9_readVisit_3
  exact (fo_rdF (fun v32 => (fo_rdF (fun v33 => (fo_if (hgo 4 _ z hz (fun _ => by omega)) (fo_rdF (fun v34 => (fc_crI (fun v35 => (fo_if (hgo 5 _ z hz (fun _ => by omega)) (fo_rdF (fun v36 => (fc_crI (fun v37 => (fo_if (hgo 5 _ z hz (fun _ => by omega)) (hgo 4 _ z hz (fun _ => by omega)))))))))))))))))
theorem fb_X9_readVisit_4 {K : Nat} {vl : Nat → Nat} {z0 z : ow_MS} {pr0 : Nat} {go : Nat → Nat → ow_MS → Option (Int32 × ow_MS)} {r0 : Nat} (hgo : ∀ (L : Nat) (r0 : Nat) (z : ow_MS), fr (fun g => pr0 + 5 ≤ g ∧ g ≤ pr0 + 6) z0 z → (L = 0 ∨ L = 1 ∨ L = 2 ∨ L = 3 ∨ L = 4 ∨ L = 5 → r0 = pr0) → Fo Prod.snd (fun g => pr0 + 5 ≤ g ∧ g ≤ pr0 + 6) z0 (go L r0 z)) (hz : fr (fun g => pr0 + 5 ≤ g ∧ g ≤ pr0 + 6) z0 z) (e_r0 : r0 = pr0) : Fo Prod.snd (fun g => pr0 + 5 ≤ g ∧ g ≤ pr0 + 6) z0 (cm_X9_readVisit_4 vl K go r0 z) := by
  unfold cm_X9_readVisit_4
  exact (fo_rdF (fun v38 => (fo_some hz)))
theorem fb_X9_readVisit_5 {K : Nat} {vl : Nat → Nat} {z0 z : ow_MS} {pr0 : Nat} {go : Nat → Nat → ow_MS → Option (Int32 × ow_MS)} {r0 : Nat} (hgo : ∀ (L : Nat) (r0 : Nat) (z : ow_MS), fr (fun g => pr0 + 5 ≤ g ∧ g ≤ pr0 + 6) z0 z → (L = 0 ∨ L = 1 ∨ L = 2 ∨ L = 3 ∨ L = 4 ∨ L = 5 → r0 = pr0) → Fo Prod.snd (fun g => pr0 + 5 ≤ g ∧ g ≤ pr0 + 6) z0 (go L r0 z)) (hz : fr (fun g => pr0 + 5 ≤ g ∧ g ≤ pr0 + 6) z0 z) (e_r0 : r0 = pr0) : Fo Prod.snd (fun g => pr0 + 5 ≤ g ∧ g ≤ pr0 + 6) z0 (cm_X9_readVisit_5 vl K go r0 z) := by
  unfold cm_X9_readVisit_5
  exact (fo_rdF (fun v39 => (fo_wrF (by omega) hz (fun z40 h_z40 => (fo_some h_z40)))))
theorem fq_X9_readVisit {K : Nat} {vl : Nat → Nat} {z0 : ow_MS} {pr0 : Nat} : ∀ (k L : Nat) (r0 : Nat) (z : ow_MS), fr (fun g => pr0 + 5 ≤ g ∧ g ≤ pr0 + 6) z0 z → (L = 0 ∨ L = 1 ∨ L = 2 ∨ L = 3 ∨ L = 4 ∨ L = 5 → r0 = pr0) → Fo Prod.snd (fun g => pr0 + 5 ≤ g ∧ g ≤ pr0 + 6) z0 (c_X9_readVisit vl K k L r0 z)
  | 0 => by
    intros
    exact fo_none
  | k + 1 => by
    intro L r0 z hz h9_r0
    show Fo Prod.snd (fun g => pr0 + 5 ≤ g ∧ g ≤ pr0 + 6) z0 (cb_X9_readVisit vl K (c_X9_readVisit vl K k) L r0 z)
    unfold cb_X9_readVisit
    split
    · exact fb_X9_readVisit_0 (fq_X9_readVisit k) hz (h9_r0 (by decide))
    · exact fb_X9_readVisit_1 (fq_X9_readVisit k) hz (h9_r0 (by decide))
    · exact fb_X9_readVisit_2 (fq_X9_readVisit k) hz (h9_r0 (by decide))
    · exact fb_X9_readVisit_3 (fq_X9_readVisit k) hz (h9_r0 (by decide))
    · exact fb_X9_readVisit_4 (fq_X9_readVisit k) hz (h9_r0 (by decide))
    · exact fb_X9_readVisit_5 (fq_X9_readVisit k) hz (h9_r0 (by decide))
    · exact fo_none
theorem ff_X9_readVisit {vl : Nat → Nat} {K : Nat} {r0 : Nat} {z : ow_MS} : Fo Prod.snd (fun g => r0 + 5 ≤ g ∧ g ≤ r0 + 6) z (ce_X9_readVisit vl K r0 z) := fq_X9_readVisit (pr0 := r0) K 0 _ z fr_rf (fun _ => rfl)
theorem fb_X9_enter_0 {K : Nat} {vl : Nat → Nat} {z0 z : ow_MS} {pr0 : Nat} {pr1 : Nat} {go : Nat → Int32 → Int32 → Int32 → Nat → Nat → Int32 → Int32 → ow_MS → Option (Int32 × ow_MS)} {x2 : Int32} {x3 : Int32} {x4 : Int32} {r0 : Nat} {r1 : Nat} {t0 : Int32} {t1 : Int32} (hgo : ∀ (L : Nat) (x2 : Int32) (x3 : Int32) (x4 : Int32) (r0 : Nat) (r1 : Nat) (t0 : Int32) (t1 : Int32) (z : ow_MS), fr (fun g => pr0 + 3 ≤ g ∧ g ≤ pr0 + 4 ∨ pr1 + 3 ≤ g ∧ g ≤ pr1 + 8) z0 z → (L = 0 ∨ L = 1 ∨ L = 2 ∨ L = 3 → r0 = pr0) → (L = 0 ∨ L = 1 ∨ L = 2 ∨ L = 3 → r1 = pr1) → Fo Prod.snd (fun g => pr0 + 3 ≤ g ∧ g ≤ pr0 + 4 ∨ pr1 + 3 ≤ g ∧ g ≤ pr1 + 8) z0 (go L x2 x3 x4 r0 r1 t0 t1 z)) (hz : fr (fun g => pr0 + 3 ≤ g ∧ g ≤ pr0 + 4 ∨ pr1 + 3 ≤ g ∧ g ≤ pr1 + 8) z0 z) (e_r0 : r0 = pr0) (e_r1 : r1 = pr1) : Fo Prod.snd (fun g => pr0 + 3 ≤ g ∧ g ≤ pr0 + 4 ∨ pr1 + 3 ≤ g ∧ g ≤ pr1 + 8) z0 (cm_X9_enter_0 vl K go x2 x3 x4 r0 r1 t0 t1 z) := by
  unfold cm_X9_enter_0
  exact (fo_rdF (fun v1 => (fc_crI (fun v2 => (fo_if (hgo 1 _ _ _ _ _ _ _ z hz (fun _ => by omega) (fun _ => by omega)) (hgo 1 _ _ _ _ _ _ _ z hz (fun _ => by omega) (fun _ => by omega)))))))
theorem fb_X9_enter_1 {K : Nat} {vl : Nat → Nat} {z0 z : ow_MS} {pr0 : Nat} {pr1 : Nat} {go : Nat → Int32 → Int32 → Int32 → Nat → Nat → Int32 → Int32 → ow_MS → Option (Int32 × ow_MS)} {x2 : Int32} {x3 : Int32} {x4 : Int32} {r0 : Nat} {r1 : Nat} {t0 : Int32} {t1 : Int32} (hgo : ∀ (L : Nat) (x2 : Int32) (x3 : Int32) (x4 : Int32) (r0 : Nat) (r1 : Nat) (t0 : Int32) (t1 : Int32) (z : ow_MS), fr (fun g => pr0 + 3 ≤ g ∧ g ≤ pr0 + 4 ∨ pr1 + 3 ≤ g ∧ g ≤ pr1 + 8) z0 z → (L = 0 ∨ L = 1 ∨ L = 2 ∨ L = 3 → r0 = pr0) → (L = 0 ∨ L = 1 ∨ L = 2 ∨ L = 3 → r1 = pr1) → Fo Prod.snd (fun g => pr0 + 3 ≤ g ∧ g ≤ pr0 + 4 ∨ pr1 + 3 ≤ g ∧ g ≤ pr1 + 8) z0 (go L x2 x3 x4 r0 r1 t0 t1 z)) (hz : fr (fun g => pr0 + 3 ≤ g ∧ g ≤ pr0 + 4 ∨ pr1 + 3 ≤ g ∧ g ≤ pr1 + 8) z0 z) (e_r0 : r0 = pr0) (e_r1 : r1 = pr1) : Fo Prod.snd (fun g => pr0 + 3 ≤ g ∧ g ≤ pr0 + 4 ∨ pr1 + 3 ≤ g ∧ g ≤ pr1 + 8) z0 (cm_X9_enter_1 vl K go x2 x3 x4 r0 r1 t0 t1 z) := by
  unfold cm_X9_enter_1
  exact (fo_rdF (fun v3 => (fc_crI (fun v4 => (fo_if (fo_rdF (fun v5 => (fo_if (fo_rdF (fun v6 => (fo_rdF (fun v7 => (fo_wrF (by omega) hz (fun z8 h_z8 => (fo_rdF (fun v9 => (fc_ctI (by omega) h_z8 (fun z10 h_z10 => (fc_ctI (by omega) h_z10 (fun z11 h_z11 => (hgo 2 _ _ _ _ _ _ _ z11 h_z11 (fun _ => by omega) (fun _ => by omega)))))))))))))) (fo_some hz)))) (hgo 2 _ _ _ _ _ _ _ z hz (fun _ => by omega) (fun _ => by omega)))))))
theorem fb_X9_enter_2 {K : Nat} {vl : Nat → Nat} {z0 z : ow_MS} {pr0 : Nat} {pr1 : Nat} {go : Nat → Int32 → Int32 → Int32 → Nat → Nat → Int32 → Int32 → ow_MS → Option (Int32 × ow_MS)} {x2 : Int32} {x3 : Int32} {x4 : Int32} {r0 : Nat} {r1 : Nat} {t0 : Int32} {t1 : Int32} (hgo : ∀ (L : Nat) (x2 : Int32) (x3 : Int32) (x4 : Int32) (r0 : Nat) (r1 : Nat) (t0 : Int32) (t1 : Int32) (z : ow_MS), fr (fun g => pr0 + 3 ≤ g ∧ g ≤ pr0 + 4 ∨ pr1 + 3 ≤ g ∧ g ≤ pr1 + 8) z0 z → (L = 0 ∨ L = 1 ∨ L = 2 ∨ L = 3 → r0 = pr0) → (L = 0 ∨ L = 1 ∨ L = 2 ∨ L = 3 → r1 = pr1) → Fo Prod.snd (fun g => pr0 + 3 ≤ g ∧ g ≤ pr0 + 4 ∨ pr1 + 3 ≤ g ∧ g ≤ pr1 + 8) z0 (go L x2 x3 x4 r0 r1 t0 t1 z)) (hz : fr (fun g => pr0 + 3 ≤ g ∧ g ≤ pr0 + 4 ∨ pr1 + 3 ≤ g ∧ g ≤ pr1 + 8) z0 z) (e_r0 : r0 = pr0) (e_r1 : r1 = pr1) : Fo Prod.snd (fun g => pr0 + 3 ≤ g ∧ g ≤ pr0 + 4 ∨ pr1 + 3 ≤ g ∧ g ≤ pr1 + 8) z0 (cm_X9_enter_2 vl K go x2 x3 x4 r0 r1 t0 t1 z) := by
  unfold cm_X9_enter_2
  exact (fc_crI (fun v12 => (fo_if (hgo 3 _ _ _ _ _ _ _ z hz (fun _ => by omega) (fun _ => by omega)) (hgo 3 _ _ _ _ _ _ _ z hz (fun _ => by omega) (fun _ => by omega)))))
theorem fb_X9_enter_3 {K : Nat} {vl : Nat → Nat} {z0 z : ow_MS} {pr0 : Nat} {pr1 : Nat} {go : Nat → Int32 → Int32 → Int32 → Nat → Nat → Int32 → Int32 → ow_MS → Option (Int32 × ow_MS)} {x2 : Int32} {x3 : Int32} {x4 : Int32} {r0 : Nat} {r1 : Nat} {t0 : Int32} {t1 : Int32} (hgo : ∀ (L : Nat) (x2 : Int32) (x3 : Int32) (x4 : Int32) (r0 : Nat) (r1 : Nat) (t0 : Int32) (t1 : Int32) (z : ow_MS), fr (fun g => pr0 + 3 ≤ g ∧ g ≤ pr0 + 4 ∨ pr1 + 3 ≤ g ∧ g ≤ pr1 + 8) z0 z → (L = 0 ∨ L = 1 ∨ L = 2 ∨ L = 3 → r0 = pr0) → (L = 0 ∨ L = 1 ∨ L = 2 ∨ L = 3 → r1 = pr1) → Fo Prod.snd (fun g => pr0 + 3 ≤ g ∧ g ≤ pr0 + 4 ∨ pr1 + 3 ≤ g ∧ g ≤ pr1 + 8) z0 (go L x2 x3 x4 r0 r1 t0 t1 z)) (hz : fr (fun g => pr0 + 3 ≤ g ∧ g ≤ pr0 + 4 ∨ pr1 + 3 ≤ g ∧ g ≤ pr1 + 8) z0 z) (e_r0 : r0 = pr0) (e_r1 : r1 = pr1) : Fo Prod.snd (fun g => pr0 + 3 ≤ g ∧ g ≤ pr0 + 4 ∨ pr1 + 3 ≤ g ∧ g ≤ pr1 + 8) z0 (cm_X9_enter_3 vl K go x2 x3 x4 r0 r1 t0 t1 z) := by
  unfold cm_X9_enter_3
  exact (fc_crI (fun v13 => (fo_if (fc_crI (fun v14 => (fo_if (fc_ctI (by omega) hz (fun z15 h_z15 => (fo_some h_z15))) (fo_some hz)))) (fo_some hz))))
theorem fq_X9_enter {K : Nat} {vl : Nat → Nat} {z0 : ow_MS} {pr0 : Nat} {pr1 : Nat} : ∀ (k L : Nat) (x2 : Int32) (x3 : Int32) (x4 : Int32) (r0 : Nat) (r1 : Nat) (t0 : Int32) (t1 : Int32) (z : ow_MS), fr (fun g => pr0 + 3 ≤ g ∧ g ≤ pr0 + 4 ∨ pr1 + 3 ≤ g ∧ g ≤ pr1 + 8) z0 z → (L = 0 ∨ L = 1 ∨ L = 2 ∨ L = 3 → r0 = pr0) → (L = 0 ∨ L = 1 ∨ L = 2 ∨ L = 3 → r1 = pr1) → Fo Prod.snd (fun g => pr0 + 3 ≤ g ∧ g ≤ pr0 + 4 ∨ pr1 + 3 ≤ g ∧ g ≤ pr1 + 8) z0 (c_X9_enter vl K k L x2 x3 x4 r0 r1 t0 t1 z)
  | 0 => by
    intros
    exact fo_none
  | k + 1 => by
    intro L x2 x3 x4 r0 r1 t0 t1 z hz h9_r0 h9_r1
    show Fo Prod.snd (fun g => pr0 + 3 ≤ g ∧ g ≤ pr0 + 4 ∨ pr1 + 3 ≤ g ∧ g ≤ pr1 + 8) z0 (cb_X9_enter vl K (c_X9_enter vl K k) L x2 x3 x4 r0 r1 t0 t1 z)
    unfold cb_X9_enter
    split
    · exact fb_X9_enter_0 (fq_X9_enter k) hz (h9_r0 (by decide)) (h9_r1 (by decide))
    · exact fb_X9_enter_1 (fq_X9_enter k) hz (h9_r0 (by decide)) (h9_r1 (by decide))
    · exact fb_X9_enter_2 (fq_X9_enter k) hz (h9_r0 (by decide)) (h9_r1 (by decide))
    · exact fb_X9_enter_3 (fq_X9_enter k) hz (h9_r0 (by decide)) (h9_r1 (by decide))
    · exact fo_none
theorem ff_X9_enter {vl : Nat → Nat} {K : Nat} {r0 : Nat} {r1 : Nat} {x2 : Int32} {z : ow_MS} : Fo Prod.snd (fun g => r0 + 3 ≤ g ∧ g ≤ r0 + 4 ∨ r1 + 3 ≤ g ∧ g ≤ r1 + 8) z (ce_X9_enter vl K r0 r1 x2 z) := fq_X9_enter (pr0 := r0) (pr1 := r1) K 0 _ _ _ _ _ _ _ z fr_rf (fun _ => rfl) (fun _ => rfl)
theorem fb_X9_firstLonely_0 {K : Nat} {vl : Nat → Nat} {z0 z : ow_MS} {pr0 : Nat} {pr1 : Nat} {go : Nat → Int32 → Int32 → Nat → Nat → ow_MS → Option (Int32 × ow_MS)} {x2 : Int32} {x3 : Int32} {r0 : Nat} {r1 : Nat} (hgo : ∀ (L : Nat) (x2 : Int32) (x3 : Int32) (r0 : Nat) (r1 : Nat) (z : ow_MS), fr (fun _ => False) z0 z → (L = 0 ∨ L = 1 ∨ L = 2 ∨ L = 3 → r0 = pr0) → (L = 0 ∨ L = 1 ∨ L = 2 ∨ L = 3 → r1 = pr1) → Fo Prod.snd (fun _ => False) z0 (go L x2 x3 r0 r1 z)) (hz : fr (fun _ => False) z0 z) (e_r0 : r0 = pr0) (e_r1 : r1 = pr1) : Fo Prod.snd (fun _ => False) z0 (cm_X9_firstLonely_0 vl K go x2 x3 r0 r1 z) := by
  unfold cm_X9_firstLonely_0
  exact (hgo 1 _ _ _ _ z hz (fun _ => by omega) (fun _ => by omega))
theorem fb_X9_firstLonely_1 {K : Nat} {vl : Nat → Nat} {z0 z : ow_MS} {pr0 : Nat} {pr1 : Nat} {go : Nat → Int32 → Int32 → Nat → Nat → ow_MS → Option (Int32 × ow_MS)} {x2 : Int32} {x3 : Int32} {r0 : Nat} {r1 : Nat} (hgo : ∀ (L : Nat) (x2 : Int32) (x3 : Int32) (r0 : Nat) (r1 : Nat) (z : ow_MS), fr (fun _ => False) z0 z → (L = 0 ∨ L = 1 ∨ L = 2 ∨ L = 3 → r0 = pr0) → (L = 0 ∨ L = 1 ∨ L = 2 ∨ L = 3 → r1 = pr1) → Fo Prod.snd (fun _ => False) z0 (go L x2 x3 r0 r1 z)) (hz : fr (fun _ => False) z0 z) (e_r0 : r0 = pr0) (e_r1 : r1 = pr1) : Fo Prod.snd (fun _ => False) z0 (cm_X9_firstLonely_1 vl K go x2 x3 r0 r1 z) := by
  unfold cm_X9_firstLonely_1
  exact (fo_rdF (fun v1 => (fo_if (fo_some hz) (fc_crI (fun v2 => (fo_if (hgo 3 _ _ _ _ z hz (fun _ => by omega) (fun _ => by omega)) (fc_crI (fun v3 => (fo_if (fo_if (hgo 2 _ _ _ _ z hz (fun _ => by omega) (fun _ => by omega)) (fc_crI (fun v4 => (fo_if (hgo 3 _ _ _ _ z hz (fun _ => by omega) (fun _ => by omega)) (hgo 2 _ _ _ _ z hz (fun _ => by omega) (fun _ => by omega)))))) (hgo 3 _ _ _ _ z hz (fun _ => by omega) (fun _ => by omega)))))))))))
theorem fb_X9_firstLonely_2 {K : Nat} {vl : Nat → Nat} {z0 z : ow_MS} {pr0 : Nat} {pr1 : Nat} {go : Nat → Int32 → Int32 → Nat → Nat → ow_MS → Option (Int32 × ow_MS)} {x2 : Int32} {x3 : Int32} {r0 : Nat} {r1 : Nat} (hgo : ∀ (L : Nat) (x2 : Int32) (x3 : Int32) (r0 : Nat) (r1 : Nat) (z : ow_MS), fr (fun _ => False) z0 z → (L = 0 ∨ L = 1 ∨ L = 2 ∨ L = 3 → r0 = pr0) → (L = 0 ∨ L = 1 ∨ L = 2 ∨ L = 3 → r1 = pr1) → Fo Prod.snd (fun _ => False) z0 (go L x2 x3 r0 r1 z)) (hz : fr (fun _ => False) z0 z) (e_r0 : r0 = pr0) (e_r1 : r1 = pr1) : Fo Prod.snd (fun _ => False) z0 (cm_X9_firstLonely_2 vl K go x2 x3 r0 r1 z) := by
  unfold cm_X9_firstLonely_2
  exact (fc_crI (fun v5 => (hgo 3 _ _ _ _ z hz (fun _ => by omega) (fun _ => by omega))))
theorem fb_X9_firstLonely_3 {K : Nat} {vl : Nat → Nat} {z0 z : ow_MS} {pr0 : Nat} {pr1 : Nat} {go : Nat → Int32 → Int32 → Nat → Nat → ow_MS → Option (Int32 × ow_MS)} {x2 : Int32} {x3 : Int32} {r0 : Nat} {r1 : Nat} (hgo : ∀ (L : Nat) (x2 : Int32) (x3 : Int32) (r0 : Nat) (r1 : Nat) (z : ow_MS), fr (fun _ => False) z0 z → (L = 0 ∨ L = 1 ∨ L = 2 ∨ L = 3 → r0 = pr0) → (L = 0 ∨ L = 1 ∨ L = 2 ∨ L = 3 → r1 = pr1) → Fo Prod.snd (fun _ => False) z0 (go L x2 x3 r0 r1 z)) (hz : fr (fun _ => False) z0 z) (e_r0 : r0 = pr0) (e_r1 : r1 = pr1) : Fo Prod.snd (fun _ => False) z0 (cm_X9_firstLonely_3 vl K go x2 x3 r0 r1 z) := by
  unfold cm_X9_firstLonely_3
  exact (hgo 1 _ _ _ _ z hz (fun _ => by omega) (fun _ => by omega))
theorem fq_X9_firstLonely {K : Nat} {vl : Nat → Nat} {z0 : ow_MS} {pr0 : Nat} {pr1 : Nat} : ∀ (k L : Nat) (x2 : Int32) (x3 : Int32) (r0 : Nat) (r1 : Nat) (z : ow_MS), fr (fun _ => False) z0 z → (L = 0 ∨ L = 1 ∨ L = 2 ∨ L = 3 → r0 = pr0) → (L = 0 ∨ L = 1 ∨ L = 2 ∨ L = 3 → r1 = pr1) → Fo Prod.snd (fun _ => False) z0 (c_X9_firstLonely vl K k L x2 x3 r0 r1 z)
  | 0 => by
    intros
    exact fo_none
  | k + 1 => by
    intro L x2 x3 r0 r1 z hz h9_r0 h9_r1
    show Fo Prod.snd (fun _ => False) z0 (cb_X9_firstLonely vl K (c_X9_firstLonely vl K k) L x2 x3 r0 r1 z)
    unfold cb_X9_firstLonely
    split
    · exact fb_X9_firstLonely_0 (fq_X9_firstLonely k) hz (h9_r0 (by decide)) (h9_r1 (by decide))
    · exact fb_X9_firstLonely_1 (fq_X9_firstLonely k) hz (h9_r0 (by decide)) (h9_r1 (by decide))
    · exact fb_X9_firstLonely_2 (fq_X9_firstLonely k) hz (h9_r0 (by decide)) (h9_r1 (by decide))
    · exact fb_X9_firstLonely_3 (fq_X9_firstLonely k) hz (h9_r0 (by decide)) (h9_r1 (by decide))
    · exact fo_none
theorem ff_X9_firstLonely {vl : Nat → Nat} {K : Nat} {r0 : Nat} {r1 : Nat} {z : ow_MS} : Fo Prod.snd (fun _ => False) z (ce_X9_firstLonely vl K r0 r1 z) := fq_X9_firstLonely (pr0 := r0) (pr1 := r1) K 0 _ _ _ _ z fr_rf (fun _ => rfl) (fun _ => rfl)
theorem fb_X9_readDiagram_0 {K : Nat} {vl : Nat → Nat} {z0 z : ow_MS} {pr0 : Nat} {pr1 : Nat} {go : Nat → Int32 → Int32 → Int32 → Int32 → Int32 → Int32 → Int32 → Nat → Nat → ow_MS → Option (Int32 × ow_MS)} {x2 : Int32} {x3 : Int32} {x4 : Int32} {x5 : Int32} {x6 : Int32} {x7 : Int32} {x8 : Int32} {r0 : Nat} {r1 : Nat} (hgo : ∀ (L : Nat) (x2 : Int32) (x3 : Int32) (x4 : Int32) (x5 : Int32) (x6 : Int32) (x7 : Int32) (x8 : Int32) (r0 : Nat) (r1 : Nat) (z : ow_MS), fr (fun g => pr0 + 3 ≤ g ∧ g ≤ pr0 + 6 ∨ pr1 + 1 ≤ g ∧ g ≤ pr1 + 9) z0 z → (L = 0 ∨ L = 1 ∨ L = 2 ∨ L = 3 ∨ L = 4 → r0 = pr0) → (L = 0 ∨ L = 1 ∨ L = 2 ∨ L = 3 ∨ L = 4 → r1 = pr1) → Fo Prod.snd (fun g => pr0 + 3 ≤ g ∧ g ≤ pr0 + 6 ∨ pr1 + 1 ≤ g ∧ g ≤ pr1 + 9) z0 (go L x2 x3 x4 x5 x6 x7 x8 r0 r1 z)) (hz : fr (fun g => pr0 + 3 ≤ g ∧ g ≤ pr0 + 6 ∨ pr1 + 1 ≤ g ∧ g ≤ pr1 + 9) z0 z) (e_r0 : r0 = pr0) (e_r1 : r1 = pr1) : Fo Prod.snd (fun g => pr0 + 3 ≤ g ∧ g ≤ pr0 + 6 ∨ pr1 + 1 ≤ g ∧ g ≤ pr1 + 9) z0 (cm_X9_readDiagram_0 vl K go x2 x3 x4 x5 x6 x7 x8 r0 r1 z) := by
  unfold cm_X9_readDiagram_0
  exact (fo_cs0 ff_J7_fill_53178 (fun g hg => by omega) hz (fun z1 h_z1 => (fo_cs0 ff_J7_fill_53178 (fun g hg => by omega) h_z1 (fun z2 h_z2 => (fo_cs0 ff_X7_empty (fun g hg => by omega) h_z2 (fun z3 h_z3 => (fo_wrF (by omega) h_z3 (fun z4 h_z4 => (hgo 1 _ _ _ _ _ _ _ _ _ z4 h_z4 (fun _ => by omega) (fun _ => by omega))))))))))
theorem fb_X9_readDiagram_1 {K : Nat} {vl : Nat → Nat} {z0 z : ow_MS} {pr0 : Nat} {pr1 : Nat} {go : Nat → Int32 → Int32 → Int32 → Int32 → Int32 → Int32 → Int32 → Nat → Nat → ow_MS → Option (Int32 × ow_MS)} {x2 : Int32} {x3 : Int32} {x4 : Int32} {x5 : Int32} {x6 : Int32} {x7 : Int32} {x8 : Int32} {r0 : Nat} {r1 : Nat} (hgo : ∀ (L : Nat) (x2 : Int32) (x3 : Int32) (x4 : Int32) (x5 : Int32) (x6 : Int32) (x7 : Int32) (x8 : Int32) (r0 : Nat) (r1 : Nat) (z : ow_MS), fr (fun g => pr0 + 3 ≤ g ∧ g ≤ pr0 + 6 ∨ pr1 + 1 ≤ g ∧ g ≤ pr1 + 9) z0 z → (L = 0 ∨ L = 1 ∨ L = 2 ∨ L = 3 ∨ L = 4 → r0 = pr0) → (L = 0 ∨ L = 1 ∨ L = 2 ∨ L = 3 ∨ L = 4 → r1 = pr1) → Fo Prod.snd (fun g => pr0 + 3 ≤ g ∧ g ≤ pr0 + 6 ∨ pr1 + 1 ≤ g ∧ g ≤ pr1 + 9) z0 (go L x2 x3 x4 x5 x6 x7 x8 r0 r1 z)) (hz : fr (fun g => pr0 + 3 ≤ g ∧ g ≤ pr0 + 6 ∨ pr1 + 1 ≤ g ∧ g ≤ pr1 + 9) z0 z) (e_r0 : r0 = pr0) (e_r1 : r1 = pr1) : Fo Prod.snd (fun g => pr0 + 3 ≤ g ∧ g ≤ pr0 + 6 ∨ pr1 + 1 ≤ g ∧ g ≤ pr1 + 9) z0 (cm_X9_readDiagram_1 vl K go x2 x3 x4 x5 x6 x7 x8 r0 r1 z) := by
  unfold cm_X9_readDiagram_1
  exact (fo_if (hgo 4 _ _ _ _ _ _ _ _ _ z hz (fun _ => by omega) (fun _ => by omega)) (fo_rdF (fun v5 => (fo_rdF (fun v6 => (fo_if (hgo 4 _ _ _ _ _ _ _ _ _ z hz (fun _ => by omega) (fun _ => by omega)) (fo_rdF (fun v7 => (fo_rdF (fun v8 => (fc_crI (fun v9 => (fo_if (fo_if (fo_cs0 ff_X9_finish (fun g hg => by omega) hz (fun z15 h_z15 => (fo_rdF (fun v16 => (fo_wrF (by omega) h_z15 (fun z17 h_z17 => (hgo 3 _ _ _ _ _ _ _ _ _ z17 h_z17 (fun _ => by omega) (fun _ => by omega)))))))) (fo_rdF (fun v18 => (fo_some hz)))) (fo_cs1 ff_X9_readVisit (fun g hg => by omega) hz (fun v11 z10 h_z10 => (fo_if (fo_cs1 ff_X9_enter (fun g hg => by omega) h_z10 (fun v13 z12 h_z12 => (fo_if (fo_some h_z12) (fo_if (hgo 2 _ _ _ _ _ _ _ _ _ z12 h_z12 (fun _ => by omega) (fun _ => by omega)) (fo_cs0 ff_X7_link (fun g hg => by omega) h_z12 (fun z14 h_z14 => (hgo 2 _ _ _ _ _ _ _ _ _ z14 h_z14 (fun _ => by omega) (fun _ => by omega)))))))) (fo_some h_z10)))))))))))))))))
theorem fb_X9_readDiagram_2 {K : Nat} {vl : Nat → Nat} {z0 z : ow_MS} {pr0 : Nat} {pr1 : Nat} {go : Nat → Int32 → Int32 → Int32 → Int32 → Int32 → Int32 → Int32 → Nat → Nat → ow_MS → Option (Int32 × ow_MS)} {x2 : Int32} {x3 : Int32} {x4 : Int32} {x5 : Int32} {x6 : Int32} {x7 : Int32} {x8 : Int32} {r0 : Nat} {r1 : Nat} (hgo : ∀ (L : Nat) (x2 : Int32) (x3 : Int32) (x4 : Int32) (x5 : Int32) (x6 : Int32) (x7 : Int32) (x8 : Int32) (r0 : Nat) (r1 : Nat) (z : ow_MS), fr (fun g => pr0 + 3 ≤ g ∧ g ≤ pr0 + 6 ∨ pr1 + 1 ≤ g ∧ g ≤ pr1 + 9) z0 z → (L = 0 ∨ L = 1 ∨ L = 2 ∨ L = 3 ∨ L = 4 → r0 = pr0) → (L = 0 ∨ L = 1 ∨ L = 2 ∨ L = 3 ∨ L = 4 → r1 = pr1) → Fo Prod.snd (fun g => pr0 + 3 ≤ g ∧ g ≤ pr0 + 6 ∨ pr1 + 1 ≤ g ∧ g ≤ pr1 + 9) z0 (go L x2 x3 x4 x5 x6 x7 x8 r0 r1 z)) (hz : fr (fun g => pr0 + 3 ≤ g ∧ g ≤ pr0 + 6 ∨ pr1 + 1 ≤ g ∧ g ≤ pr1 + 9) z0 z) (e_r0 : r0 = pr0) (e_r1 : r1 = pr1) : Fo Prod.snd (fun g => pr0 + 3 ≤ g ∧ g ≤ pr0 + 6 ∨ pr1 + 1 ≤ g ∧ g ≤ pr1 + 9) z0 (cm_X9_readDiagram_2 vl K go x2 x3 x4 x5 x6 x7 x8 r0 r1 z) := by
  unfold cm_X9_readDiagram_2
  exact (hgo 3 _ _ _ _ _ _ _ _ _ z hz (fun _ => by omega) (fun _ => by omega))
theorem fb_X9_readDiagram_3 {K : Nat} {vl : Nat → Nat} {z0 z : ow_MS} {pr0 : Nat} {pr1 : Nat} {go : Nat → Int32 → Int32 → Int32 → Int32 → Int32 → Int32 → Int32 → Nat → Nat → ow_MS → Option (Int32 × ow_MS)} {x2 : Int32} {x3 : Int32} {x4 : Int32} {x5 : Int32} {x6 : Int32} {x7 : Int32} {x8 : Int32} {r0 : Nat} {r1 : Nat} (hgo : ∀ (L : Nat) (x2 : Int32) (x3 : Int32) (x4 : Int32) (x5 : Int32) (x6 : Int32) (x7 : Int32) (x8 : Int32) (r0 : Nat) (r1 : Nat) (z : ow_MS), fr (fun g => pr0 + 3 ≤ g ∧ g ≤ pr0 + 6 ∨ pr1 + 1 ≤ g ∧ g ≤ pr1 + 9) z0 z → (L = 0 ∨ L = 1 ∨ L = 2 ∨ L = 3 ∨ L = 4 → r0 = pr0) → (L = 0 ∨ L = 1 ∨ L = 2 ∨ L = 3 ∨ L = 4 → r1 = pr1) → Fo Prod.snd (fun g => pr0 + 3 ≤ g ∧ g ≤ pr0 + 6 ∨ pr1 + 1 ≤ g ∧ g ≤ pr1 + 9) z0 (go L x2 x3 x4 x5 x6 x7 x8 r0 r1 z)) (hz : fr (fun g => pr0 + 3 ≤ g ∧ g ≤ pr0 + 6 ∨ pr1 + 1 ≤ g ∧ g ≤ pr1 + 9) z0 z) (e_r0 : r0 = pr0) (e_r1 : r1 = pr1) : Fo Prod.snd (fun g => pr0 + 3 ≤ g ∧ g ≤ pr0 + 6 ∨ pr1 + 1 ≤ g ∧ g ≤ pr1 + 9) z0 (cm_X9_readDiagram_3 vl K go x2 x3 x4 x5 x6 x7 x8 r0 r1 z) := by
  unfold cm_X9_readDiagram_3
  exact (hgo 1 _ _ _ _ _ _ _ _ _ z hz (fun _ => by omega) (fun _ => by omega))
theorem fb_X9_readDiagram_4 {K : Nat} {vl : Nat → Nat} {z0 z : ow_MS} {pr0 : Nat} {pr1 : Nat} {go : Nat → Int32 → Int32 → Int32 → Int32 → Int32 → Int32 → Int32 → Nat → Nat → ow_MS → Option (Int32 × ow_MS)} {x2 : Int32} {x3 : Int32} {x4 : Int32} {x5 : Int32} {x6 : Int32} {x7 : Int32} {x8 : Int32} {r0 : Nat} {r1 : Nat} (hgo : ∀ (L : Nat) (x2 : Int32) (x3 : Int32) (x4 : Int32) (x5 : Int32) (x6 : Int32) (x7 : Int32) (x8 : Int32) (r0 : Nat) (r1 : Nat) (z : ow_MS), fr (fun g => pr0 + 3 ≤ g ∧ g ≤ pr0 + 6 ∨ pr1 + 1 ≤ g ∧ g ≤ pr1 + 9) z0 z → (L = 0 ∨ L = 1 ∨ L = 2 ∨ L = 3 ∨ L = 4 → r0 = pr0) → (L = 0 ∨ L = 1 ∨ L = 2 ∨ L = 3 ∨ L = 4 → r1 = pr1) → Fo Prod.snd (fun g => pr0 + 3 ≤ g ∧ g ≤ pr0 + 6 ∨ pr1 + 1 ≤ g ∧ g ≤ pr1 + 9) z0 (go L x2 x3 x4 x5 x6 x7 x8 r0 r1 z)) (hz : fr (fun g => pr0 + 3 ≤ g ∧ g ≤ pr0 + 6 ∨ pr1 + 1 ≤ g ∧ g ≤ pr1 + 9) z0 z) (e_r0 : r0 = pr0) (e_r1 : r1 = pr1) : Fo Prod.snd (fun g => pr0 + 3 ≤ g ∧ g ≤ pr0 + 6 ∨ pr1 + 1 ≤ g ∧ g ≤ pr1 + 9) z0 (cm_X9_readDiagram_4 vl K go x2 x3 x4 x5 x6 x7 x8 r0 r1 z) := by
  unfold cm_X9_readDiagram_4
  exact (fo_cs0 ff_X9_finish (fun g hg => by omega) hz (fun z19 h_z19 => (fo_cs1 ff_X9_firstLonely (fun g hg => hg.elim) h_z19 (fun v21 z20 h_z20 => (fo_some h_z20)))))
theorem fq_X9_readDiagram {K : Nat} {vl : Nat → Nat} {z0 : ow_MS} {pr0 : Nat} {pr1 : Nat} : ∀ (k L : Nat) (x2 : Int32) (x3 : Int32) (x4 : Int32) (x5 : Int32) (x6 : Int32) (x7 : Int32) (x8 : Int32) (r0 : Nat) (r1 : Nat) (z : ow_MS), fr (fun g => pr0 + 3 ≤ g ∧ g ≤ pr0 + 6 ∨ pr1 + 1 ≤ g ∧ g ≤ pr1 + 9) z0 z → (L = 0 ∨ L = 1 ∨ L = 2 ∨ L = 3 ∨ L = 4 → r0 = pr0) → (L = 0 ∨ L = 1 ∨ L = 2 ∨ L = 3 ∨ L = 4 → r1 = pr1) → Fo Prod.snd (fun g => pr0 + 3 ≤ g ∧ g ≤ pr0 + 6 ∨ pr1 + 1 ≤ g ∧ g ≤ pr1 + 9) z0 (c_X9_readDiagram vl K k L x2 x3 x4 x5 x6 x7 x8 r0 r1 z)
  | 0 => by
    intros
    exact fo_none
  | k + 1 => by
    intro L x2 x3 x4 x5 x6 x7 x8 r0 r1 z hz h9_r0 h9_r1
    show Fo Prod.snd (fun g => pr0 + 3 ≤ g ∧ g ≤ pr0 + 6 ∨ pr1 + 1 ≤ g ∧ g ≤ pr1 + 9) z0 (cb_X9_readDiagram vl K (c_X9_readDiagram vl K k) L x2 x3 x4 x5 x6 x7 x8 r0 r1 z)
    unfold cb_X9_readDiagram
    split
    · exact fb_X9_readDiagram_0 (fq_X9_readDiagram k) hz (h9_r0 (by decide)) (h9_r1 (by decide))
    · exact fb_X9_readDiagram_1 (fq_X9_readDiagram k) hz (h9_r0 (by decide)) (h9_r1 (by decide))
    · exact fb_X9_readDiagram_2 (fq_X9_readDiagram k) hz (h9_r0 (by decide)) (h9_r1 (by decide))
    · exact fb_X9_readDiagram_3 (fq_X9_readDiagram k) hz (h9_r0 (by decide)) (h9_r1 (by decide))
    · exact fb_X9_readDiagram_4 (fq_X9_readDiagram k) hz (h9_r0 (by decide)) (h9_r1 (by decide))
    · exact fo_none
theorem ff_X9_readDiagram {vl : Nat → Nat} {K : Nat} {r0 : Nat} {r1 : Nat} {z : ow_MS} : Fo Prod.snd (fun g => r0 + 3 ≤ g ∧ g ≤ r0 + 6 ∨ r1 + 1 ≤ g ∧ g ≤ r1 + 9) z (ce_X9_readDiagram vl K r0 r1 z) := fq_X9_readDiagram (pr0 := r0) (pr1 := r1) K 0 _ _ _ _ _ _ _ _ _ z fr_rf (fun _ => rfl) (fun _ => rfl)
theorem ff_J7_rangeCheck_23922 {vl : Nat → Nat} {K : Nat} {x0 : Int32} {x1 : Int32} {x2 : Int32} {z : ow_MS} : Fo id (fun _ => False) z (ce_J7_rangeCheck_23922 vl K x0 x1 x2 z) := by
  unfold ce_J7_rangeCheck_23922 cm_J7_rangeCheck_23922_0
  exact (fo_if (fo_if (fo_if (fo_some fr_rf) fo_none) fo_none) fo_none)
theorem fb_J7_fill_fda19_0 {K : Nat} {vl : Nat → Nat} {z0 z : ow_MS} {pr0 : Nat} {go : Nat → Int32 → Int32 → Int32 → Int32 → Nat → ow_MS → Option ow_MS} {x1 : Int32} {x2 : Int32} {x3 : Int32} {x4 : Int32} {r0 : Nat} (hgo : ∀ (L : Nat) (x1 : Int32) (x2 : Int32) (x3 : Int32) (x4 : Int32) (r0 : Nat) (z : ow_MS), fr (fun g => g = pr0) z0 z → (L = 0 ∨ L = 1 → r0 = pr0) → Fo id (fun g => g = pr0) z0 (go L x1 x2 x3 x4 r0 z)) (hz : fr (fun g => g = pr0) z0 z) (e_r0 : r0 = pr0) : Fo id (fun g => g = pr0) z0 (cm_J7_fill_fda19_0 vl K go x1 x2 x3 x4 r0 z) := by
  unfold cm_J7_fill_fda19_0
  exact (fo_cs0 ff_J7_rangeCheck_23922 (fun g hg => hg.elim) hz (fun z1 h_z1 => (hgo 1 _ _ _ _ _ z1 h_z1 (fun _ => by omega))))
theorem fb_J7_fill_fda19_1 {K : Nat} {vl : Nat → Nat} {z0 z : ow_MS} {pr0 : Nat} {go : Nat → Int32 → Int32 → Int32 → Int32 → Nat → ow_MS → Option ow_MS} {x1 : Int32} {x2 : Int32} {x3 : Int32} {x4 : Int32} {r0 : Nat} (hgo : ∀ (L : Nat) (x1 : Int32) (x2 : Int32) (x3 : Int32) (x4 : Int32) (r0 : Nat) (z : ow_MS), fr (fun g => g = pr0) z0 z → (L = 0 ∨ L = 1 → r0 = pr0) → Fo id (fun g => g = pr0) z0 (go L x1 x2 x3 x4 r0 z)) (hz : fr (fun g => g = pr0) z0 z) (e_r0 : r0 = pr0) : Fo id (fun g => g = pr0) z0 (cm_J7_fill_fda19_1 vl K go x1 x2 x3 x4 r0 z) := by
  unfold cm_J7_fill_fda19_1
  exact (fo_if (fo_some hz) (fc_ctI (by omega) hz (fun z2 h_z2 => (hgo 1 _ _ _ _ _ z2 h_z2 (fun _ => by omega)))))
theorem fq_J7_fill_fda19 {K : Nat} {vl : Nat → Nat} {z0 : ow_MS} {pr0 : Nat} : ∀ (k L : Nat) (x1 : Int32) (x2 : Int32) (x3 : Int32) (x4 : Int32) (r0 : Nat) (z : ow_MS), fr (fun g => g = pr0) z0 z → (L = 0 ∨ L = 1 → r0 = pr0) → Fo id (fun g => g = pr0) z0 (c_J7_fill_fda19 vl K k L x1 x2 x3 x4 r0 z)
  | 0 => by
    intros
    exact fo_none
  | k + 1 => by
    intro L x1 x2 x3 x4 r0 z hz h9_r0
    show Fo id (fun g => g = pr0) z0 (cb_J7_fill_fda19 vl K (c_J7_fill_fda19 vl K k) L x1 x2 x3 x4 r0 z)
    unfold cb_J7_fill_fda19
    split
    · exact fb_J7_fill_fda19_0 (fq_J7_fill_fda19 k) hz (h9_r0 (by decide))
    · exact fb_J7_fill_fda19_1 (fq_J7_fill_fda19 k) hz (h9_r0 (by decide))
    · exact fo_none
theorem ff_J7_fill_fda19 {vl : Nat → Nat} {K : Nat} {r0 : Nat} {x1 : Int32} {x2 : Int32} {x3 : Int32} {z : ow_MS} : Fo id (fun g => g = r0) z (ce_J7_fill_fda19 vl K r0 x1 x2 x3 z) := fq_J7_fill_fda19 (pr0 := r0) K 0 _ _ _ _ _ z fr_rf (fun _ => rfl)
theorem fb_X7_markParts_0 {K : Nat} {vl : Nat → Nat} {z0 z : ow_MS} {pr0 : Nat} {go : Nat → Int32 → Int32 → Int32 → Int32 → Int32 → Int32 → Nat → ow_MS → Option ow_MS} {x1 : Int32} {x2 : Int32} {x3 : Int32} {x4 : Int32} {x5 : Int32} {x6 : Int32} {r0 : Nat} (hgo : ∀ (L : Nat) (x1 : Int32) (x2 : Int32) (x3 : Int32) (x4 : Int32) (x5 : Int32) (x6 : Int32) (r0 : Nat) (z : ow_MS), fr (fun g => pr0 + 6 ≤ g ∧ g ≤ pr0 + 11) z0 z → (L = 0 ∨ L = 1 ∨ L = 2 ∨ L = 3 ∨ L = 4 ∨ L = 5 ∨ L = 6 → r0 = pr0) → Fo id (fun g => pr0 + 6 ≤ g ∧ g ≤ pr0 + 11) z0 (go L x1 x2 x3 x4 x5 x6 r0 z)) (hz : fr (fun g => pr0 + 6 ≤ g ∧ g ≤ pr0 + 11) z0 z) (e_r0 : r0 = pr0) : Fo id (fun g => pr0 + 6 ≤ g ∧ g ≤ pr0 + 11) z0 (cm_X7_markParts_0 vl K go x1 x2 x3 x4 x5 x6 r0 z) := by
  unfold cm_X7_markParts_0
  exact (fo_rdF (fun v1 => (fo_cs0 ff_J7_fill_fda19 (fun g hg => by omega) hz (fun z2 h_z2 => (fo_wrF (by omega) h_z2 (fun z3 h_z3 => (hgo 1 _ _ _ _ _ _ _ z3 h_z3 (fun _ => by omega))))))))
theorem fb_X7_markParts_1 {K : Nat} {vl : Nat → Nat} {z0 z : ow_MS} {pr0 : Nat} {go : Nat → Int32 → Int32 → Int32 → Int32 → Int32 → Int32 → Nat → ow_MS → Option ow_MS} {x1 : Int32} {x2 : Int32} {x3 : Int32} {x4 : Int32} {x5 : Int32} {x6 : Int32} {r0 : Nat} (hgo : ∀ (L : Nat) (x1 : Int32) (x2 : Int32) (x3 : Int32) (x4 : Int32) (x5 : Int32) (x6 : Int32) (r0 : Nat) (z : ow_MS), fr (fun g => pr0 + 6 ≤ g ∧ g ≤ pr0 + 11) z0 z → (L = 0 ∨ L = 1 ∨ L = 2 ∨ L = 3 ∨ L = 4 ∨ L = 5 ∨ L = 6 → r0 = pr0) → Fo id (fun g => pr0 + 6 ≤ g ∧ g ≤ pr0 + 11) z0 (go L x1 x2 x3 x4 x5 x6 r0 z)) (hz : fr (fun g => pr0 + 6 ≤ g ∧ g ≤ pr0 + 11) z0 z) (e_r0 : r0 = pr0) : Fo id (fun g => pr0 + 6 ≤ g ∧ g ≤ pr0 + 11) z0 (cm_X7_markParts_1 vl K go x1 x2 x3 x4 x5 x6 r0 z) := by
  unfold cm_X7_markParts_1
  exact (fo_if (fo_some hz) (fc_crI (fun v4 => (fo_if (fc_ctI (by omega) hz (fun z5 h_z5 => (fo_rdF (fun v6 => (fc_ctI (by omega) h_z5 (fun z7 h_z7 => (hgo 2 _ _ _ _ _ _ _ z7 h_z7 (fun _ => by omega)))))))) (hgo 6 _ _ _ _ _ _ _ z hz (fun _ => by omega))))))
theorem fb_X7_markParts_2 {K : Nat} {vl : Nat → Nat} {z0 z : ow_MS} {pr0 : Nat} {go : Nat → Int32 → Int32 → Int32 → Int32 → Int32 → Int32 → Nat → ow_MS → Option ow_MS} {x1 : Int32} {x2 : Int32} {x3 : Int32} {x4 : Int32} {x5 : Int32} {x6 : Int32} {r0 : Nat} (hgo : ∀ (L : Nat) (x1 : Int32) (x2 : Int32) (x3 : Int32) (x4 : Int32) (x5 : Int32) (x6 : Int32) (r0 : Nat) (z : ow_MS), fr (fun g => pr0 + 6 ≤ g ∧ g ≤ pr0 + 11) z0 z → (L = 0 ∨ L = 1 ∨ L = 2 ∨ L = 3 ∨ L = 4 ∨ L = 5 ∨ L = 6 → r0 = pr0) → Fo id (fun g => pr0 + 6 ≤ g ∧ g ≤ pr0 + 11) z0 (go L x1 x2 x3 x4 x5 x6 r0 z)) (hz : fr (fun g => pr0 + 6 ≤ g ∧ g ≤ pr0 + 11) z0 z) (e_r0 : r0 = pr0) : Fo id (fun g => pr0 + 6 ≤ g ∧ g ≤ pr0 + 11) z0 (cm_X7_markParts_2 vl K go x1 x2 x3 x4 x5 x6 r0 z) := by
  unfold cm_X7_markParts_2
  exact (fo_if (hgo 5 _ _ _ _ _ _ _ z hz (fun _ => by omega)) (fo_if (hgo 5 _ _ _ _ _ _ _ z hz (fun _ => by omega)) (fc_crI (fun v8 => (fc_crI (fun v9 => (fc_crI (fun v10 => (fc_crI (fun v11 => (fo_if (fo_rdF (fun v12 => (fc_ctI (by omega) hz (fun z13 h_z13 => (fc_ctI (by omega) h_z13 (fun z14 h_z14 => (hgo 3 _ _ _ _ _ _ _ z14 h_z14 (fun _ => by omega)))))))) (hgo 3 _ _ _ _ _ _ _ z hz (fun _ => by omega)))))))))))))
theorem fb_X7_markParts_3 {K : Nat} {vl : Nat → Nat} {z0 z : ow_MS} {pr0 : Nat} {go : Nat → Int32 → Int32 → Int32 → Int32 → Int32 → Int32 → Nat → ow_MS → Option ow_MS} {x1 : Int32} {x2 : Int32} {x3 : Int32} {x4 : Int32} {x5 : Int32} {x6 : Int32} {r0 : Nat} (hgo : ∀ (L : Nat) (x1 : Int32) (x2 : Int32) (x3 : Int32) (x4 : Int32) (x5 : Int32) (x6 : Int32) (r0 : Nat) (z : ow_MS), fr (fun g => pr0 + 6 ≤ g ∧ g ≤ pr0 + 11) z0 z → (L = 0 ∨ L = 1 ∨ L = 2 ∨ L = 3 ∨ L = 4 ∨ L = 5 ∨ L = 6 → r0 = pr0) → Fo id (fun g => pr0 + 6 ≤ g ∧ g ≤ pr0 + 11) z0 (go L x1 x2 x3 x4 x5 x6 r0 z)) (hz : fr (fun g => pr0 + 6 ≤ g ∧ g ≤ pr0 + 11) z0 z) (e_r0 : r0 = pr0) : Fo id (fun g => pr0 + 6 ≤ g ∧ g ≤ pr0 + 11) z0 (cm_X7_markParts_3 vl K go x1 x2 x3 x4 x5 x6 r0 z) := by
  unfold cm_X7_markParts_3
  exact (fc_crI (fun v15 => (fo_if (fo_rdF (fun v16 => (fc_ctI (by omega) hz (fun z17 h_z17 => (fc_ctI (by omega) h_z17 (fun z18 h_z18 => (hgo 4 _ _ _ _ _ _ _ z18 h_z18 (fun _ => by omega)))))))) (hgo 4 _ _ _ _ _ _ _ z hz (fun _ => by omega)))))
theorem fb_X7_markParts_4 {K : Nat} {vl : Nat → Nat} {z0 z : ow_MS} {pr0 : Nat} {go : Nat → Int32 → Int32 → Int32 → Int32 → Int32 → Int32 → Nat → ow_MS → Option ow_MS} {x1 : Int32} {x2 : Int32} {x3 : Int32} {x4 : Int32} {x5 : Int32} {x6 : Int32} {r0 : Nat} (hgo : ∀ (L : Nat) (x1 : Int32) (x2 : Int32) (x3 : Int32) (x4 : Int32) (x5 : Int32) (x6 : Int32) (r0 : Nat) (z : ow_MS), fr (fun g => pr0 + 6 ≤ g ∧ g ≤ pr0 + 11) z0 z → (L = 0 ∨ L = 1 ∨ L = 2 ∨ L = 3 ∨ L = 4 ∨ L = 5 ∨ L = 6 → r0 = pr0) → Fo id (fun g => pr0 + 6 ≤ g ∧ g ≤ pr0 + 11) z0 (go L x1 x2 x3 x4 x5 x6 r0 z)) (hz : fr (fun g => pr0 + 6 ≤ g ∧ g ≤ pr0 + 11) z0 z) (e_r0 : r0 = pr0) : Fo id (fun g => pr0 + 6 ≤ g ∧ g ≤ pr0 + 11) z0 (cm_X7_markParts_4 vl K go x1 x2 x3 x4 x5 x6 r0 z) := by
  unfold cm_X7_markParts_4
  exact (hgo 2 _ _ _ _ _ _ _ z hz (fun _ => by omega))
theorem fb_X7_markParts_5 {K : Nat} {vl : Nat → Nat} {z0 z : ow_MS} {pr0 : Nat} {go : Nat → Int32 → Int32 → Int32 → Int32 → Int32 → Int32 → Nat → ow_MS → Option ow_MS} {x1 : Int32} {x2 : Int32} {x3 : Int32} {x4 : Int32} {x5 : Int32} {x6 : Int32} {r0 : Nat} (hgo : ∀ (L : Nat) (x1 : Int32) (x2 : Int32) (x3 : Int32) (x4 : Int32) (x5 : Int32) (x6 : Int32) (r0 : Nat) (z : ow_MS), fr (fun g => pr0 + 6 ≤ g ∧ g ≤ pr0 + 11) z0 z → (L = 0 ∨ L = 1 ∨ L = 2 ∨ L = 3 ∨ L = 4 ∨ L = 5 ∨ L = 6 → r0 = pr0) → Fo id (fun g => pr0 + 6 ≤ g ∧ g ≤ pr0 + 11) z0 (go L x1 x2 x3 x4 x5 x6 r0 z)) (hz : fr (fun g => pr0 + 6 ≤ g ∧ g ≤ pr0 + 11) z0 z) (e_r0 : r0 = pr0) : Fo id (fun g => pr0 + 6 ≤ g ∧ g ≤ pr0 + 11) z0 (cm_X7_markParts_5 vl K go x1 x2 x3 x4 x5 x6 r0 z) := by
  unfold cm_X7_markParts_5
  exact (fo_rdF (fun v19 => (fo_wrF (by omega) hz (fun z20 h_z20 => (hgo 6 _ _ _ _ _ _ _ z20 h_z20 (fun _ => by omega))))))
theorem fb_X7_markParts_6 {K : Nat} {vl : Nat → Nat} {z0 z : ow_MS} {pr0 : Nat} {go : Nat → Int32 → Int32 → Int32 → Int32 → Int32 → Int32 → Nat → ow_MS → Option ow_MS} {x1 : Int32} {x2 : Int32} {x3 : Int32} {x4 : Int32} {x5 : Int32} {x6 : Int32} {r0 : Nat} (hgo : ∀ (L : Nat) (x1 : Int32) (x2 : Int32) (x3 : Int32) (x4 : Int32) (x5 : Int32) (x6 : Int32) (r0 : Nat) (z : ow_MS), fr (fun g => pr0 + 6 ≤ g ∧ g ≤ pr0 + 11) z0 z → (L = 0 ∨ L = 1 ∨ L = 2 ∨ L = 3 ∨ L = 4 ∨ L = 5 ∨ L = 6 → r0 = pr0) → Fo id (fun g => pr0 + 6 ≤ g ∧ g ≤ pr0 + 11) z0 (go L x1 x2 x3 x4 x5 x6 r0 z)) (hz : fr (fun g => pr0 + 6 ≤ g ∧ g ≤ pr0 + 11) z0 z) (e_r0 : r0 = pr0) : Fo id (fun g => pr0 + 6 ≤ g ∧ g ≤ pr0 + 11) z0 (cm_X7_markParts_6 vl K go x1 x2 x3 x4 x5 x6 r0 z) := by
  unfold cm_X7_markParts_6
  exact (hgo 1 _ _ _ _ _ _ _ z hz (fun _ => by omega))
theorem fq_X7_markParts {K : Nat} {vl : Nat → Nat} {z0 : ow_MS} {pr0 : Nat} : ∀ (k L : Nat) (x1 : Int32) (x2 : Int32) (x3 : Int32) (x4 : Int32) (x5 : Int32) (x6 : Int32) (r0 : Nat) (z : ow_MS), fr (fun g => pr0 + 6 ≤ g ∧ g ≤ pr0 + 11) z0 z → (L = 0 ∨ L = 1 ∨ L = 2 ∨ L = 3 ∨ L = 4 ∨ L = 5 ∨ L = 6 → r0 = pr0) → Fo id (fun g => pr0 + 6 ≤ g ∧ g ≤ pr0 + 11) z0 (c_X7_markParts vl K k L x1 x2 x3 x4 x5 x6 r0 z)
  | 0 => by
    intros
    exact fo_none
  | k + 1 => by
    intro L x1 x2 x3 x4 x5 x6 r0 z hz h9_r0
    show Fo id (fun g => pr0 + 6 ≤ g ∧ g ≤ pr0 + 11) z0 (cb_X7_markParts vl K (c_X7_markParts vl K k) L x1 x2 x3 x4 x5 x6 r0 z)
    unfold cb_X7_markParts
    split
    · exact fb_X7_markParts_0 (fq_X7_markParts k) hz (h9_r0 (by decide))
    · exact fb_X7_markParts_1 (fq_X7_markParts k) hz (h9_r0 (by decide))
    · exact fb_X7_markParts_2 (fq_X7_markParts k) hz (h9_r0 (by decide))
    · exact fb_X7_markParts_3 (fq_X7_markParts k) hz (h9_r0 (by decide))
    · exact fb_X7_markParts_4 (fq_X7_markParts k) hz (h9_r0 (by decide))
    · exact fb_X7_markParts_5 (fq_X7_markParts k) hz (h9_r0 (by decide))
    · exact fb_X7_markParts_6 (fq_X7_markParts k) hz (h9_r0 (by decide))
    · exact fo_none
theorem ff_X7_markParts {vl : Nat → Nat} {K : Nat} {r0 : Nat} {z : ow_MS} : Fo id (fun g => r0 + 6 ≤ g ∧ g ≤ r0 + 11) z (ce_X7_markParts vl K r0 z) := fq_X7_markParts (pr0 := r0) K 0 _ _ _ _ _ _ _ z fr_rf (fun _ => rfl)
theorem fb_X4_onward_0 {K : Nat} {vl : Nat → Nat} {z0 z : ow_MS} {pr0 : Nat} {go : Nat → Int32 → Int32 → Int32 → Int32 → Nat → Int32 → Int32 → ow_MS → Option (Int32 × ow_MS)} {x1 : Int32} {x2 : Int32} {x3 : Int32} {x4 : Int32} {r0 : Nat} {t0 : Int32} {t1 : Int32} (hgo : ∀ (L : Nat) (x1 : Int32) (x2 : Int32) (x3 : Int32) (x4 : Int32) (r0 : Nat) (t0 : Int32) (t1 : Int32) (z : ow_MS), fr (fun _ => False) z0 z → (L = 0 ∨ L = 1 ∨ L = 2 ∨ L = 3 ∨ L = 4 ∨ L = 5 → r0 = pr0) → Fo Prod.snd (fun _ => False) z0 (go L x1 x2 x3 x4 r0 t0 t1 z)) (hz : fr (fun _ => False) z0 z) (e_r0 : r0 = pr0) : Fo Prod.snd (fun _ => False) z0 (cm_X4_onward_0 vl K go x1 x2 x3 x4 r0 t0 t1 z) := by
  unfold cm_X4_onward_0
  exact (fo_if (hgo 1 _ _ _ _ _ _ _ z hz (fun _ => by omega)) (hgo 1 _ _ _ _ _ _ _ z hz (fun _ => by omega)))
theorem fb_X4_onward_1 {K : Nat} {vl : Nat → Nat} {z0 z : ow_MS} {pr0 : Nat} {go : Nat → Int32 → Int32 → Int32 → Int32 → Nat → Int32 → Int32 → ow_MS → Option (Int32 × ow_MS)} {x1 : Int32} {x2 : Int32} {x3 : Int32} {x4 : Int32} {r0 : Nat} {t0 : Int32} {t1 : Int32} (hgo : ∀ (L : Nat) (x1 : Int32) (x2 : Int32) (x3 : Int32) (x4 : Int32) (r0 : Nat) (t0 : Int32) (t1 : Int32) (z : ow_MS), fr (fun _ => False) z0 z → (L = 0 ∨ L = 1 ∨ L = 2 ∨ L = 3 ∨ L = 4 ∨ L = 5 → r0 = pr0) → Fo Prod.snd (fun _ => False) z0 (go L x1 x2 x3 x4 r0 t0 t1 z)) (hz : fr (fun _ => False) z0 z) (e_r0 : r0 = pr0) : Fo Prod.snd (fun _ => False) z0 (cm_X4_onward_1 vl K go x1 x2 x3 x4 r0 t0 t1 z) := by
  unfold cm_X4_onward_1
  exact (fo_if (hgo 2 _ _ _ _ _ _ _ z hz (fun _ => by omega)) (fc_crI (fun v1 => (hgo 2 _ _ _ _ _ _ _ z hz (fun _ => by omega)))))
theorem fb_X4_onward_2 {K : Nat} {vl : Nat → Nat} {z0 z : ow_MS} {pr0 : Nat} {go : Nat → Int32 → Int32 → Int32 → Int32 → Nat → Int32 → Int32 → ow_MS → Option (Int32 × ow_MS)} {x1 : Int32} {x2 : Int32} {x3 : Int32} {x4 : Int32} {r0 : Nat} {t0 : Int32} {t1 : Int32} (hgo : ∀ (L : Nat) (x1 : Int32) (x2 : Int32) (x3 : Int32) (x4 : Int32) (r0 : Nat) (t0 : Int32) (t1 : Int32) (z : ow_MS), fr (fun _ => False) z0 z → (L = 0 ∨ L = 1 ∨ L = 2 ∨ L = 3 ∨ L = 4 ∨ L = 5 → r0 = pr0) → Fo Prod.snd (fun _ => False) z0 (go L x1 x2 x3 x4 r0 t0 t1 z)) (hz : fr (fun _ => False) z0 z) (e_r0 : r0 = pr0) : Fo Prod.snd (fun _ => False) z0 (cm_X4_onward_2 vl K go x1 x2 x3 x4 r0 t0 t1 z) := by
  unfold cm_X4_onward_2
  exact (fo_if (hgo 3 _ _ _ _ _ _ _ z hz (fun _ => by omega)) (hgo 3 _ _ _ _ _ _ _ z hz (fun _ => by omega)))
theorem fb_X4_onward_3 {K : Nat} {vl : Nat → Nat} {z0 z : ow_MS} {pr0 : Nat} {go : Nat → Int32 → Int32 → Int32 → Int32 → Nat → Int32 → Int32 → ow_MS → Option (Int32 × ow_MS)} {x1 : Int32} {x2 : Int32} {x3 : Int32} {x4 : Int32} {r0 : Nat} {t0 : Int32} {t1 : Int32} (hgo : ∀ (L : Nat) (x1 : Int32) (x2 : Int32) (x3 : Int32) (x4 : Int32) (r0 : Nat) (t0 : Int32) (t1 : Int32) (z : ow_MS), fr (fun _ => False) z0 z → (L = 0 ∨ L = 1 ∨ L = 2 ∨ L = 3 ∨ L = 4 ∨ L = 5 → r0 = pr0) → Fo Prod.snd (fun _ => False) z0 (go L x1 x2 x3 x4 r0 t0 t1 z)) (hz : fr (fun _ => False) z0 z) (e_r0 : r0 = pr0) : Fo Prod.snd (fun _ => False) z0 (cm_X4_onward_3 vl K go x1 x2 x3 x4 r0 t0 t1 z) := by
  unfold cm_X4_onward_3
  exact (fc_crI (fun v2 => (fo_if (hgo 4 _ _ _ _ _ _ _ z hz (fun _ => by omega)) (hgo 4 _ _ _ _ _ _ _ z hz (fun _ => by omega)))))
theorem fb_X4_onward_4 {K : Nat} {vl : Nat → Nat} {z0 z : ow_MS} {pr0 : Nat} {go : Nat → Int32 → Int32 → Int32 → Int32 → Nat → Int32 → Int32 → ow_MS → Option (Int32 × ow_MS)} {x1 : Int32} {x2 : Int32} {x3 : Int32} {x4 : Int32} {r0 : Nat} {t0 : Int32} {t1 : Int32} (hgo : ∀ (L : Nat) (x1 : Int32) (x2 : Int32) (x3 : Int32) (x4 : Int32) (r0 : Nat) (t0 : Int32) (t1 : Int32) (z : ow_MS), fr (fun _ => False) z0 z → (L = 0 ∨ L = 1 ∨ L = 2 ∨ L = 3 ∨ L = 4 ∨ L = 5 → r0 = pr0) → Fo Prod.snd (fun _ => False) z0 (go L x1 x2 x3 x4 r0 t0 t1 z)) (hz : fr (fun _ => False) z0 z) (e_r0 : r0 = pr0) : Fo Prod.snd (fun _ => False) z0 (cm_X4_onward_4 vl K go x1 x2 x3 x4 r0 t0 t1 z) := by
  unfold cm_X4_onward_4
  exact (fo_if (hgo 5 _ _ _ _ _ _ _ z hz (fun _ => by omega)) (hgo 5 _ _ _ _ _ _ _ z hz (fun _ => by omega)))
theorem fb_X4_onward_5 {K : Nat} {vl : Nat → Nat} {z0 z : ow_MS} {pr0 : Nat} {go : Nat → Int32 → Int32 → Int32 → Int32 → Nat → Int32 → Int32 → ow_MS → Option (Int32 × ow_MS)} {x1 : Int32} {x2 : Int32} {x3 : Int32} {x4 : Int32} {r0 : Nat} {t0 : Int32} {t1 : Int32} (hgo : ∀ (L : Nat) (x1 : Int32) (x2 : Int32) (x3 : Int32) (x4 : Int32) (r0 : Nat) (t0 : Int32) (t1 : Int32) (z : ow_MS), fr (fun _ => False) z0 z → (L = 0 ∨ L = 1 ∨ L = 2 ∨ L = 3 ∨ L = 4 ∨ L = 5 → r0 = pr0) → Fo Prod.snd (fun _ => False) z0 (go L x1 x2 x3 x4 r0 t0 t1 z)) (hz : fr (fun _ => False) z0 z) (e_r0 : r0 = pr0) : Fo Prod.snd (fun _ => False) z0 (cm_X4_onward_5 vl K go x1 x2 x3 x4 r0 t0 t1 z) := by
  unfold cm_X4_onward_5
  exact (fo_if (fo_some hz) (fc_crI (fun v3 => (fo_some hz))))
theorem fq_X4_onward {K : Nat} {vl : Nat → Nat} {z0 : ow_MS} {pr0 : Nat} : ∀ (k L : Nat) (x1 : Int32) (x2 : Int32) (x3 : Int32) (x4 : Int32) (r0 : Nat) (t0 : Int32) (t1 : Int32) (z : ow_MS), fr (fun _ => False) z0 z → (L = 0 ∨ L = 1 ∨ L = 2 ∨ L = 3 ∨ L = 4 ∨ L = 5 → r0 = pr0) → Fo Prod.snd (fun _ => False) z0 (c_X4_onward vl K k L x1 x2 x3 x4 r0 t0 t1 z)
  | 0 => by
    intros
    exact fo_none
  | k + 1 => by
    intro L x1 x2 x3 x4 r0 t0 t1 z hz h9_r0
    show Fo Prod.snd (fun _ => False) z0 (cb_X4_onward vl K (c_X4_onward vl K k) L x1 x2 x3 x4 r0 t0 t1 z)
    unfold cb_X4_onward
    split
    · exact fb_X4_onward_0 (fq_X4_onward k) hz (h9_r0 (by decide))
    · exact fb_X4_onward_1 (fq_X4_onward k) hz (h9_r0 (by decide))
    · exact fb_X4_onward_2 (fq_X4_onward k) hz (h9_r0 (by decide))
    · exact fb_X4_onward_3 (fq_X4_onward k) hz (h9_r0 (by decide))
    · exact fb_X4_onward_4 (fq_X4_onward k) hz (h9_r0 (by decide))
    · exact fb_X4_onward_5 (fq_X4_onward k) hz (h9_r0 (by decide))
    · exact fo_none
theorem ff_X4_onward {vl : Nat → Nat} {K : Nat} {r0 : Nat} {x1 : Int32} {z : ow_MS} : Fo Prod.snd (fun _ => False) z (ce_X4_onward vl K r0 x1 z) := fq_X4_onward (pr0 := r0) K 0 _ _ _ _ _ _ _ z fr_rf (fun _ => rfl)
theorem fb_X4_mark_0 {K : Nat} {vl : Nat → Nat} {z0 z : ow_MS} {pr0 : Nat} {pr1 : Nat} {go : Nat → Int32 → Int32 → Int32 → Int32 → Nat → Nat → ow_MS → Option ow_MS} {x2 : Int32} {x3 : Int32} {x4 : Int32} {x5 : Int32} {r0 : Nat} {r1 : Nat} (hgo : ∀ (L : Nat) (x2 : Int32) (x3 : Int32) (x4 : Int32) (x5 : Int32) (r0 : Nat) (r1 : Nat) (z : ow_MS), fr (fun g => pr0 + 1 ≤ g ∧ g ≤ pr0 + 2) z0 z → (L = 0 ∨ L = 1 ∨ L = 2 ∨ L = 3 ∨ L = 4 → r0 = pr0) → (L = 0 ∨ L = 1 ∨ L = 2 ∨ L = 3 ∨ L = 4 → r1 = pr1) → Fo id (fun g => pr0 + 1 ≤ g ∧ g ≤ pr0 + 2) z0 (go L x2 x3 x4 x5 r0 r1 z)) (hz : fr (fun g => pr0 + 1 ≤ g ∧ g ≤ pr0 + 2) z0 z) (e_r0 : r0 = pr0) (e_r1 : r1 = pr1) : Fo id (fun g => pr0 + 1 ≤ g ∧ g ≤ pr0 + 2) z0 (cm_X4_mark_0 vl K go x2 x3 x4 x5 r0 r1 z) := by
  unfold cm_X4_mark_0
  exact (fo_rdF (fun v1 => (fo_cs0 ff_J7_fill_fda19 (fun g hg => by omega) hz (fun z2 h_z2 => (fo_wrF (by omega) h_z2 (fun z3 h_z3 => (hgo 1 _ _ _ _ _ _ z3 h_z3 (fun _ => by omega) (fun _ => by omega))))))))
theorem fb_X4_mark_1 {K : Nat} {vl : Nat → Nat} {z0 z : ow_MS} {pr0 : Nat} {pr1 : Nat} {go : Nat → Int32 → Int32 → Int32 → Int32 → Nat → Nat → ow_MS → Option ow_MS} {x2 : Int32} {x3 : Int32} {x4 : Int32} {x5 : Int32} {r0 : Nat} {r1 : Nat} (hgo : ∀ (L : Nat) (x2 : Int32) (x3 : Int32) (x4 : Int32) (x5 : Int32) (r0 : Nat) (r1 : Nat) (z : ow_MS), fr (fun g => pr0 + 1 ≤ g ∧ g ≤ pr0 + 2) z0 z → (L = 0 ∨ L = 1 ∨ L = 2 ∨ L = 3 ∨ L = 4 → r0 = pr0) → (L = 0 ∨ L = 1 ∨ L = 2 ∨ L = 3 ∨ L = 4 → r1 = pr1) → Fo id (fun g => pr0 + 1 ≤ g ∧ g ≤ pr0 + 2) z0 (go L x2 x3 x4 x5 r0 r1 z)) (hz : fr (fun g => pr0 + 1 ≤ g ∧ g ≤ pr0 + 2) z0 z) (e_r0 : r0 = pr0) (e_r1 : r1 = pr1) : Fo id (fun g => pr0 + 1 ≤ g ∧ g ≤ pr0 + 2) z0 (cm_X4_mark_1 vl K go x2 x3 x4 x5 r0 r1 z) := by
  unfold cm_X4_mark_1
  exact (fo_if (fo_some hz) (fc_crI (fun v4 => (fo_if (hgo 2 _ _ _ _ _ _ z hz (fun _ => by omega) (fun _ => by omega)) (hgo 4 _ _ _ _ _ _ z hz (fun _ => by omega) (fun _ => by omega))))))
theorem fb_X4_mark_2 {K : Nat} {vl : Nat → Nat} {z0 z : ow_MS} {pr0 : Nat} {pr1 : Nat} {go : Nat → Int32 → Int32 → Int32 → Int32 → Nat → Nat → ow_MS → Option ow_MS} {x2 : Int32} {x3 : Int32} {x4 : Int32} {x5 : Int32} {r0 : Nat} {r1 : Nat} (hgo : ∀ (L : Nat) (x2 : Int32) (x3 : Int32) (x4 : Int32) (x5 : Int32) (r0 : Nat) (r1 : Nat) (z : ow_MS), fr (fun g => pr0 + 1 ≤ g ∧ g ≤ pr0 + 2) z0 z → (L = 0 ∨ L = 1 ∨ L = 2 ∨ L = 3 ∨ L = 4 → r0 = pr0) → (L = 0 ∨ L = 1 ∨ L = 2 ∨ L = 3 ∨ L = 4 → r1 = pr1) → Fo id (fun g => pr0 + 1 ≤ g ∧ g ≤ pr0 + 2) z0 (go L x2 x3 x4 x5 r0 r1 z)) (hz : fr (fun g => pr0 + 1 ≤ g ∧ g ≤ pr0 + 2) z0 z) (e_r0 : r0 = pr0) (e_r1 : r1 = pr1) : Fo id (fun g => pr0 + 1 ≤ g ∧ g ≤ pr0 + 2) z0 (cm_X4_mark_2 vl K go x2 x3 x4 x5 r0 r1 z) := by
  unfold cm_X4_mark_2
  exact (fo_if (hgo 3 _ _ _ _ _ _ z hz (fun _ => by omega) (fun _ => by omega)) (fc_crI (fun v5 => (fo_if (fo_rdF (fun v6 => (fc_ctI (by omega) hz (fun z7 h_z7 => (fo_cs1 ff_X4_onward (fun g hg => hg.elim) h_z7 (fun v9 z8 h_z8 => (hgo 2 _ _ _ _ _ _ z8 h_z8 (fun _ => by omega) (fun _ => by omega)))))))) (hgo 3 _ _ _ _ _ _ z hz (fun _ => by omega) (fun _ => by omega))))))
theorem fb_X4_mark_3 {K : Nat} {vl : Nat → Nat} {z0 z : ow_MS} {pr0 : Nat} {pr1 : Nat} {go : Nat → Int32 → Int32 → Int32 → Int32 → Nat → Nat → ow_MS → Option ow_MS} {x2 : Int32} {x3 : Int32} {x4 : Int32} {x5 : Int32} {r0 : Nat} {r1 : Nat} (hgo : ∀ (L : Nat) (x2 : Int32) (x3 : Int32) (x4 : Int32) (x5 : Int32) (r0 : Nat) (r1 : Nat) (z : ow_MS), fr (fun g => pr0 + 1 ≤ g ∧ g ≤ pr0 + 2) z0 z → (L = 0 ∨ L = 1 ∨ L = 2 ∨ L = 3 ∨ L = 4 → r0 = pr0) → (L = 0 ∨ L = 1 ∨ L = 2 ∨ L = 3 ∨ L = 4 → r1 = pr1) → Fo id (fun g => pr0 + 1 ≤ g ∧ g ≤ pr0 + 2) z0 (go L x2 x3 x4 x5 r0 r1 z)) (hz : fr (fun g => pr0 + 1 ≤ g ∧ g ≤ pr0 + 2) z0 z) (e_r0 : r0 = pr0) (e_r1 : r1 = pr1) : Fo id (fun g => pr0 + 1 ≤ g ∧ g ≤ pr0 + 2) z0 (cm_X4_mark_3 vl K go x2 x3 x4 x5 r0 r1 z) := by
  unfold cm_X4_mark_3
  exact (fo_rdF (fun v10 => (fo_wrF (by omega) hz (fun z11 h_z11 => (hgo 4 _ _ _ _ _ _ z11 h_z11 (fun _ => by omega) (fun _ => by omega))))))
theorem fb_X4_mark_4 {K : Nat} {vl : Nat → Nat} {z0 z : ow_MS} {pr0 : Nat} {pr1 : Nat} {go : Nat → Int32 → Int32 → Int32 → Int32 → Nat → Nat → ow_MS → Option ow_MS} {x2 : Int32} {x3 : Int32} {x4 : Int32} {x5 : Int32} {r0 : Nat} {r1 : Nat} (hgo : ∀ (L : Nat) (x2 : Int32) (x3 : Int32) (x4 : Int32) (x5 : Int32) (r0 : Nat) (r1 : Nat) (z : ow_MS), fr (fun g => pr0 + 1 ≤ g ∧ g ≤ pr0 + 2) z0 z → (L = 0 ∨ L = 1 ∨ L = 2 ∨ L = 3 ∨ L = 4 → r0 = pr0) → (L = 0 ∨ L = 1 ∨ L = 2 ∨ L = 3 ∨ L = 4 → r1 = pr1) → Fo id (fun g => pr0 + 1 ≤ g ∧ g ≤ pr0 + 2) z0 (go L x2 x3 x4 x5 r0 r1 z)) (hz : fr (fun g => pr0 + 1 ≤ g ∧ g ≤ pr0 + 2) z0 z) (e_r0 : r0 = pr0) (e_r1 : r1 = pr1) : Fo id (fun g => pr0 + 1 ≤ g ∧ g ≤ pr0 + 2) z0 (cm_X4_mark_4 vl K go x2 x3 x4 x5 r0 r1 z) := by
  unfold cm_X4_mark_4
  exact (hgo 1 _ _ _ _ _ _ z hz (fun _ => by omega) (fun _ => by omega))
theorem fq_X4_mark {K : Nat} {vl : Nat → Nat} {z0 : ow_MS} {pr0 : Nat} {pr1 : Nat} : ∀ (k L : Nat) (x2 : Int32) (x3 : Int32) (x4 : Int32) (x5 : Int32) (r0 : Nat) (r1 : Nat) (z : ow_MS), fr (fun g => pr0 + 1 ≤ g ∧ g ≤ pr0 + 2) z0 z → (L = 0 ∨ L = 1 ∨ L = 2 ∨ L = 3 ∨ L = 4 → r0 = pr0) → (L = 0 ∨ L = 1 ∨ L = 2 ∨ L = 3 ∨ L = 4 → r1 = pr1) → Fo id (fun g => pr0 + 1 ≤ g ∧ g ≤ pr0 + 2) z0 (c_X4_mark vl K k L x2 x3 x4 x5 r0 r1 z)
  | 0 => by
    intros
    exact fo_none
  | k + 1 => by
    intro L x2 x3 x4 x5 r0 r1 z hz h9_r0 h9_r1
    show Fo id (fun g => pr0 + 1 ≤ g ∧ g ≤ pr0 + 2) z0 (cb_X4_mark vl K (c_X4_mark vl K k) L x2 x3 x4 x5 r0 r1 z)
    unfold cb_X4_mark
    split
    · exact fb_X4_mark_0 (fq_X4_mark k) hz (h9_r0 (by decide)) (h9_r1 (by decide))
    · exact fb_X4_mark_1 (fq_X4_mark k) hz (h9_r0 (by decide)) (h9_r1 (by decide))
    · exact fb_X4_mark_2 (fq_X4_mark k) hz (h9_r0 (by decide)) (h9_r1 (by decide))
    · exact fb_X4_mark_3 (fq_X4_mark k) hz (h9_r0 (by decide)) (h9_r1 (by decide))
    · exact fb_X4_mark_4 (fq_X4_mark k) hz (h9_r0 (by decide)) (h9_r1 (by decide))
    · exact fo_none
theorem ff_X4_mark {vl : Nat → Nat} {K : Nat} {r0 : Nat} {r1 : Nat} {z : ow_MS} : Fo id (fun g => r0 + 1 ≤ g ∧ g ≤ r0 + 2) z (ce_X4_mark vl K r0 r1 z) := fq_X4_mark (pr0 := r0) (pr1 := r1) K 0 _ _ _ _ _ _ z fr_rf (fun _ => rfl) (fun _ => rfl)
theorem ff_X4_isPlane {vl : Nat → Nat} {K : Nat} {r0 : Nat} {r1 : Nat} {z : ow_MS} : Fo Prod.snd (fun g => r0 + 1 ≤ g ∧ g ≤ r0 + 2 ∨ r1 + 6 ≤ g ∧ g ≤ r1 + 11) z (ce_X4_isPlane vl K r0 r1 z) := by
  unfold ce_X4_isPlane cm_X4_isPlane_0
  exact (fo_cs0 ff_X7_markParts (fun g hg => by omega) fr_rf (fun z1 h_z1 => (fo_cs0 ff_X4_mark (fun g hg => by omega) h_z1 (fun z2 h_z2 => (fo_rdF (fun v3 => (fo_rdF (fun v4 => (fo_rdF (fun v5 => (fo_if (fo_okZ (fo_some h_z2)) (fo_okZ (fo_some h_z2)))))))))))))
theorem ff_X2_firstCell {vl : Nat → Nat} {K : Nat} {r0 : Nat} {x1 : Int32} {z : ow_MS} : Fo Prod.snd (fun _ => False) z (ce_X2_firstCell vl K r0 x1 z) := by
  unfold ce_X2_firstCell cm_X2_firstCell_0
  exact (fc_crI (fun v1 => (fo_if (fo_some fr_rf) (fo_some fr_rf))))
theorem fb_X2_leastFirstCell_0 {K : Nat} {vl : Nat → Nat} {z0 z : ow_MS} {pr0 : Nat} {go : Nat → Int32 → Int32 → Int32 → Nat → ow_MS → Option (Int32 × ow_MS)} {x1 : Int32} {x2 : Int32} {x3 : Int32} {r0 : Nat} (hgo : ∀ (L : Nat) (x1 : Int32) (x2 : Int32) (x3 : Int32) (r0 : Nat) (z : ow_MS), fr (fun _ => False) z0 z → (L = 0 ∨ L = 1 ∨ L = 2 → r0 = pr0) → Fo Prod.snd (fun _ => False) z0 (go L x1 x2 x3 r0 z)) (hz : fr (fun _ => False) z0 z) (e_r0 : r0 = pr0) : Fo Prod.snd (fun _ => False) z0 (cm_X2_leastFirstCell_0 vl K go x1 x2 x3 r0 z) := by
  unfold cm_X2_leastFirstCell_0
  exact (hgo 1 _ _ _ _ z hz (fun _ => by omega))
theorem fb_X2_leastFirstCell_1 {K : Nat} {vl : Nat → Nat} {z0 z : ow_MS} {pr0 : Nat} {go : Nat → Int32 → Int32 → Int32 → Nat → ow_MS → Option (Int32 × ow_MS)} {x1 : Int32} {x2 : Int32} {x3 : Int32} {r0 : Nat} (hgo : ∀ (L : Nat) (x1 : Int32) (x2 : Int32) (x3 : Int32) (r0 : Nat) (z : ow_MS), fr (fun _ => False) z0 z → (L = 0 ∨ L = 1 ∨ L = 2 → r0 = pr0) → Fo Prod.snd (fun _ => False) z0 (go L x1 x2 x3 r0 z)) (hz : fr (fun _ => False) z0 z) (e_r0 : r0 = pr0) : Fo Prod.snd (fun _ => False) z0 (cm_X2_leastFirstCell_1 vl K go x1 x2 x3 r0 z) := by
  unfold cm_X2_leastFirstCell_1
  exact (fo_rdF (fun v1 => (fo_if (fo_some hz) (fc_crI (fun v2 => (fo_if (fo_cs1 ff_X2_firstCell (fun g hg => hg.elim) hz (fun v4 z3 h_z3 => (hgo 2 _ _ _ _ z3 h_z3 (fun _ => by omega)))) (hgo 2 _ _ _ _ z hz (fun _ => by omega))))))))
theorem fb_X2_leastFirstCell_2 {K : Nat} {vl : Nat → Nat} {z0 z : ow_MS} {pr0 : Nat} {go : Nat → Int32 → Int32 → Int32 → Nat → ow_MS → Option (Int32 × ow_MS)} {x1 : Int32} {x2 : Int32} {x3 : Int32} {r0 : Nat} (hgo : ∀ (L : Nat) (x1 : Int32) (x2 : Int32) (x3 : Int32) (r0 : Nat) (z : ow_MS), fr (fun _ => False) z0 z → (L = 0 ∨ L = 1 ∨ L = 2 → r0 = pr0) → Fo Prod.snd (fun _ => False) z0 (go L x1 x2 x3 r0 z)) (hz : fr (fun _ => False) z0 z) (e_r0 : r0 = pr0) : Fo Prod.snd (fun _ => False) z0 (cm_X2_leastFirstCell_2 vl K go x1 x2 x3 r0 z) := by
  unfold cm_X2_leastFirstCell_2
  exact (hgo 1 _ _ _ _ z hz (fun _ => by omega))
theorem fq_X2_leastFirstCell {K : Nat} {vl : Nat → Nat} {z0 : ow_MS} {pr0 : Nat} : ∀ (k L : Nat) (x1 : Int32) (x2 : Int32) (x3 : Int32) (r0 : Nat) (z : ow_MS), fr (fun _ => False) z0 z → (L = 0 ∨ L = 1 ∨ L = 2 → r0 = pr0) → Fo Prod.snd (fun _ => False) z0 (c_X2_leastFirstCell vl K k L x1 x2 x3 r0 z)
  | 0 => by
    intros
    exact fo_none
  | k + 1 => by
    intro L x1 x2 x3 r0 z hz h9_r0
    show Fo Prod.snd (fun _ => False) z0 (cb_X2_leastFirstCell vl K (c_X2_leastFirstCell vl K k) L x1 x2 x3 r0 z)
    unfold cb_X2_leastFirstCell
    split
    · exact fb_X2_leastFirstCell_0 (fq_X2_leastFirstCell k) hz (h9_r0 (by decide))
    · exact fb_X2_leastFirstCell_1 (fq_X2_leastFirstCell k) hz (h9_r0 (by decide))
    · exact fb_X2_leastFirstCell_2 (fq_X2_leastFirstCell k) hz (h9_r0 (by decide))
    · exact fo_none
theorem ff_X2_leastFirstCell {vl : Nat → Nat} {K : Nat} {r0 : Nat} {x1 : Int32} {z : ow_MS} : Fo Prod.snd (fun _ => False) z (ce_X2_leastFirstCell vl K r0 x1 z) := fq_X2_leastFirstCell (pr0 := r0) K 0 _ _ _ _ z fr_rf (fun _ => rfl)
theorem fb_X2_tryFrom_0 {K : Nat} {vl : Nat → Nat} {z0 z : ow_MS} {pr0 : Nat} {pr1 : Nat} {go : Nat → Int32 → Int32 → Int32 → Int32 → Int32 → Int32 → Int32 → Int32 → Int32 → Int32 → Int32 → Int32 → Nat → Nat → Nat → Int32 → ow_MS → Option (Int32 × ow_MS)} {x2 : Int32} {x4 : Int32} {x5 : Int32} {x6 : Int32} {x7 : Int32} {x8 : Int32} {x9 : Int32} {x10 : Int32} {x11 : Int32} {x12 : Int32} {x13 : Int32} {x14 : Int32} {r0 : Nat} {r1 : Nat} {r3 : Nat} {t0 : Int32} (hgo : ∀ (L : Nat) (x2 : Int32) (x4 : Int32) (x5 : Int32) (x6 : Int32) (x7 : Int32) (x8 : Int32) (x9 : Int32) (x10 : Int32) (x11 : Int32) (x12 : Int32) (x13 : Int32) (x14 : Int32) (r0 : Nat) (r1 : Nat) (r3 : Nat) (t0 : Int32) (z : ow_MS), fr (fun g => pr0 + 4 ≤ g ∧ g ≤ pr0 + 6) z0 z → (L = 0 ∨ L = 1 ∨ L = 2 ∨ L = 3 ∨ L = 4 ∨ L = 5 ∨ L = 6 ∨ L = 7 ∨ L = 8 ∨ L = 9 ∨ L = 10 ∨ L = 11 ∨ L = 12 ∨ L = 13 ∨ L = 14 → r0 = pr0) → (L = 0 ∨ L = 1 ∨ L = 2 ∨ L = 3 ∨ L = 4 ∨ L = 5 ∨ L = 6 ∨ L = 7 ∨ L = 8 ∨ L = 9 ∨ L = 10 ∨ L = 11 ∨ L = 12 ∨ L = 13 ∨ L = 14 → r1 = pr1) → (L = 1 ∨ L = 2 ∨ L = 3 ∨ L = 4 ∨ L = 5 ∨ L = 6 ∨ L = 7 ∨ L = 8 ∨ L = 9 ∨ L = 10 ∨ L = 11 ∨ L = 12 ∨ L = 13 ∨ L = 14 → r3 = pr0 + 2001) → Fo Prod.snd (fun g => pr0 + 4 ≤ g ∧ g ≤ pr0 + 6) z0 (go L x2 x4 x5 x6 x7 x8 x9 x10 x11 x12 x13 x14 r0 r1 r3 t0 z)) (hz : fr (fun g => pr0 + 4 ≤ g ∧ g ≤ pr0 + 6) z0 z) (e_r0 : r0 = pr0) (e_r1 : r1 = pr1) : Fo Prod.snd (fun g => pr0 + 4 ≤ g ∧ g ≤ pr0 + 6) z0 (cm_X2_tryFrom_0 vl K go x2 x4 x5 x6 x7 x8 x9 x10 x11 x12 x13 x14 r0 r1 r3 t0 z) := by
  unfold cm_X2_tryFrom_0
  exact (fo_cs0 ff_J7_fill_53178 (fun g hg => by omega) hz (fun z1 h_z1 => (fc_crI (fun v2 => (fo_if (hgo 1 _ _ _ _ _ _ _ _ _ _ _ _ _ _ _ _ z1 h_z1 (fun _ => by omega) (fun _ => by omega) (fun _ => by omega)) (hgo 1 _ _ _ _ _ _ _ _ _ _ _ _ _ _ _ _ z1 h_z1 (fun _ => by omega) (fun _ => by omega) (fun _ => by omega)))))))
theorem fb_X2_tryFrom_1 {K : Nat} {vl : Nat → Nat} {z0 z : ow_MS} {pr0 : Nat} {pr1 : Nat} {go : Nat → Int32 → Int32 → Int32 → Int32 → Int32 → Int32 → Int32 → Int32 → Int32 → Int32 → Int32 → Int32 → Nat → Nat → Nat → Int32 → ow_MS → Option (Int32 × ow_MS)} {x2 : Int32} {x4 : Int32} {x5 : Int32} {x6 : Int32} {x7 : Int32} {x8 : Int32} {x9 : Int32} {x10 : Int32} {x11 : Int32} {x12 : Int32} {x13 : Int32} {x14 : Int32} {r0 : Nat} {r1 : Nat} {r3 : Nat} {t0 : Int32} (hgo : ∀ (L : Nat) (x2 : Int32) (x4 : Int32) (x5 : Int32) (x6 : Int32) (x7 : Int32) (x8 : Int32) (x9 : Int32) (x10 : Int32) (x11 : Int32) (x12 : Int32) (x13 : Int32) (x14 : Int32) (r0 : Nat) (r1 : Nat) (r3 : Nat) (t0 : Int32) (z : ow_MS), fr (fun g => pr0 + 4 ≤ g ∧ g ≤ pr0 + 6) z0 z → (L = 0 ∨ L = 1 ∨ L = 2 ∨ L = 3 ∨ L = 4 ∨ L = 5 ∨ L = 6 ∨ L = 7 ∨ L = 8 ∨ L = 9 ∨ L = 10 ∨ L = 11 ∨ L = 12 ∨ L = 13 ∨ L = 14 → r0 = pr0) → (L = 0 ∨ L = 1 ∨ L = 2 ∨ L = 3 ∨ L = 4 ∨ L = 5 ∨ L = 6 ∨ L = 7 ∨ L = 8 ∨ L = 9 ∨ L = 10 ∨ L = 11 ∨ L = 12 ∨ L = 13 ∨ L = 14 → r1 = pr1) → (L = 1 ∨ L = 2 ∨ L = 3 ∨ L = 4 ∨ L = 5 ∨ L = 6 ∨ L = 7 ∨ L = 8 ∨ L = 9 ∨ L = 10 ∨ L = 11 ∨ L = 12 ∨ L = 13 ∨ L = 14 → r3 = pr0 + 2001) → Fo Prod.snd (fun g => pr0 + 4 ≤ g ∧ g ≤ pr0 + 6) z0 (go L x2 x4 x5 x6 x7 x8 x9 x10 x11 x12 x13 x14 r0 r1 r3 t0 z)) (hz : fr (fun g => pr0 + 4 ≤ g ∧ g ≤ pr0 + 6) z0 z) (e_r0 : r0 = pr0) (e_r1 : r1 = pr1) (e_r3 : r3 = pr0 + 2001) : Fo Prod.snd (fun g => pr0 + 4 ≤ g ∧ g ≤ pr0 + 6) z0 (cm_X2_tryFrom_1 vl K go x2 x4 x5 x6 x7 x8 x9 x10 x11 x12 x13 x14 r0 r1 r3 t0 z) := by
  unfold cm_X2_tryFrom_1
  exact (hgo 2 _ _ _ _ _ _ _ _ _ _ _ _ _ _ _ _ z hz (fun _ => by omega) (fun _ => by omega) (fun _ => by omega))
theorem fb_X2_tryFrom_2 {K : Nat} {vl : Nat → Nat} {z0 z : ow_MS} {pr0 : Nat} {pr1 : Nat} {go : Nat → Int32 → Int32 → Int32 → Int32 → Int32 → Int32 → Int32 → Int32 → Int32 → Int32 → Int32 → Int32 → Nat → Nat → Nat → Int32 → ow_MS → Option (Int32 × ow_MS)} {x2 : Int32} {x4 : Int32} {x5 : Int32} {x6 : Int32} {x7 : Int32} {x8 : Int32} {x9 : Int32} {x10 : Int32} {x11 : Int32} {x12 : Int32} {x13 : Int32} {x14 : Int32} {r0 : Nat} {r1 : Nat} {r3 : Nat} {t0 : Int32} (hgo : ∀ (L : Nat) (x2 : Int32) (x4 : Int32) (x5 : Int32) (x6 : Int32) (x7 : Int32) (x8 : Int32) (x9 : Int32) (x10 : Int32) (x11 : Int32) (x12 : Int32) (x13 : Int32) (x14 : Int32) (r0 : Nat) (r1 : Nat) (r3 : Nat) (t0 : Int32) (z : ow_MS), fr (fun g => pr0 + 4 ≤ g ∧ g ≤ pr0 + 6) z0 z → (L = 0 ∨ L = 1 ∨ L = 2 ∨ L = 3 ∨ L = 4 ∨ L = 5 ∨ L = 6 ∨ L = 7 ∨ L = 8 ∨ L = 9 ∨ L = 10 ∨ L = 11 ∨ L = 12 ∨ L = 13 ∨ L = 14 → r0 = pr0) → (L = 0 ∨ L = 1 ∨ L = 2 ∨ L = 3 ∨ L = 4 ∨ L = 5 ∨ L = 6 ∨ L = 7 ∨ L = 8 ∨ L = 9 ∨ L = 10 ∨ L = 11 ∨ L = 12 ∨ L = 13 ∨ L = 14 → r1 = pr1) → (L = 1 ∨ L = 2 ∨ L = 3 ∨ L = 4 ∨ L = 5 ∨ L = 6 ∨ L = 7 ∨ L = 8 ∨ L = 9 ∨ L = 10 ∨ L = 11 ∨ L = 12 ∨ L = 13 ∨ L = 14 → r3 = pr0 + 2001) → Fo Prod.snd (fun g => pr0 + 4 ≤ g ∧ g ≤ pr0 + 6) z0 (go L x2 x4 x5 x6 x7 x8 x9 x10 x11 x12 x13 x14 r0 r1 r3 t0 z)) (hz : fr (fun g => pr0 + 4 ≤ g ∧ g ≤ pr0 + 6) z0 z) (e_r0 : r0 = pr0) (e_r1 : r1 = pr1) (e_r3 : r3 = pr0 + 2001) : Fo Prod.snd (fun g => pr0 + 4 ≤ g ∧ g ≤ pr0 + 6) z0 (cm_X2_tryFrom_2 vl K go x2 x4 x5 x6 x7 x8 x9 x10 x11 x12 x13 x14 r0 r1 r3 t0 z) := by
  unfold cm_X2_tryFrom_2
  exact (fo_if (hgo 14 _ _ _ _ _ _ _ _ _ _ _ _ _ _ _ _ z hz (fun _ => by omega) (fun _ => by omega) (fun _ => by omega)) (fo_if (hgo 14 _ _ _ _ _ _ _ _ _ _ _ _ _ _ _ _ z hz (fun _ => by omega) (fun _ => by omega) (fun _ => by omega)) (hgo 3 _ _ _ _ _ _ _ _ _ _ _ _ _ _ _ _ z hz (fun _ => by omega) (fun _ => by omega) (fun _ => by omega))))
theorem fb_X2_tryFrom_3 {K : Nat} {vl : Nat → Nat} {z0 z : ow_MS} {pr0 : Nat} {pr1 : Nat} {go : Nat → Int32 → Int32 → Int32 → Int32 → Int32 → Int32 → Int32 → Int32 → Int32 → Int32 → Int32 → Int32 → Nat → Nat → Nat → Int32 → ow_MS → Option (Int32 × ow_MS)} {x2 : Int32} {x4 : Int32} {x5 : Int32} {x6 : Int32} {x7 : Int32} {x8 : Int32} {x9 : Int32} {x10 : Int32} {x11 : Int32} {x12 : Int32} {x13 : Int32} {x14 : Int32} {r0 : Nat} {r1 : Nat} {r3 : Nat} {t0 : Int32} (hgo : ∀ (L : Nat) (x2 : Int32) (x4 : Int32) (x5 : Int32) (x6 : Int32) (x7 : Int32) (x8 : Int32) (x9 : Int32) (x10 : Int32) (x11 : Int32) (x12 : Int32) (x13 : Int32) (x14 : Int32) (r0 : Nat) (r1 : Nat) (r3 : Nat) (t0 : Int32) (z : ow_MS), fr (fun g => pr0 + 4 ≤ g ∧ g ≤ pr0 + 6) z0 z → (L = 0 ∨ L = 1 ∨ L = 2 ∨ L = 3 ∨ L = 4 ∨ L = 5 ∨ L = 6 ∨ L = 7 ∨ L = 8 ∨ L = 9 ∨ L = 10 ∨ L = 11 ∨ L = 12 ∨ L = 13 ∨ L = 14 → r0 = pr0) → (L = 0 ∨ L = 1 ∨ L = 2 ∨ L = 3 ∨ L = 4 ∨ L = 5 ∨ L = 6 ∨ L = 7 ∨ L = 8 ∨ L = 9 ∨ L = 10 ∨ L = 11 ∨ L = 12 ∨ L = 13 ∨ L = 14 → r1 = pr1) → (L = 1 ∨ L = 2 ∨ L = 3 ∨ L = 4 ∨ L = 5 ∨ L = 6 ∨ L = 7 ∨ L = 8 ∨ L = 9 ∨ L = 10 ∨ L = 11 ∨ L = 12 ∨ L = 13 ∨ L = 14 → r3 = pr0 + 2001) → Fo Prod.snd (fun g => pr0 + 4 ≤ g ∧ g ≤ pr0 + 6) z0 (go L x2 x4 x5 x6 x7 x8 x9 x10 x11 x12 x13 x14 r0 r1 r3 t0 z)) (hz : fr (fun g => pr0 + 4 ≤ g ∧ g ≤ pr0 + 6) z0 z) (e_r0 : r0 = pr0) (e_r1 : r1 = pr1) (e_r3 : r3 = pr0 + 2001) : Fo Prod.snd (fun g => pr0 + 4 ≤ g ∧ g ≤ pr0 + 6) z0 (cm_X2_tryFrom_3 vl K go x2 x4 x5 x6 x7 x8 x9 x10 x11 x12 x13 x14 r0 r1 r3 t0 z) := by
  unfold cm_X2_tryFrom_3
  exact (fo_if (hgo 8 _ _ _ _ _ _ _ _ _ _ _ _ _ _ _ _ z hz (fun _ => by omega) (fun _ => by omega) (fun _ => by omega)) (fc_crI (fun v3 => (fo_if (fc_ctI (by omega) hz (fun z4 h_z4 => (fc_ctI (by omega) h_z4 (fun z5 h_z5 => (hgo 4 _ _ _ _ _ _ _ _ _ _ _ _ _ _ _ _ z5 h_z5 (fun _ => by omega) (fun _ => by omega) (fun _ => by omega)))))) (hgo 4 _ _ _ _ _ _ _ _ _ _ _ _ _ _ _ _ z hz (fun _ => by omega) (fun _ => by omega) (fun _ => by omega))))))
theorem fb_X2_tryFrom_4 {K : Nat} {vl : Nat → Nat} {z0 z : ow_MS} {pr0 : Nat} {pr1 : Nat} {go : Nat → Int32 → Int32 → Int32 → Int32 → Int32 → Int32 → Int32 → Int32 → Int32 → Int32 → Int32 → Int32 → Nat → Nat → Nat → Int32 → ow_MS → Option (Int32 × ow_MS)} {x2 : Int32} {x4 : Int32} {x5 : Int32} {x6 : Int32} {x7 : Int32} {x8 : Int32} {x9 : Int32} {x10 : Int32} {x11 : Int32} {x12 : Int32} {x13 : Int32} {x14 : Int32} {r0 : Nat} {r1 : Nat} {r3 : Nat} {t0 : Int32} (hgo : ∀ (L : Nat) (x2 : Int32) (x4 : Int32) (x5 : Int32) (x6 : Int32) (x7 : Int32) (x8 : Int32) (x9 : Int32) (x10 : Int32) (x11 : Int32) (x12 : Int32) (x13 : Int32) (x14 : Int32) (r0 : Nat) (r1 : Nat) (r3 : Nat) (t0 : Int32) (z : ow_MS), fr (fun g => pr0 + 4 ≤ g ∧ g ≤ pr0 + 6) z0 z → (L = 0 ∨ L = 1 ∨ L = 2 ∨ L = 3 ∨ L = 4 ∨ L = 5 ∨ L = 6 ∨ L = 7 ∨ L = 8 ∨ L = 9 ∨ L = 10 ∨ L = 11 ∨ L = 12 ∨ L = 13 ∨ L = 14 → r0 = pr0) → (L = 0 ∨ L = 1 ∨ L = 2 ∨ L = 3 ∨ L = 4 ∨ L = 5 ∨ L = 6 ∨ L = 7 ∨ L = 8 ∨ L = 9 ∨ L = 10 ∨ L = 11 ∨ L = 12 ∨ L = 13 ∨ L = 14 → r1 = pr1) → (L = 1 ∨ L = 2 ∨ L = 3 ∨ L = 4 ∨ L = 5 ∨ L = 6 ∨ L = 7 ∨ L = 8 ∨ L = 9 ∨ L = 10 ∨ L = 11 ∨ L = 12 ∨ L = 13 ∨ L = 14 → r3 = pr0 + 2001) → Fo Prod.snd (fun g => pr0 + 4 ≤ g ∧ g ≤ pr0 + 6) z0 (go L x2 x4 x5 x6 x7 x8 x9 x10 x11 x12 x13 x14 r0 r1 r3 t0 z)) (hz : fr (fun g => pr0 + 4 ≤ g ∧ g ≤ pr0 + 6) z0 z) (e_r0 : r0 = pr0) (e_r1 : r1 = pr1) (e_r3 : r3 = pr0 + 2001) : Fo Prod.snd (fun g => pr0 + 4 ≤ g ∧ g ≤ pr0 + 6) z0 (cm_X2_tryFrom_4 vl K go x2 x4 x5 x6 x7 x8 x9 x10 x11 x12 x13 x14 r0 r1 r3 t0 z) := by
  unfold cm_X2_tryFrom_4
  exact (fc_crI (fun v6 => (fo_cs1 ff_X2_firstCell (fun g hg => hg.elim) hz (fun v8 z7 h_z7 => (fo_if (hgo 5 _ _ _ _ _ _ _ _ _ _ _ _ _ _ _ _ z7 h_z7 (fun _ => by omega) (fun _ => by omega) (fun _ => by omega)) (fc_crI (fun v9 => (fo_if (hgo 5 _ _ _ _ _ _ _ _ _ _ _ _ _ _ _ _ z7 h_z7 (fun _ => by omega) (fun _ => by omega) (fun _ => by omega)) (fo_some h_z7)))))))))
theorem fb_X2_tryFrom_5 {K : Nat} {vl : Nat → Nat} {z0 z : ow_MS} {pr0 : Nat} {pr1 : Nat} {go : Nat → Int32 → Int32 → Int32 → Int32 → Int32 → Int32 → Int32 → Int32 → Int32 → Int32 → Int32 → Int32 → Nat → Nat → Nat → Int32 → ow_MS → Option (Int32 × ow_MS)} {x2 : Int32} {x4 : Int32} {x5 : Int32} {x6 : Int32} {x7 : Int32} {x8 : Int32} {x9 : Int32} {x10 : Int32} {x11 : Int32} {x12 : Int32} {x13 : Int32} {x14 : Int32} {r0 : Nat} {r1 : Nat} {r3 : Nat} {t0 : Int32} (hgo : ∀ (L : Nat) (x2 : Int32) (x4 : Int32) (x5 : Int32) (x6 : Int32) (x7 : Int32) (x8 : Int32) (x9 : Int32) (x10 : Int32) (x11 : Int32) (x12 : Int32) (x13 : Int32) (x14 : Int32) (r0 : Nat) (r1 : Nat) (r3 : Nat) (t0 : Int32) (z : ow_MS), fr (fun g => pr0 + 4 ≤ g ∧ g ≤ pr0 + 6) z0 z → (L = 0 ∨ L = 1 ∨ L = 2 ∨ L = 3 ∨ L = 4 ∨ L = 5 ∨ L = 6 ∨ L = 7 ∨ L = 8 ∨ L = 9 ∨ L = 10 ∨ L = 11 ∨ L = 12 ∨ L = 13 ∨ L = 14 → r0 = pr0) → (L = 0 ∨ L = 1 ∨ L = 2 ∨ L = 3 ∨ L = 4 ∨ L = 5 ∨ L = 6 ∨ L = 7 ∨ L = 8 ∨ L = 9 ∨ L = 10 ∨ L = 11 ∨ L = 12 ∨ L = 13 ∨ L = 14 → r1 = pr1) → (L = 1 ∨ L = 2 ∨ L = 3 ∨ L = 4 ∨ L = 5 ∨ L = 6 ∨ L = 7 ∨ L = 8 ∨ L = 9 ∨ L = 10 ∨ L = 11 ∨ L = 12 ∨ L = 13 ∨ L = 14 → r3 = pr0 + 2001) → Fo Prod.snd (fun g => pr0 + 4 ≤ g ∧ g ≤ pr0 + 6) z0 (go L x2 x4 x5 x6 x7 x8 x9 x10 x11 x12 x13 x14 r0 r1 r3 t0 z)) (hz : fr (fun g => pr0 + 4 ≤ g ∧ g ≤ pr0 + 6) z0 z) (e_r0 : r0 = pr0) (e_r1 : r1 = pr1) (e_r3 : r3 = pr0 + 2001) : Fo Prod.snd (fun g => pr0 + 4 ≤ g ∧ g ≤ pr0 + 6) z0 (cm_X2_tryFrom_5 vl K go x2 x4 x5 x6 x7 x8 x9 x10 x11 x12 x13 x14 r0 r1 r3 t0 z) := by
  unfold cm_X2_tryFrom_5
  exact (fo_if (hgo 6 _ _ _ _ _ _ _ _ _ _ _ _ _ _ _ _ z hz (fun _ => by omega) (fun _ => by omega) (fun _ => by omega)) (fc_crI (fun v10 => (fo_if (hgo 7 _ _ _ _ _ _ _ _ _ _ _ _ _ _ _ _ z hz (fun _ => by omega) (fun _ => by omega) (fun _ => by omega)) (hgo 6 _ _ _ _ _ _ _ _ _ _ _ _ _ _ _ _ z hz (fun _ => by omega) (fun _ => by omega) (fun _ => by omega))))))
theorem fb_X2_tryFrom_6 {K : Nat} {vl : Nat → Nat} {z0 z : ow_MS} {pr0 : Nat} {pr1 : Nat} {go : Nat → Int32 → Int32 → Int32 → Int32 → Int32 → Int32 → Int32 → Int32 → Int32 → Int32 → Int32 → Int32 → Nat → Nat → Nat → Int32 → ow_MS → Option (Int32 × ow_MS)} {x2 : Int32} {x4 : Int32} {x5 : Int32} {x6 : Int32} {x7 : Int32} {x8 : Int32} {x9 : Int32} {x10 : Int32} {x11 : Int32} {x12 : Int32} {x13 : Int32} {x14 : Int32} {r0 : Nat} {r1 : Nat} {r3 : Nat} {t0 : Int32} (hgo : ∀ (L : Nat) (x2 : Int32) (x4 : Int32) (x5 : Int32) (x6 : Int32) (x7 : Int32) (x8 : Int32) (x9 : Int32) (x10 : Int32) (x11 : Int32) (x12 : Int32) (x13 : Int32) (x14 : Int32) (r0 : Nat) (r1 : Nat) (r3 : Nat) (t0 : Int32) (z : ow_MS), fr (fun g => pr0 + 4 ≤ g ∧ g ≤ pr0 + 6) z0 z → (L = 0 ∨ L = 1 ∨ L = 2 ∨ L = 3 ∨ L = 4 ∨ L = 5 ∨ L = 6 ∨ L = 7 ∨ L = 8 ∨ L = 9 ∨ L = 10 ∨ L = 11 ∨ L = 12 ∨ L = 13 ∨ L = 14 → r0 = pr0) → (L = 0 ∨ L = 1 ∨ L = 2 ∨ L = 3 ∨ L = 4 ∨ L = 5 ∨ L = 6 ∨ L = 7 ∨ L = 8 ∨ L = 9 ∨ L = 10 ∨ L = 11 ∨ L = 12 ∨ L = 13 ∨ L = 14 → r1 = pr1) → (L = 1 ∨ L = 2 ∨ L = 3 ∨ L = 4 ∨ L = 5 ∨ L = 6 ∨ L = 7 ∨ L = 8 ∨ L = 9 ∨ L = 10 ∨ L = 11 ∨ L = 12 ∨ L = 13 ∨ L = 14 → r3 = pr0 + 2001) → Fo Prod.snd (fun g => pr0 + 4 ≤ g ∧ g ≤ pr0 + 6) z0 (go L x2 x4 x5 x6 x7 x8 x9 x10 x11 x12 x13 x14 r0 r1 r3 t0 z)) (hz : fr (fun g => pr0 + 4 ≤ g ∧ g ≤ pr0 + 6) z0 z) (e_r0 : r0 = pr0) (e_r1 : r1 = pr1) (e_r3 : r3 = pr0 + 2001) : Fo Prod.snd (fun g => pr0 + 4 ≤ g ∧ g ≤ pr0 + 6) z0 (cm_X2_tryFrom_6 vl K go x2 x4 x5 x6 x7 x8 x9 x10 x11 x12 x13 x14 r0 r1 r3 t0 z) := by
  unfold cm_X2_tryFrom_6
  exact (hgo 7 _ _ _ _ _ _ _ _ _ _ _ _ _ _ _ _ z hz (fun _ => by omega) (fun _ => by omega) (fun _ => by omega))
theorem fb_X2_tryFrom_7 {K : Nat} {vl : Nat → Nat} {z0 z : ow_MS} {pr0 : Nat} {pr1 : Nat} {go : Nat → Int32 → Int32 → Int32 → Int32 → Int32 → Int32 → Int32 → Int32 → Int32 → Int32 → Int32 → Int32 → Nat → Nat → Nat → Int32 → ow_MS → Option (Int32 × ow_MS)} {x2 : Int32} {x4 : Int32} {x5 : Int32} {x6 : Int32} {x7 : Int32} {x8 : Int32} {x9 : Int32} {x10 : Int32} {x11 : Int32} {x12 : Int32} {x13 : Int32} {x14 : Int32} {r0 : Nat} {r1 : Nat} {r3 : Nat} {t0 : Int32} (hgo : ∀ (L : Nat) (x2 : Int32) (x4 : Int32) (x5 : Int32) (x6 : Int32) (x7 : Int32) (x8 : Int32) (x9 : Int32) (x10 : Int32) (x11 : Int32) (x12 : Int32) (x13 : Int32) (x14 : Int32) (r0 : Nat) (r1 : Nat) (r3 : Nat) (t0 : Int32) (z : ow_MS), fr (fun g => pr0 + 4 ≤ g ∧ g ≤ pr0 + 6) z0 z → (L = 0 ∨ L = 1 ∨ L = 2 ∨ L = 3 ∨ L = 4 ∨ L = 5 ∨ L = 6 ∨ L = 7 ∨ L = 8 ∨ L = 9 ∨ L = 10 ∨ L = 11 ∨ L = 12 ∨ L = 13 ∨ L = 14 → r0 = pr0) → (L = 0 ∨ L = 1 ∨ L = 2 ∨ L = 3 ∨ L = 4 ∨ L = 5 ∨ L = 6 ∨ L = 7 ∨ L = 8 ∨ L = 9 ∨ L = 10 ∨ L = 11 ∨ L = 12 ∨ L = 13 ∨ L = 14 → r1 = pr1) → (L = 1 ∨ L = 2 ∨ L = 3 ∨ L = 4 ∨ L = 5 ∨ L = 6 ∨ L = 7 ∨ L = 8 ∨ L = 9 ∨ L = 10 ∨ L = 11 ∨ L = 12 ∨ L = 13 ∨ L = 14 → r3 = pr0 + 2001) → Fo Prod.snd (fun g => pr0 + 4 ≤ g ∧ g ≤ pr0 + 6) z0 (go L x2 x4 x5 x6 x7 x8 x9 x10 x11 x12 x13 x14 r0 r1 r3 t0 z)) (hz : fr (fun g => pr0 + 4 ≤ g ∧ g ≤ pr0 + 6) z0 z) (e_r0 : r0 = pr0) (e_r1 : r1 = pr1) (e_r3 : r3 = pr0 + 2001) : Fo Prod.snd (fun g => pr0 + 4 ≤ g ∧ g ≤ pr0 + 6) z0 (cm_X2_tryFrom_7 vl K go x2 x4 x5 x6 x7 x8 x9 x10 x11 x12 x13 x14 r0 r1 r3 t0 z) := by
  unfold cm_X2_tryFrom_7
  exact (fc_ctB (by omega) hz (fun z11 h_z11 => (fc_crI (fun v12 => (fo_if (hgo 8 _ _ _ _ _ _ _ _ _ _ _ _ _ _ _ _ z11 h_z11 (fun _ => by omega) (fun _ => by omega) (fun _ => by omega)) (hgo 3 _ _ _ _ _ _ _ _ _ _ _ _ _ _ _ _ z11 h_z11 (fun _ => by omega) (fun _ => by omega) (fun _ => by omega)))))))
theorem fb_X2_tryFrom_8 {K : Nat} {vl : Nat → Nat} {z0 z : ow_MS} {pr0 : Nat} {pr1 : Nat} {go : Nat → Int32 → Int32 → Int32 → Int32 → Int32 → Int32 → Int32 → Int32 → Int32 → Int32 → Int32 → Int32 → Nat → Nat → Nat → Int32 → ow_MS → Option (Int32 × ow_MS)} {x2 : Int32} {x4 : Int32} {x5 : Int32} {x6 : Int32} {x7 : Int32} {x8 : Int32} {x9 : Int32} {x10 : Int32} {x11 : Int32} {x12 : Int32} {x13 : Int32} {x14 : Int32} {r0 : Nat} {r1 : Nat} {r3 : Nat} {t0 : Int32} (hgo : ∀ (L : Nat) (x2 : Int32) (x4 : Int32) (x5 : Int32) (x6 : Int32) (x7 : Int32) (x8 : Int32) (x9 : Int32) (x10 : Int32) (x11 : Int32) (x12 : Int32) (x13 : Int32) (x14 : Int32) (r0 : Nat) (r1 : Nat) (r3 : Nat) (t0 : Int32) (z : ow_MS), fr (fun g => pr0 + 4 ≤ g ∧ g ≤ pr0 + 6) z0 z → (L = 0 ∨ L = 1 ∨ L = 2 ∨ L = 3 ∨ L = 4 ∨ L = 5 ∨ L = 6 ∨ L = 7 ∨ L = 8 ∨ L = 9 ∨ L = 10 ∨ L = 11 ∨ L = 12 ∨ L = 13 ∨ L = 14 → r0 = pr0) → (L = 0 ∨ L = 1 ∨ L = 2 ∨ L = 3 ∨ L = 4 ∨ L = 5 ∨ L = 6 ∨ L = 7 ∨ L = 8 ∨ L = 9 ∨ L = 10 ∨ L = 11 ∨ L = 12 ∨ L = 13 ∨ L = 14 → r1 = pr1) → (L = 1 ∨ L = 2 ∨ L = 3 ∨ L = 4 ∨ L = 5 ∨ L = 6 ∨ L = 7 ∨ L = 8 ∨ L = 9 ∨ L = 10 ∨ L = 11 ∨ L = 12 ∨ L = 13 ∨ L = 14 → r3 = pr0 + 2001) → Fo Prod.snd (fun g => pr0 + 4 ≤ g ∧ g ≤ pr0 + 6) z0 (go L x2 x4 x5 x6 x7 x8 x9 x10 x11 x12 x13 x14 r0 r1 r3 t0 z)) (hz : fr (fun g => pr0 + 4 ≤ g ∧ g ≤ pr0 + 6) z0 z) (e_r0 : r0 = pr0) (e_r1 : r1 = pr1) (e_r3 : r3 = pr0 + 2001) : Fo Prod.snd (fun g => pr0 + 4 ≤ g ∧ g ≤ pr0 + 6) z0 (cm_X2_tryFrom_8 vl K go x2 x4 x5 x6 x7 x8 x9 x10 x11 x12 x13 x14 r0 r1 r3 t0 z) := by
  unfold cm_X2_tryFrom_8
  exact (fo_if (hgo 9 _ _ _ _ _ _ _ _ _ _ _ _ _ _ _ _ z hz (fun _ => by omega) (fun _ => by omega) (fun _ => by omega)) (fc_crI (fun v13 => (fo_if (hgo 10 _ _ _ _ _ _ _ _ _ _ _ _ _ _ _ _ z hz (fun _ => by omega) (fun _ => by omega) (fun _ => by omega)) (hgo 9 _ _ _ _ _ _ _ _ _ _ _ _ _ _ _ _ z hz (fun _ => by omega) (fun _ => by omega) (fun _ => by omega))))))
theorem fb_X2_tryFrom_9 {K : Nat} {vl : Nat → Nat} {z0 z : ow_MS} {pr0 : Nat} {pr1 : Nat} {go : Nat → Int32 → Int32 → Int32 → Int32 → Int32 → Int32 → Int32 → Int32 → Int32 → Int32 → Int32 → Int32 → Nat → Nat → Nat → Int32 → ow_MS → Option (Int32 × ow_MS)} {x2 : Int32} {x4 : Int32} {x5 : Int32} {x6 : Int32} {x7 : Int32} {x8 : Int32} {x9 : Int32} {x10 : Int32} {x11 : Int32} {x12 : Int32} {x13 : Int32} {x14 : Int32} {r0 : Nat} {r1 : Nat} {r3 : Nat} {t0 : Int32} (hgo : ∀ (L : Nat) (x2 : Int32) (x4 : Int32) (x5 : Int32) (x6 : Int32) (x7 : Int32) (x8 : Int32) (x9 : Int32) (x10 : Int32) (x11 : Int32) (x12 : Int32) (x13 : Int32) (x14 : Int32) (r0 : Nat) (r1 : Nat) (r3 : Nat) (t0 : Int32) (z : ow_MS), fr (fun g => pr0 + 4 ≤ g ∧ g ≤ pr0 + 6) z0 z → (L = 0 ∨ L = 1 ∨ L = 2 ∨ L = 3 ∨ L = 4 ∨ L = 5 ∨ L = 6 ∨ L = 7 ∨ L = 8 ∨ L = 9 ∨ L = 10 ∨ L = 11 ∨ L = 12 ∨ L = 13 ∨ L = 14 → r0 = pr0) → (L = 0 ∨ L = 1 ∨ L = 2 ∨ L = 3 ∨ L = 4 ∨ L = 5 ∨ L = 6 ∨ L = 7 ∨ L = 8 ∨ L = 9 ∨ L = 10 ∨ L = 11 ∨ L = 12 ∨ L = 13 ∨ L = 14 → r1 = pr1) → (L = 1 ∨ L = 2 ∨ L = 3 ∨ L = 4 ∨ L = 5 ∨ L = 6 ∨ L = 7 ∨ L = 8 ∨ L = 9 ∨ L = 10 ∨ L = 11 ∨ L = 12 ∨ L = 13 ∨ L = 14 → r3 = pr0 + 2001) → Fo Prod.snd (fun g => pr0 + 4 ≤ g ∧ g ≤ pr0 + 6) z0 (go L x2 x4 x5 x6 x7 x8 x9 x10 x11 x12 x13 x14 r0 r1 r3 t0 z)) (hz : fr (fun g => pr0 + 4 ≤ g ∧ g ≤ pr0 + 6) z0 z) (e_r0 : r0 = pr0) (e_r1 : r1 = pr1) (e_r3 : r3 = pr0 + 2001) : Fo Prod.snd (fun g => pr0 + 4 ≤ g ∧ g ≤ pr0 + 6) z0 (cm_X2_tryFrom_9 vl K go x2 x4 x5 x6 x7 x8 x9 x10 x11 x12 x13 x14 r0 r1 r3 t0 z) := by
  unfold cm_X2_tryFrom_9
  exact (hgo 10 _ _ _ _ _ _ _ _ _ _ _ _ _ _ _ _ z hz (fun _ => by omega) (fun _ => by omega) (fun _ => by omega))
theorem fb_X2_tryFrom_10 {K : Nat} {vl : Nat → Nat} {z0 z : ow_MS} {pr0 : Nat} {pr1 : Nat} {go : Nat → Int32 → Int32 → Int32 → Int32 → Int32 → Int32 → Int32 → Int32 → Int32 → Int32 → Int32 → Int32 → Nat → Nat → Nat → Int32 → ow_MS → Option (Int32 × ow_MS)} {x2 : Int32} {x4 : Int32} {x5 : Int32} {x6 : Int32} {x7 : Int32} {x8 : Int32} {x9 : Int32} {x10 : Int32} {x11 : Int32} {x12 : Int32} {x13 : Int32} {x14 : Int32} {r0 : Nat} {r1 : Nat} {r3 : Nat} {t0 : Int32} (hgo : ∀ (L : Nat) (x2 : Int32) (x4 : Int32) (x5 : Int32) (x6 : Int32) (x7 : Int32) (x8 : Int32) (x9 : Int32) (x10 : Int32) (x11 : Int32) (x12 : Int32) (x13 : Int32) (x14 : Int32) (r0 : Nat) (r1 : Nat) (r3 : Nat) (t0 : Int32) (z : ow_MS), fr (fun g => pr0 + 4 ≤ g ∧ g ≤ pr0 + 6) z0 z → (L = 0 ∨ L = 1 ∨ L = 2 ∨ L = 3 ∨ L = 4 ∨ L = 5 ∨ L = 6 ∨ L = 7 ∨ L = 8 ∨ L = 9 ∨ L = 10 ∨ L = 11 ∨ L = 12 ∨ L = 13 ∨ L = 14 → r0 = pr0) → (L = 0 ∨ L = 1 ∨ L = 2 ∨ L = 3 ∨ L = 4 ∨ L = 5 ∨ L = 6 ∨ L = 7 ∨ L = 8 ∨ L = 9 ∨ L = 10 ∨ L = 11 ∨ L = 12 ∨ L = 13 ∨ L = 14 → r1 = pr1) → (L = 1 ∨ L = 2 ∨ L = 3 ∨ L = 4 ∨ L = 5 ∨ L = 6 ∨ L = 7 ∨ L = 8 ∨ L = 9 ∨ L = 10 ∨ L = 11 ∨ L = 12 ∨ L = 13 ∨ L = 14 → r3 = pr0 + 2001) → Fo Prod.snd (fun g => pr0 + 4 ≤ g ∧ g ≤ pr0 + 6) z0 (go L x2 x4 x5 x6 x7 x8 x9 x10 x11 x12 x13 x14 r0 r1 r3 t0 z)) (hz : fr (fun g => pr0 + 4 ≤ g ∧ g ≤ pr0 + 6) z0 z) (e_r0 : r0 = pr0) (e_r1 : r1 = pr1) (e_r3 : r3 = pr0 + 2001) : Fo Prod.snd (fun g => pr0 + 4 ≤ g ∧ g ≤ pr0 + 6) z0 (cm_X2_tryFrom_10 vl K go x2 x4 x5 x6 x7 x8 x9 x10 x11 x12 x13 x14 r0 r1 r3 t0 z) := by
  unfold cm_X2_tryFrom_10
  exact (fc_ctB (by omega) hz (fun z14 h_z14 => (hgo 11 _ _ _ _ _ _ _ _ _ _ _ _ _ _ _ _ z14 h_z14 (fun _ => by omega) (fun _ => by omega) (fun _ => by omega))))
theorem fb_X2_tryFrom_11 {K : Nat} {vl : Nat → Nat} {z0 z : ow_MS} {pr0 : Nat} {pr1 : Nat} {go : Nat → Int32 → Int32 → Int32 → Int32 → Int32 → Int32 → Int32 → Int32 → Int32 → Int32 → Int32 → Int32 → Nat → Nat → Nat → Int32 → ow_MS → Option (Int32 × ow_MS)} {x2 : Int32} {x4 : Int32} {x5 : Int32} {x6 : Int32} {x7 : Int32} {x8 : Int32} {x9 : Int32} {x10 : Int32} {x11 : Int32} {x12 : Int32} {x13 : Int32} {x14 : Int32} {r0 : Nat} {r1 : Nat} {r3 : Nat} {t0 : Int32} (hgo : ∀ (L : Nat) (x2 : Int32) (x4 : Int32) (x5 : Int32) (x6 : Int32) (x7 : Int32) (x8 : Int32) (x9 : Int32) (x10 : Int32) (x11 : Int32) (x12 : Int32) (x13 : Int32) (x14 : Int32) (r0 : Nat) (r1 : Nat) (r3 : Nat) (t0 : Int32) (z : ow_MS), fr (fun g => pr0 + 4 ≤ g ∧ g ≤ pr0 + 6) z0 z → (L = 0 ∨ L = 1 ∨ L = 2 ∨ L = 3 ∨ L = 4 ∨ L = 5 ∨ L = 6 ∨ L = 7 ∨ L = 8 ∨ L = 9 ∨ L = 10 ∨ L = 11 ∨ L = 12 ∨ L = 13 ∨ L = 14 → r0 = pr0) → (L = 0 ∨ L = 1 ∨ L = 2 ∨ L = 3 ∨ L = 4 ∨ L = 5 ∨ L = 6 ∨ L = 7 ∨ L = 8 ∨ L = 9 ∨ L = 10 ∨ L = 11 ∨ L = 12 ∨ L = 13 ∨ L = 14 → r1 = pr1) → (L = 1 ∨ L = 2 ∨ L = 3 ∨ L = 4 ∨ L = 5 ∨ L = 6 ∨ L = 7 ∨ L = 8 ∨ L = 9 ∨ L = 10 ∨ L = 11 ∨ L = 12 ∨ L = 13 ∨ L = 14 → r3 = pr0 + 2001) → Fo Prod.snd (fun g => pr0 + 4 ≤ g ∧ g ≤ pr0 + 6) z0 (go L x2 x4 x5 x6 x7 x8 x9 x10 x11 x12 x13 x14 r0 r1 r3 t0 z)) (hz : fr (fun g => pr0 + 4 ≤ g ∧ g ≤ pr0 + 6) z0 z) (e_r0 : r0 = pr0) (e_r1 : r1 = pr1) (e_r3 : r3 = pr0 + 2001) : Fo Prod.snd (fun g => pr0 + 4 ≤ g ∧ g ≤ pr0 + 6) z0 (cm_X2_tryFrom_11 vl K go x2 x4 x5 x6 x7 x8 x9 x10 x11 x12 x13 x14 r0 r1 r3 t0 z) := by
  unfold cm_X2_tryFrom_11
  exact (fo_if (hgo 13 _ _ _ _ _ _ _ _ _ _ _ _ _ _ _ _ z hz (fun _ => by omega) (fun _ => by omega) (fun _ => by omega)) (fo_if (fc_crI (fun v15 => (fo_if (hgo 12 _ _ _ _ _ _ _ _ _ _ _ _ _ _ _ _ z hz (fun _ => by omega) (fun _ => by omega) (fun _ => by omega)) (fo_if (hgo 12 _ _ _ _ _ _ _ _ _ _ _ _ _ _ _ _ z hz (fun _ => by omega) (fun _ => by omega) (fun _ => by omega)) (hgo 12 _ _ _ _ _ _ _ _ _ _ _ _ _ _ _ _ z hz (fun _ => by omega) (fun _ => by omega) (fun _ => by omega)))))) (hgo 13 _ _ _ _ _ _ _ _ _ _ _ _ _ _ _ _ z hz (fun _ => by omega) (fun _ => by omega) (fun _ => by omega))))
theorem fb_X2_tryFrom_12 {K : Nat} {vl : Nat → Nat} {z0 z : ow_MS} {pr0 : Nat} {pr1 : Nat} {go : Nat → Int32 → Int32 → Int32 → Int32 → Int32 → Int32 → Int32 → Int32 → Int32 → Int32 → Int32 → Int32 → Nat → Nat → Nat → Int32 → ow_MS → Option (Int32 × ow_MS)} {x2 : Int32} {x4 : Int32} {x5 : Int32} {x6 : Int32} {x7 : Int32} {x8 : Int32} {x9 : Int32} {x10 : Int32} {x11 : Int32} {x12 : Int32} {x13 : Int32} {x14 : Int32} {r0 : Nat} {r1 : Nat} {r3 : Nat} {t0 : Int32} (hgo : ∀ (L : Nat) (x2 : Int32) (x4 : Int32) (x5 : Int32) (x6 : Int32) (x7 : Int32) (x8 : Int32) (x9 : Int32) (x10 : Int32) (x11 : Int32) (x12 : Int32) (x13 : Int32) (x14 : Int32) (r0 : Nat) (r1 : Nat) (r3 : Nat) (t0 : Int32) (z : ow_MS), fr (fun g => pr0 + 4 ≤ g ∧ g ≤ pr0 + 6) z0 z → (L = 0 ∨ L = 1 ∨ L = 2 ∨ L = 3 ∨ L = 4 ∨ L = 5 ∨ L = 6 ∨ L = 7 ∨ L = 8 ∨ L = 9 ∨ L = 10 ∨ L = 11 ∨ L = 12 ∨ L = 13 ∨ L = 14 → r0 = pr0) → (L = 0 ∨ L = 1 ∨ L = 2 ∨ L = 3 ∨ L = 4 ∨ L = 5 ∨ L = 6 ∨ L = 7 ∨ L = 8 ∨ L = 9 ∨ L = 10 ∨ L = 11 ∨ L = 12 ∨ L = 13 ∨ L = 14 → r1 = pr1) → (L = 1 ∨ L = 2 ∨ L = 3 ∨ L = 4 ∨ L = 5 ∨ L = 6 ∨ L = 7 ∨ L = 8 ∨ L = 9 ∨ L = 10 ∨ L = 11 ∨ L = 12 ∨ L = 13 ∨ L = 14 → r3 = pr0 + 2001) → Fo Prod.snd (fun g => pr0 + 4 ≤ g ∧ g ≤ pr0 + 6) z0 (go L x2 x4 x5 x6 x7 x8 x9 x10 x11 x12 x13 x14 r0 r1 r3 t0 z)) (hz : fr (fun g => pr0 + 4 ≤ g ∧ g ≤ pr0 + 6) z0 z) (e_r0 : r0 = pr0) (e_r1 : r1 = pr1) (e_r3 : r3 = pr0 + 2001) : Fo Prod.snd (fun g => pr0 + 4 ≤ g ∧ g ≤ pr0 + 6) z0 (cm_X2_tryFrom_12 vl K go x2 x4 x5 x6 x7 x8 x9 x10 x11 x12 x13 x14 r0 r1 r3 t0 z) := by
  unfold cm_X2_tryFrom_12
  exact (hgo 11 _ _ _ _ _ _ _ _ _ _ _ _ _ _ _ _ z hz (fun _ => by omega) (fun _ => by omega) (fun _ => by omega))
theorem fb_X2_tryFrom_13 {K : Nat} {vl : Nat → Nat} {z0 z : ow_MS} {pr0 : Nat} {pr1 : Nat} {go : Nat → Int32 → Int32 → Int32 → Int32 → Int32 → Int32 → Int32 → Int32 → Int32 → Int32 → Int32 → Int32 → Nat → Nat → Nat → Int32 → ow_MS → Option (Int32 × ow_MS)} {x2 : Int32} {x4 : Int32} {x5 : Int32} {x6 : Int32} {x7 : Int32} {x8 : Int32} {x9 : Int32} {x10 : Int32} {x11 : Int32} {x12 : Int32} {x13 : Int32} {x14 : Int32} {r0 : Nat} {r1 : Nat} {r3 : Nat} {t0 : Int32} (hgo : ∀ (L : Nat) (x2 : Int32) (x4 : Int32) (x5 : Int32) (x6 : Int32) (x7 : Int32) (x8 : Int32) (x9 : Int32) (x10 : Int32) (x11 : Int32) (x12 : Int32) (x13 : Int32) (x14 : Int32) (r0 : Nat) (r1 : Nat) (r3 : Nat) (t0 : Int32) (z : ow_MS), fr (fun g => pr0 + 4 ≤ g ∧ g ≤ pr0 + 6) z0 z → (L = 0 ∨ L = 1 ∨ L = 2 ∨ L = 3 ∨ L = 4 ∨ L = 5 ∨ L = 6 ∨ L = 7 ∨ L = 8 ∨ L = 9 ∨ L = 10 ∨ L = 11 ∨ L = 12 ∨ L = 13 ∨ L = 14 → r0 = pr0) → (L = 0 ∨ L = 1 ∨ L = 2 ∨ L = 3 ∨ L = 4 ∨ L = 5 ∨ L = 6 ∨ L = 7 ∨ L = 8 ∨ L = 9 ∨ L = 10 ∨ L = 11 ∨ L = 12 ∨ L = 13 ∨ L = 14 → r1 = pr1) → (L = 1 ∨ L = 2 ∨ L = 3 ∨ L = 4 ∨ L = 5 ∨ L = 6 ∨ L = 7 ∨ L = 8 ∨ L = 9 ∨ L = 10 ∨ L = 11 ∨ L = 12 ∨ L = 13 ∨ L = 14 → r3 = pr0 + 2001) → Fo Prod.snd (fun g => pr0 + 4 ≤ g ∧ g ≤ pr0 + 6) z0 (go L x2 x4 x5 x6 x7 x8 x9 x10 x11 x12 x13 x14 r0 r1 r3 t0 z)) (hz : fr (fun g => pr0 + 4 ≤ g ∧ g ≤ pr0 + 6) z0 z) (e_r0 : r0 = pr0) (e_r1 : r1 = pr1) (e_r3 : r3 = pr0 + 2001) : Fo Prod.snd (fun g => pr0 + 4 ≤ g ∧ g ≤ pr0 + 6) z0 (cm_X2_tryFrom_13 vl K go x2 x4 x5 x6 x7 x8 x9 x10 x11 x12 x13 x14 r0 r1 r3 t0 z) := by
  unfold cm_X2_tryFrom_13
  exact (hgo 2 _ _ _ _ _ _ _ _ _ _ _ _ _ _ _ _ z hz (fun _ => by omega) (fun _ => by omega) (fun _ => by omega))
theorem fb_X2_tryFrom_14 {K : Nat} {vl : Nat → Nat} {z0 z : ow_MS} {pr0 : Nat} {pr1 : Nat} {go : Nat → Int32 → Int32 → Int32 → Int32 → Int32 → Int32 → Int32 → Int32 → Int32 → Int32 → Int32 → Int32 → Nat → Nat → Nat → Int32 → ow_MS → Option (Int32 × ow_MS)} {x2 : Int32} {x4 : Int32} {x5 : Int32} {x6 : Int32} {x7 : Int32} {x8 : Int32} {x9 : Int32} {x10 : Int32} {x11 : Int32} {x12 : Int32} {x13 : Int32} {x14 : Int32} {r0 : Nat} {r1 : Nat} {r3 : Nat} {t0 : Int32} (hgo : ∀ (L : Nat) (x2 : Int32) (x4 : Int32) (x5 : Int32) (x6 : Int32) (x7 : Int32) (x8 : Int32) (x9 : Int32) (x10 : Int32) (x11 : Int32) (x12 : Int32) (x13 : Int32) (x14 : Int32) (r0 : Nat) (r1 : Nat) (r3 : Nat) (t0 : Int32) (z : ow_MS), fr (fun g => pr0 + 4 ≤ g ∧ g ≤ pr0 + 6) z0 z → (L = 0 ∨ L = 1 ∨ L = 2 ∨ L = 3 ∨ L = 4 ∨ L = 5 ∨ L = 6 ∨ L = 7 ∨ L = 8 ∨ L = 9 ∨ L = 10 ∨ L = 11 ∨ L = 12 ∨ L = 13 ∨ L = 14 → r0 = pr0) → (L = 0 ∨ L = 1 ∨ L = 2 ∨ L = 3 ∨ L = 4 ∨ L = 5 ∨ L = 6 ∨ L = 7 ∨ L = 8 ∨ L = 9 ∨ L = 10 ∨ L = 11 ∨ L = 12 ∨ L = 13 ∨ L = 14 → r1 = pr1) → (L = 1 ∨ L = 2 ∨ L = 3 ∨ L = 4 ∨ L = 5 ∨ L = 6 ∨ L = 7 ∨ L = 8 ∨ L = 9 ∨ L = 10 ∨ L = 11 ∨ L = 12 ∨ L = 13 ∨ L = 14 → r3 = pr0 + 2001) → Fo Prod.snd (fun g => pr0 + 4 ≤ g ∧ g ≤ pr0 + 6) z0 (go L x2 x4 x5 x6 x7 x8 x9 x10 x11 x12 x13 x14 r0 r1 r3 t0 z)) (hz : fr (fun g => pr0 + 4 ≤ g ∧ g ≤ pr0 + 6) z0 z) (e_r0 : r0 = pr0) (e_r1 : r1 = pr1) (e_r3 : r3 = pr0 + 2001) : Fo Prod.snd (fun g => pr0 + 4 ≤ g ∧ g ≤ pr0 + 6) z0 (cm_X2_tryFrom_14 vl K go x2 x4 x5 x6 x7 x8 x9 x10 x11 x12 x13 x14 r0 r1 r3 t0 z) := by
  unfold cm_X2_tryFrom_14
  exact (fo_if (fo_some hz) (fo_some hz))
theorem fq_X2_tryFrom {K : Nat} {vl : Nat → Nat} {z0 : ow_MS} {pr0 : Nat} {pr1 : Nat} : ∀ (k L : Nat) (x2 : Int32) (x4 : Int32) (x5 : Int32) (x6 : Int32) (x7 : Int32) (x8 : Int32) (x9 : Int32) (x10 : Int32) (x11 : Int32) (x12 : Int32) (x13 : Int32) (x14 : Int32) (r0 : Nat) (r1 : Nat) (r3 : Nat) (t0 : Int32) (z : ow_MS), fr (fun g => pr0 + 4 ≤ g ∧ g ≤ pr0 + 6) z0 z → (L = 0 ∨ L = 1 ∨ L = 2 ∨ L = 3 ∨ L = 4 ∨ L = 5 ∨ L = 6 ∨ L = 7 ∨ L = 8 ∨ L = 9 ∨ L = 10 ∨ L = 11 ∨ L = 12 ∨ L = 13 ∨ L = 14 → r0 = pr0) → (L = 0 ∨ L = 1 ∨ L = 2 ∨ L = 3 ∨ L = 4 ∨ L = 5 ∨ L = 6 ∨ L = 7 ∨ L = 8 ∨ L = 9 ∨ L = 10 ∨ L = 11 ∨ L = 12 ∨ L = 13 ∨ L = 14 → r1 = pr1) → (L = 1 ∨ L = 2 ∨ L = 3 ∨ L = 4 ∨ L = 5 ∨ L = 6 ∨ L = 7 ∨ L = 8 ∨ L = 9 ∨ L = 10 ∨ L = 11 ∨ L = 12 ∨ L = 13 ∨ L = 14 → r3 = pr0 + 2001) → Fo Prod.snd (fun g => pr0 + 4 ≤ g ∧ g ≤ pr0 + 6) z0 (c_X2_tryFrom vl K k L x2 x4 x5 x6 x7 x8 x9 x10 x11 x12 x13 x14 r0 r1 r3 t0 z)
  | 0 => by
    intros
    exact fo_none
  | k + 1 => by
    intro L x2 x4 x5 x6 x7 x8 x9 x10 x11 x12 x13 x14 r0 r1 r3 t0 z hz h9_r0 h9_r1 h9_r3
    show Fo Prod.snd (fun g => pr0 + 4 ≤ g ∧ g ≤ pr0 + 6) z0 (cb_X2_tryFrom vl K (c_X2_tryFrom vl K k) L x2 x4 x5 x6 x7 x8 x9 x10 x11 x12 x13 x14 r0 r1 r3 t0 z)
    unfold cb_X2_tryFrom
    split
    · exact fb_X2_tryFrom_0 (fq_X2_tryFrom k) hz (h9_r0 (by decide)) (h9_r1 (by decide))
    · exact fb_X2_tryFrom_1 (fq_X2_tryFrom k) hz (h9_r0 (by decide)) (h9_r1 (by decide)) (h9_r3 (by decide))
    · exact fb_X2_tryFrom_2 (fq_X2_tryFrom k) hz (h9_r0 (by decide)) (h9_r1 (by decide)) (h9_r3 (by decide))
    · exact fb_X2_tryFrom_3 (fq_X2_tryFrom k) hz (h9_r0 (by decide)) (h9_r1 (by decide)) (h9_r3 (by decide))
    · exact fb_X2_tryFrom_4 (fq_X2_tryFrom k) hz (h9_r0 (by decide)) (h9_r1 (by decide)) (h9_r3 (by decide))
    · exact fb_X2_tryFrom_5 (fq_X2_tryFrom k) hz (h9_r0 (by decide)) (h9_r1 (by decide)) (h9_r3 (by decide))
    · exact fb_X2_tryFrom_6 (fq_X2_tryFrom k) hz (h9_r0 (by decide)) (h9_r1 (by decide)) (h9_r3 (by decide))
    · exact fb_X2_tryFrom_7 (fq_X2_tryFrom k) hz (h9_r0 (by decide)) (h9_r1 (by decide)) (h9_r3 (by decide))
    · exact fb_X2_tryFrom_8 (fq_X2_tryFrom k) hz (h9_r0 (by decide)) (h9_r1 (by decide)) (h9_r3 (by decide))
    · exact fb_X2_tryFrom_9 (fq_X2_tryFrom k) hz (h9_r0 (by decide)) (h9_r1 (by decide)) (h9_r3 (by decide))
    · exact fb_X2_tryFrom_10 (fq_X2_tryFrom k) hz (h9_r0 (by decide)) (h9_r1 (by decide)) (h9_r3 (by decide))
    · exact fb_X2_tryFrom_11 (fq_X2_tryFrom k) hz (h9_r0 (by decide)) (h9_r1 (by decide)) (h9_r3 (by decide))
    · exact fb_X2_tryFrom_12 (fq_X2_tryFrom k) hz (h9_r0 (by decide)) (h9_r1 (by decide)) (h9_r3 (by decide))
    · exact fb_X2_tryFrom_13 (fq_X2_tryFrom k) hz (h9_r0 (by decide)) (h9_r1 (by decide)) (h9_r3 (by decide))
    · exact fb_X2_tryFrom_14 (fq_X2_tryFrom k) hz (h9_r0 (by decide)) (h9_r1 (by decide)) (h9_r3 (by decide))
    · exact fo_none
theorem ff_X2_tryFrom {vl : Nat → Nat} {K : Nat} {r0 : Nat} {r1 : Nat} {x2 : Int32} {z : ow_MS} : Fo Prod.snd (fun g => r0 + 4 ≤ g ∧ g ≤ r0 + 6) z (ce_X2_tryFrom vl K r0 r1 x2 z) := fq_X2_tryFrom (pr0 := r0) (pr1 := r1) K 0 _ _ _ _ _ _ _ _ _ _ _ _ _ _ _ _ z fr_rf (fun _ => rfl) (fun _ => rfl) (fun h9 => absurd h9 (by decide))
theorem fb_X2_encodePart_0 {K : Nat} {vl : Nat → Nat} {z0 z : ow_MS} {pr0 : Nat} {pr1 : Nat} {go : Nat → Int32 → Int32 → Int32 → Int32 → Nat → Nat → ow_MS → Option ow_MS} {x2 : Int32} {x3 : Int32} {x4 : Int32} {x5 : Int32} {r0 : Nat} {r1 : Nat} (hgo : ∀ (L : Nat) (x2 : Int32) (x3 : Int32) (x4 : Int32) (x5 : Int32) (r0 : Nat) (r1 : Nat) (z : ow_MS), fr (fun g => pr0 + 4 ≤ g ∧ g ≤ pr0 + 6 ∨ pr0 + 2001 ≤ g ∧ g ≤ pr0 + 2003) z0 z → (L = 0 ∨ L = 1 ∨ L = 2 → r0 = pr0) → (L = 0 ∨ L = 1 ∨ L = 2 → r1 = pr1) → Fo id (fun g => pr0 + 4 ≤ g ∧ g ≤ pr0 + 6 ∨ pr0 + 2001 ≤ g ∧ g ≤ pr0 + 2003) z0 (go L x2 x3 x4 x5 r0 r1 z)) (hz : fr (fun g => pr0 + 4 ≤ g ∧ g ≤ pr0 + 6 ∨ pr0 + 2001 ≤ g ∧ g ≤ pr0 + 2003) z0 z) (e_r0 : r0 = pr0) (e_r1 : r1 = pr1) : Fo id (fun g => pr0 + 4 ≤ g ∧ g ≤ pr0 + 6 ∨ pr0 + 2001 ≤ g ∧ g ≤ pr0 + 2003) z0 (cm_X2_encodePart_0 vl K go x2 x3 x4 x5 r0 r1 z) := by
  unfold cm_X2_encodePart_0
  exact (fo_cs1 ff_X2_leastFirstCell (fun g hg => hg.elim) hz (fun v2 z1 h_z1 => (fc_ctB (by omega) h_z1 (fun z3 h_z3 => (hgo 1 _ _ _ _ _ _ z3 h_z3 (fun _ => by omega) (fun _ => by omega))))))
theorem fb_X2_encodePart_1 {K : Nat} {vl : Nat → Nat} {z0 z : ow_MS} {pr0 : Nat} {pr1 : Nat} {go : Nat → Int32 → Int32 → Int32 → Int32 → Nat → Nat → ow_MS → Option ow_MS} {x2 : Int32} {x3 : Int32} {x4 : Int32} {x5 : Int32} {r0 : Nat} {r1 : Nat} (hgo : ∀ (L : Nat) (x2 : Int32) (x3 : Int32) (x4 : Int32) (x5 : Int32) (r0 : Nat) (r1 : Nat) (z : ow_MS), fr (fun g => pr0 + 4 ≤ g ∧ g ≤ pr0 + 6 ∨ pr0 + 2001 ≤ g ∧ g ≤ pr0 + 2003) z0 z → (L = 0 ∨ L = 1 ∨ L = 2 → r0 = pr0) → (L = 0 ∨ L = 1 ∨ L = 2 → r1 = pr1) → Fo id (fun g => pr0 + 4 ≤ g ∧ g ≤ pr0 + 6 ∨ pr0 + 2001 ≤ g ∧ g ≤ pr0 + 2003) z0 (go L x2 x3 x4 x5 r0 r1 z)) (hz : fr (fun g => pr0 + 4 ≤ g ∧ g ≤ pr0 + 6 ∨ pr0 + 2001 ≤ g ∧ g ≤ pr0 + 2003) z0 z) (e_r0 : r0 = pr0) (e_r1 : r1 = pr1) : Fo id (fun g => pr0 + 4 ≤ g ∧ g ≤ pr0 + 6 ∨ pr0 + 2001 ≤ g ∧ g ≤ pr0 + 2003) z0 (cm_X2_encodePart_1 vl K go x2 x3 x4 x5 r0 r1 z) := by
  unfold cm_X2_encodePart_1
  exact (fo_rdF (fun v4 => (fo_if (fo_nzI (fc_ctB (by omega) hz (fun z5 h_z5 => (fo_some h_z5)))) (fc_crI (fun v6 => (fo_if (fo_cs1 ff_X2_firstCell (fun g hg => hg.elim) hz (fun v8 z7 h_z7 => (fo_if (fo_cs1 ff_X2_tryFrom (fun g hg => by omega) h_z7 (fun v10 z9 h_z9 => (fo_if (hgo 2 _ _ _ _ _ _ z9 h_z9 (fun _ => by omega) (fun _ => by omega)) (fo_if (hgo 2 _ _ _ _ _ _ z9 h_z9 (fun _ => by omega) (fun _ => by omega)) (fc_cpB (by omega) h_z9 (fun z11 h_z11 => (fc_ctB (by omega) h_z11 (fun z12 h_z12 => (hgo 2 _ _ _ _ _ _ z12 h_z12 (fun _ => by omega) (fun _ => by omega)))))))))) (hgo 2 _ _ _ _ _ _ z7 h_z7 (fun _ => by omega) (fun _ => by omega))))) (hgo 2 _ _ _ _ _ _ z hz (fun _ => by omega) (fun _ => by omega))))))))
theorem fb_X2_encodePart_2 {K : Nat} {vl : Nat → Nat} {z0 z : ow_MS} {pr0 : Nat} {pr1 : Nat} {go : Nat → Int32 → Int32 → Int32 → Int32 → Nat → Nat → ow_MS → Option ow_MS} {x2 : Int32} {x3 : Int32} {x4 : Int32} {x5 : Int32} {r0 : Nat} {r1 : Nat} (hgo : ∀ (L : Nat) (x2 : Int32) (x3 : Int32) (x4 : Int32) (x5 : Int32) (r0 : Nat) (r1 : Nat) (z : ow_MS), fr (fun g => pr0 + 4 ≤ g ∧ g ≤ pr0 + 6 ∨ pr0 + 2001 ≤ g ∧ g ≤ pr0 + 2003) z0 z → (L = 0 ∨ L = 1 ∨ L = 2 → r0 = pr0) → (L = 0 ∨ L = 1 ∨ L = 2 → r1 = pr1) → Fo id (fun g => pr0 + 4 ≤ g ∧ g ≤ pr0 + 6 ∨ pr0 + 2001 ≤ g ∧ g ≤ pr0 + 2003) z0 (go L x2 x3 x4 x5 r0 r1 z)) (hz : fr (fun g => pr0 + 4 ≤ g ∧ g ≤ pr0 + 6 ∨ pr0 + 2001 ≤ g ∧ g ≤ pr0 + 2003) z0 z) (e_r0 : r0 = pr0) (e_r1 : r1 = pr1) : Fo id (fun g => pr0 + 4 ≤ g ∧ g ≤ pr0 + 6 ∨ pr0 + 2001 ≤ g ∧ g ≤ pr0 + 2003) z0 (cm_X2_encodePart_2 vl K go x2 x3 x4 x5 r0 r1 z) := by
  unfold cm_X2_encodePart_2
  exact (hgo 1 _ _ _ _ _ _ z hz (fun _ => by omega) (fun _ => by omega))
theorem fq_X2_encodePart {K : Nat} {vl : Nat → Nat} {z0 : ow_MS} {pr0 : Nat} {pr1 : Nat} : ∀ (k L : Nat) (x2 : Int32) (x3 : Int32) (x4 : Int32) (x5 : Int32) (r0 : Nat) (r1 : Nat) (z : ow_MS), fr (fun g => pr0 + 4 ≤ g ∧ g ≤ pr0 + 6 ∨ pr0 + 2001 ≤ g ∧ g ≤ pr0 + 2003) z0 z → (L = 0 ∨ L = 1 ∨ L = 2 → r0 = pr0) → (L = 0 ∨ L = 1 ∨ L = 2 → r1 = pr1) → Fo id (fun g => pr0 + 4 ≤ g ∧ g ≤ pr0 + 6 ∨ pr0 + 2001 ≤ g ∧ g ≤ pr0 + 2003) z0 (c_X2_encodePart vl K k L x2 x3 x4 x5 r0 r1 z)
  | 0 => by
    intros
    exact fo_none
  | k + 1 => by
    intro L x2 x3 x4 x5 r0 r1 z hz h9_r0 h9_r1
    show Fo id (fun g => pr0 + 4 ≤ g ∧ g ≤ pr0 + 6 ∨ pr0 + 2001 ≤ g ∧ g ≤ pr0 + 2003) z0 (cb_X2_encodePart vl K (c_X2_encodePart vl K k) L x2 x3 x4 x5 r0 r1 z)
    unfold cb_X2_encodePart
    split
    · exact fb_X2_encodePart_0 (fq_X2_encodePart k) hz (h9_r0 (by decide)) (h9_r1 (by decide))
    · exact fb_X2_encodePart_1 (fq_X2_encodePart k) hz (h9_r0 (by decide)) (h9_r1 (by decide))
    · exact fb_X2_encodePart_2 (fq_X2_encodePart k) hz (h9_r0 (by decide)) (h9_r1 (by decide))
    · exact fo_none
theorem ff_X2_encodePart {vl : Nat → Nat} {K : Nat} {r0 : Nat} {r1 : Nat} {x2 : Int32} {z : ow_MS} : Fo id (fun g => r0 + 4 ≤ g ∧ g ≤ r0 + 6 ∨ r0 + 2001 ≤ g ∧ g ≤ r0 + 2003) z (ce_X2_encodePart vl K r0 r1 x2 z) := fq_X2_encodePart (pr0 := r0) (pr1 := r1) K 0 _ _ _ _ _ _ z fr_rf (fun _ => rfl) (fun _ => rfl)
theorem fb_X3_compare_0 {K : Nat} {vl : Nat → Nat} {z0 z : ow_MS} {pr0 : Nat} {pr2 : Nat} {go : Nat → Int32 → Int32 → Int32 → Int32 → Int32 → Int32 → Nat → Nat → ow_MS → Option (Int32 × ow_MS)} {x1 : Int32} {x3 : Int32} {x4 : Int32} {x5 : Int32} {x6 : Int32} {x7 : Int32} {r0 : Nat} {r2 : Nat} (hgo : ∀ (L : Nat) (x1 : Int32) (x3 : Int32) (x4 : Int32) (x5 : Int32) (x6 : Int32) (x7 : Int32) (r0 : Nat) (r2 : Nat) (z : ow_MS), fr (fun _ => False) z0 z → (L = 0 ∨ L = 1 → r0 = pr0) → (L = 0 ∨ L = 1 → r2 = pr2) → Fo Prod.snd (fun _ => False) z0 (go L x1 x3 x4 x5 x6 x7 r0 r2 z)) (hz : fr (fun _ => False) z0 z) (e_r0 : r0 = pr0) (e_r2 : r2 = pr2) : Fo Prod.snd (fun _ => False) z0 (cm_X3_compare_0 vl K go x1 x3 x4 x5 x6 x7 r0 r2 z) := by
  unfold cm_X3_compare_0
  exact (fc_crI (fun v1 => (fc_crI (fun v2 => (fo_if (fc_crI (fun v3 => (fc_crI (fun v4 => (hgo 1 _ _ _ _ _ _ _ _ z hz (fun _ => by omega) (fun _ => by omega)))))) (fc_crI (fun v5 => (fc_crI (fun v6 => (fo_some hz))))))))))
theorem fb_X3_compare_1 {K : Nat} {vl : Nat → Nat} {z0 z : ow_MS} {pr0 : Nat} {pr2 : Nat} {go : Nat → Int32 → Int32 → Int32 → Int32 → Int32 → Int32 → Nat → Nat → ow_MS → Option (Int32 × ow_MS)} {x1 : Int32} {x3 : Int32} {x4 : Int32} {x5 : Int32} {x6 : Int32} {x7 : Int32} {r0 : Nat} {r2 : Nat} (hgo : ∀ (L : Nat) (x1 : Int32) (x3 : Int32) (x4 : Int32) (x5 : Int32) (x6 : Int32) (x7 : Int32) (r0 : Nat) (r2 : Nat) (z : ow_MS), fr (fun _ => False) z0 z → (L = 0 ∨ L = 1 → r0 = pr0) → (L = 0 ∨ L = 1 → r2 = pr2) → Fo Prod.snd (fun _ => False) z0 (go L x1 x3 x4 x5 x6 x7 r0 r2 z)) (hz : fr (fun _ => False) z0 z) (e_r0 : r0 = pr0) (e_r2 : r2 = pr2) : Fo Prod.snd (fun _ => False) z0 (cm_X3_compare_1 vl K go x1 x3 x4 x5 x6 x7 r0 r2 z) := by
  unfold cm_X3_compare_1
  exact (fo_if (fc_crI (fun v7 => (fc_crI (fun v8 => (fo_some hz))))) (fc_crI (fun v9 => (fc_crI (fun v10 => (fo_if (hgo 1 _ _ _ _ _ _ _ _ z hz (fun _ => by omega) (fun _ => by omega)) (fo_some hz)))))))
theorem fq_X3_compare {K : Nat} {vl : Nat → Nat} {z0 : ow_MS} {pr0 : Nat} {pr2 : Nat} : ∀ (k L : Nat) (x1 : Int32) (x3 : Int32) (x4 : Int32) (x5 : Int32) (x6 : Int32) (x7 : Int32) (r0 : Nat) (r2 : Nat) (z : ow_MS), fr (fun _ => False) z0 z → (L = 0 ∨ L = 1 → r0 = pr0) → (L = 0 ∨ L = 1 → r2 = pr2) → Fo Prod.snd (fun _ => False) z0 (c_X3_compare vl K k L x1 x3 x4 x5 x6 x7 r0 r2 z)
  | 0 => by
    intros
    exact fo_none
  | k + 1 => by
    intro L x1 x3 x4 x5 x6 x7 r0 r2 z hz h9_r0 h9_r2
    show Fo Prod.snd (fun _ => False) z0 (cb_X3_compare vl K (c_X3_compare vl K k) L x1 x3 x4 x5 x6 x7 r0 r2 z)
    unfold cb_X3_compare
    split
    · exact fb_X3_compare_0 (fq_X3_compare k) hz (h9_r0 (by decide)) (h9_r2 (by decide))
    · exact fb_X3_compare_1 (fq_X3_compare k) hz (h9_r0 (by decide)) (h9_r2 (by decide))
    · exact fo_none
theorem ff_X3_compare {vl : Nat → Nat} {K : Nat} {r0 : Nat} {x1 : Int32} {r2 : Nat} {x3 : Int32} {z : ow_MS} : Fo Prod.snd (fun _ => False) z (ce_X3_compare vl K r0 x1 r2 x3 z) := fq_X3_compare (pr0 := r0) (pr2 := r2) K 0 _ _ _ _ _ _ _ _ z fr_rf (fun _ => rfl) (fun _ => rfl)
theorem fb_X3_find_0 {K : Nat} {vl : Nat → Nat} {z0 z : ow_MS} {pr0 : Nat} {pr1 : Nat} {go : Nat → Int32 → Int32 → Int32 → Int32 → Int32 → Int32 → Nat → Nat → ow_MS → Option (Int32 × ow_MS)} {x2 : Int32} {x3 : Int32} {x4 : Int32} {x5 : Int32} {x6 : Int32} {x7 : Int32} {r0 : Nat} {r1 : Nat} (hgo : ∀ (L : Nat) (x2 : Int32) (x3 : Int32) (x4 : Int32) (x5 : Int32) (x6 : Int32) (x7 : Int32) (r0 : Nat) (r1 : Nat) (z : ow_MS), fr (fun _ => False) z0 z → (L = 0 ∨ L = 1 ∨ L = 2 → r0 = pr0) → (L = 0 ∨ L = 1 ∨ L = 2 → r1 = pr1) → Fo Prod.snd (fun _ => False) z0 (go L x2 x3 x4 x5 x6 x7 r0 r1 z)) (hz : fr (fun _ => False) z0 z) (e_r0 : r0 = pr0) (e_r1 : r1 = pr1) : Fo Prod.snd (fun _ => False) z0 (cm_X3_find_0 vl K go x2 x3 x4 x5 x6 x7 r0 r1 z) := by
  unfold cm_X3_find_0
  exact (fo_rdF (fun v1 => (hgo 1 _ _ _ _ _ _ _ _ z hz (fun _ => by omega) (fun _ => by omega))))
theorem fb_X3_find_1 {K : Nat} {vl : Nat → Nat} {z0 z : ow_MS} {pr0 : Nat} {pr1 : Nat} {go : Nat → Int32 → Int32 → Int32 → Int32 → Int32 → Int32 → Nat → Nat → ow_MS → Option (Int32 × ow_MS)} {x2 : Int32} {x3 : Int32} {x4 : Int32} {x5 : Int32} {x6 : Int32} {x7 : Int32} {r0 : Nat} {r1 : Nat} (hgo : ∀ (L : Nat) (x2 : Int32) (x3 : Int32) (x4 : Int32) (x5 : Int32) (x6 : Int32) (x7 : Int32) (r0 : Nat) (r1 : Nat) (z : ow_MS), fr (fun _ => False) z0 z → (L = 0 ∨ L = 1 ∨ L = 2 → r0 = pr0) → (L = 0 ∨ L = 1 ∨ L = 2 → r1 = pr1) → Fo Prod.snd (fun _ => False) z0 (go L x2 x3 x4 x5 x6 x7 r0 r1 z)) (hz : fr (fun _ => False) z0 z) (e_r0 : r0 = pr0) (e_r1 : r1 = pr1) : Fo Prod.snd (fun _ => False) z0 (cm_X3_find_1 vl K go x2 x3 x4 x5 x6 x7 r0 r1 z) := by
  unfold cm_X3_find_1
  exact (fo_if (fo_some hz) (fo_if (fo_some hz) (fc_crI (fun v2 => (fo_cs1 ff_X3_compare (fun g hg => hg.elim) hz (fun v4 z3 h_z3 => (fo_if (fo_some h_z3) (fo_if (hgo 2 _ _ _ _ _ _ _ _ z3 h_z3 (fun _ => by omega) (fun _ => by omega)) (hgo 2 _ _ _ _ _ _ _ _ z3 h_z3 (fun _ => by omega) (fun _ => by omega))))))))))
theorem fb_X3_find_2 {K : Nat} {vl : Nat → Nat} {z0 z : ow_MS} {pr0 : Nat} {pr1 : Nat} {go : Nat → Int32 → Int32 → Int32 → Int32 → Int32 → Int32 → Nat → Nat → ow_MS → Option (Int32 × ow_MS)} {x2 : Int32} {x3 : Int32} {x4 : Int32} {x5 : Int32} {x6 : Int32} {x7 : Int32} {r0 : Nat} {r1 : Nat} (hgo : ∀ (L : Nat) (x2 : Int32) (x3 : Int32) (x4 : Int32) (x5 : Int32) (x6 : Int32) (x7 : Int32) (r0 : Nat) (r1 : Nat) (z : ow_MS), fr (fun _ => False) z0 z → (L = 0 ∨ L = 1 ∨ L = 2 → r0 = pr0) → (L = 0 ∨ L = 1 ∨ L = 2 → r1 = pr1) → Fo Prod.snd (fun _ => False) z0 (go L x2 x3 x4 x5 x6 x7 r0 r1 z)) (hz : fr (fun _ => False) z0 z) (e_r0 : r0 = pr0) (e_r1 : r1 = pr1) : Fo Prod.snd (fun _ => False) z0 (cm_X3_find_2 vl K go x2 x3 x4 x5 x6 x7 r0 r1 z) := by
  unfold cm_X3_find_2
  exact (hgo 1 _ _ _ _ _ _ _ _ z hz (fun _ => by omega) (fun _ => by omega))
theorem fq_X3_find {K : Nat} {vl : Nat → Nat} {z0 : ow_MS} {pr0 : Nat} {pr1 : Nat} : ∀ (k L : Nat) (x2 : Int32) (x3 : Int32) (x4 : Int32) (x5 : Int32) (x6 : Int32) (x7 : Int32) (r0 : Nat) (r1 : Nat) (z : ow_MS), fr (fun _ => False) z0 z → (L = 0 ∨ L = 1 ∨ L = 2 → r0 = pr0) → (L = 0 ∨ L = 1 ∨ L = 2 → r1 = pr1) → Fo Prod.snd (fun _ => False) z0 (c_X3_find vl K k L x2 x3 x4 x5 x6 x7 r0 r1 z)
  | 0 => by
    intros
    exact fo_none
  | k + 1 => by
    intro L x2 x3 x4 x5 x6 x7 r0 r1 z hz h9_r0 h9_r1
    show Fo Prod.snd (fun _ => False) z0 (cb_X3_find vl K (c_X3_find vl K k) L x2 x3 x4 x5 x6 x7 r0 r1 z)
    unfold cb_X3_find
    split
    · exact fb_X3_find_0 (fq_X3_find k) hz (h9_r0 (by decide)) (h9_r1 (by decide))
    · exact fb_X3_find_1 (fq_X3_find k) hz (h9_r0 (by decide)) (h9_r1 (by decide))
    · exact fb_X3_find_2 (fq_X3_find k) hz (h9_r0 (by decide)) (h9_r1 (by decide))
    · exact fo_none
theorem ff_X3_find {vl : Nat → Nat} {K : Nat} {r0 : Nat} {r1 : Nat} {x2 : Int32} {z : ow_MS} : Fo Prod.snd (fun _ => False) z (ce_X3_find vl K r0 r1 x2 z) := fq_X3_find (pr0 := r0) (pr1 := r1) K 0 _ _ _ _ _ _ _ _ z fr_rf (fun _ => rfl) (fun _ => rfl)
theorem ff_X3_write {vl : Nat → Nat} {K : Nat} {r0 : Nat} {x1 : Int32} {r2 : Nat} {x3 : Int32} {z : ow_MS} : Fo id (fun g => r0 + 1 ≤ g ∧ g ≤ r0 + 3) z (ce_X3_write vl K r0 x1 r2 x3 z) := by
  unfold ce_X3_write cm_X3_write_0
  exact (fc_cpB (by omega) fr_rf (fun z1 h_z1 => (fc_crI (fun v2 => (fc_ctB (by omega) h_z1 (fun z3 h_z3 => (fc_crI (fun v4 => (fc_ctB (by omega) h_z3 (fun z5 h_z5 => (fo_some h_z5)))))))))))
theorem ff_X3_insert {vl : Nat → Nat} {K : Nat} {r0 : Nat} {x1 : Int32} {r2 : Nat} {x3 : Int32} {z : ow_MS} : Fo id (fun g => r0 + 1 ≤ g ∧ g ≤ r0 + 5) z (ce_X3_insert vl K r0 x1 r2 x3 z) := by
  unfold ce_X3_insert cm_X3_insert_0
  exact (fo_rdF (fun v1 => (fo_if (fo_rdF (fun v2 => (fo_cs0 ff_X3_write (fun g hg => by omega) fr_rf (fun z3 h_z3 => (fo_rdF (fun v4 => (fc_cpI (by omega) h_z3 (fun z5 h_z5 => (fo_rdF (fun v6 => (fc_ctI (by omega) h_z5 (fun z7 h_z7 => (fo_rdF (fun v8 => (fo_wrF (by omega) h_z7 (fun z9 h_z9 => (fo_some h_z9))))))))))))))))) (fo_some fr_rf))))
theorem fb_X2_collectParts_0 {K : Nat} {vl : Nat → Nat} {z0 z : ow_MS} {pr0 : Nat} {pr1 : Nat} {pr2 : Nat} {go : Nat → Int32 → Int32 → Nat → Nat → Nat → Int32 → ow_MS → Option ow_MS} {x3 : Int32} {x4 : Int32} {r0 : Nat} {r1 : Nat} {r2 : Nat} {t0 : Int32} (hgo : ∀ (L : Nat) (x3 : Int32) (x4 : Int32) (r0 : Nat) (r1 : Nat) (r2 : Nat) (t0 : Int32) (z : ow_MS), fr (fun g => pr0 + 4 ≤ g ∧ g ≤ pr0 + 6 ∨ pr0 + 2001 ≤ g ∧ g ≤ pr0 + 2003 ∨ pr1 + 6 ≤ g ∧ g ≤ pr1 + 11 ∨ pr2 + 1 ≤ g ∧ g ≤ pr2 + 5) z0 z → (L = 0 ∨ L = 1 ∨ L = 2 → r0 = pr0) → (L = 0 ∨ L = 1 ∨ L = 2 → r1 = pr1) → (L = 0 ∨ L = 1 ∨ L = 2 → r2 = pr2) → Fo id (fun g => pr0 + 4 ≤ g ∧ g ≤ pr0 + 6 ∨ pr0 + 2001 ≤ g ∧ g ≤ pr0 + 2003 ∨ pr1 + 6 ≤ g ∧ g ≤ pr1 + 11 ∨ pr2 + 1 ≤ g ∧ g ≤ pr2 + 5) z0 (go L x3 x4 r0 r1 r2 t0 z)) (hz : fr (fun g => pr0 + 4 ≤ g ∧ g ≤ pr0 + 6 ∨ pr0 + 2001 ≤ g ∧ g ≤ pr0 + 2003 ∨ pr1 + 6 ≤ g ∧ g ≤ pr1 + 11 ∨ pr2 + 1 ≤ g ∧ g ≤ pr2 + 5) z0 z) (e_r0 : r0 = pr0) (e_r1 : r1 = pr1) (e_r2 : r2 = pr2) : Fo id (fun g => pr0 + 4 ≤ g ∧ g ≤ pr0 + 6 ∨ pr0 + 2001 ≤ g ∧ g ≤ pr0 + 2003 ∨ pr1 + 6 ≤ g ∧ g ≤ pr1 + 11 ∨ pr2 + 1 ≤ g ∧ g ≤ pr2 + 5) z0 (cm_X2_collectParts_0 vl K go x3 x4 r0 r1 r2 t0 z) := by
  unfold cm_X2_collectParts_0
  exact (fo_cs0 ff_X7_markParts (fun g hg => by omega) hz (fun z1 h_z1 => (fo_wrF (by omega) h_z1 (fun z2 h_z2 => (hgo 1 _ _ _ _ _ _ z2 h_z2 (fun _ => by omega) (fun _ => by omega) (fun _ => by omega))))))
theorem fb_X2_collectParts_1 {K : Nat} {vl : Nat → Nat} {z0 z : ow_MS} {pr0 : Nat} {pr1 : Nat} {pr2 : Nat} {go : Nat → Int32 → Int32 → Nat → Nat → Nat → Int32 → ow_MS → Option ow_MS} {x3 : Int32} {x4 : Int32} {r0 : Nat} {r1 : Nat} {r2 : Nat} {t0 : Int32} (hgo : ∀ (L : Nat) (x3 : Int32) (x4 : Int32) (r0 : Nat) (r1 : Nat) (r2 : Nat) (t0 : Int32) (z : ow_MS), fr (fun g => pr0 + 4 ≤ g ∧ g ≤ pr0 + 6 ∨ pr0 + 2001 ≤ g ∧ g ≤ pr0 + 2003 ∨ pr1 + 6 ≤ g ∧ g ≤ pr1 + 11 ∨ pr2 + 1 ≤ g ∧ g ≤ pr2 + 5) z0 z → (L = 0 ∨ L = 1 ∨ L = 2 → r0 = pr0) → (L = 0 ∨ L = 1 ∨ L = 2 → r1 = pr1) → (L = 0 ∨ L = 1 ∨ L = 2 → r2 = pr2) → Fo id (fun g => pr0 + 4 ≤ g ∧ g ≤ pr0 + 6 ∨ pr0 + 2001 ≤ g ∧ g ≤ pr0 + 2003 ∨ pr1 + 6 ≤ g ∧ g ≤ pr1 + 11 ∨ pr2 + 1 ≤ g ∧ g ≤ pr2 + 5) z0 (go L x3 x4 r0 r1 r2 t0 z)) (hz : fr (fun g => pr0 + 4 ≤ g ∧ g ≤ pr0 + 6 ∨ pr0 + 2001 ≤ g ∧ g ≤ pr0 + 2003 ∨ pr1 + 6 ≤ g ∧ g ≤ pr1 + 11 ∨ pr2 + 1 ≤ g ∧ g ≤ pr2 + 5) z0 z) (e_r0 : r0 = pr0) (e_r1 : r1 = pr1) (e_r2 : r2 = pr2) : Fo id (fun g => pr0 + 4 ≤ g ∧ g ≤ pr0 + 6 ∨ pr0 + 2001 ≤ g ∧ g ≤ pr0 + 2003 ∨ pr1 + 6 ≤ g ∧ g ≤ pr1 + 11 ∨ pr2 + 1 ≤ g ∧ g ≤ pr2 + 5) z0 (cm_X2_collectParts_1 vl K go x3 x4 r0 r1 r2 t0 z) := by
  unfold cm_X2_collectParts_1
  exact (fo_rdF (fun v3 => (fo_if (fo_some hz) (fo_cs0 ff_X2_encodePart (fun g hg => by omega) hz (fun z4 h_z4 => (fo_cs1 ff_X3_find (fun g hg => hg.elim) h_z4 (fun v6 z5 h_z5 => (fo_if (hgo 2 _ _ _ _ _ _ z5 h_z5 (fun _ => by omega) (fun _ => by omega) (fun _ => by omega)) (hgo 2 _ _ _ _ _ _ z5 h_z5 (fun _ => by omega) (fun _ => by omega) (fun _ => by omega))))))))))
theorem fb_X2_collectParts_2 {K : Nat} {vl : Nat → Nat} {z0 z : ow_MS} {pr0 : Nat} {pr1 : Nat} {pr2 : Nat} {go : Nat → Int32 → Int32 → Nat → Nat → Nat → Int32 → ow_MS → Option ow_MS} {x3 : Int32} {x4 : Int32} {r0 : Nat} {r1 : Nat} {r2 : Nat} {t0 : Int32} (hgo : ∀ (L : Nat) (x3 : Int32) (x4 : Int32) (r0 : Nat) (r1 : Nat) (r2 : Nat) (t0 : Int32) (z : ow_MS), fr (fun g => pr0 + 4 ≤ g ∧ g ≤ pr0 + 6 ∨ pr0 + 2001 ≤ g ∧ g ≤ pr0 + 2003 ∨ pr1 + 6 ≤ g ∧ g ≤ pr1 + 11 ∨ pr2 + 1 ≤ g ∧ g ≤ pr2 + 5) z0 z → (L = 0 ∨ L = 1 ∨ L = 2 → r0 = pr0) → (L = 0 ∨ L = 1 ∨ L = 2 → r1 = pr1) → (L = 0 ∨ L = 1 ∨ L = 2 → r2 = pr2) → Fo id (fun g => pr0 + 4 ≤ g ∧ g ≤ pr0 + 6 ∨ pr0 + 2001 ≤ g ∧ g ≤ pr0 + 2003 ∨ pr1 + 6 ≤ g ∧ g ≤ pr1 + 11 ∨ pr2 + 1 ≤ g ∧ g ≤ pr2 + 5) z0 (go L x3 x4 r0 r1 r2 t0 z)) (hz : fr (fun g => pr0 + 4 ≤ g ∧ g ≤ pr0 + 6 ∨ pr0 + 2001 ≤ g ∧ g ≤ pr0 + 2003 ∨ pr1 + 6 ≤ g ∧ g ≤ pr1 + 11 ∨ pr2 + 1 ≤ g ∧ g ≤ pr2 + 5) z0 z) (e_r0 : r0 = pr0) (e_r1 : r1 = pr1) (e_r2 : r2 = pr2) : Fo id (fun g => pr0 + 4 ≤ g ∧ g ≤ pr0 + 6 ∨ pr0 + 2001 ≤ g ∧ g ≤ pr0 + 2003 ∨ pr1 + 6 ≤ g ∧ g ≤ pr1 + 11 ∨ pr2 + 1 ≤ g ∧ g ≤ pr2 + 5) z0 (cm_X2_collectParts_2 vl K go x3 x4 r0 r1 r2 t0 z) := by
  unfold cm_X2_collectParts_2
  exact (fo_cs0 ff_X3_insert (fun g hg => by omega) hz (fun z7 h_z7 => (hgo 1 _ _ _ _ _ _ z7 h_z7 (fun _ => by omega) (fun _ => by omega) (fun _ => by omega))))
theorem fq_X2_collectParts {K : Nat} {vl : Nat → Nat} {z0 : ow_MS} {pr0 : Nat} {pr1 : Nat} {pr2 : Nat} : ∀ (k L : Nat) (x3 : Int32) (x4 : Int32) (r0 : Nat) (r1 : Nat) (r2 : Nat) (t0 : Int32) (z : ow_MS), fr (fun g => pr0 + 4 ≤ g ∧ g ≤ pr0 + 6 ∨ pr0 + 2001 ≤ g ∧ g ≤ pr0 + 2003 ∨ pr1 + 6 ≤ g ∧ g ≤ pr1 + 11 ∨ pr2 + 1 ≤ g ∧ g ≤ pr2 + 5) z0 z → (L = 0 ∨ L = 1 ∨ L = 2 → r0 = pr0) → (L = 0 ∨ L = 1 ∨ L = 2 → r1 = pr1) → (L = 0 ∨ L = 1 ∨ L = 2 → r2 = pr2) → Fo id (fun g => pr0 + 4 ≤ g ∧ g ≤ pr0 + 6 ∨ pr0 + 2001 ≤ g ∧ g ≤ pr0 + 2003 ∨ pr1 + 6 ≤ g ∧ g ≤ pr1 + 11 ∨ pr2 + 1 ≤ g ∧ g ≤ pr2 + 5) z0 (c_X2_collectParts vl K k L x3 x4 r0 r1 r2 t0 z)
  | 0 => by
    intros
    exact fo_none
  | k + 1 => by
    intro L x3 x4 r0 r1 r2 t0 z hz h9_r0 h9_r1 h9_r2
    show Fo id (fun g => pr0 + 4 ≤ g ∧ g ≤ pr0 + 6 ∨ pr0 + 2001 ≤ g ∧ g ≤ pr0 + 2003 ∨ pr1 + 6 ≤ g ∧ g ≤ pr1 + 11 ∨ pr2 + 1 ≤ g ∧ g ≤ pr2 + 5) z0 (cb_X2_collectParts vl K (c_X2_collectParts vl K k) L x3 x4 r0 r1 r2 t0 z)
    unfold cb_X2_collectParts
    split
    · exact fb_X2_collectParts_0 (fq_X2_collectParts k) hz (h9_r0 (by decide)) (h9_r1 (by decide)) (h9_r2 (by decide))
    · exact fb_X2_collectParts_1 (fq_X2_collectParts k) hz (h9_r0 (by decide)) (h9_r1 (by decide)) (h9_r2 (by decide))
    · exact fb_X2_collectParts_2 (fq_X2_collectParts k) hz (h9_r0 (by decide)) (h9_r1 (by decide)) (h9_r2 (by decide))
    · exact fo_none
theorem ff_X2_collectParts {vl : Nat → Nat} {K : Nat} {r0 : Nat} {r1 : Nat} {r2 : Nat} {z : ow_MS} : Fo id (fun g => r0 + 4 ≤ g ∧ g ≤ r0 + 6 ∨ r0 + 2001 ≤ g ∧ g ≤ r0 + 2003 ∨ r1 + 6 ≤ g ∧ g ≤ r1 + 11 ∨ r2 + 1 ≤ g ∧ g ≤ r2 + 5) z (ce_X2_collectParts vl K r0 r1 r2 z) := fq_X2_collectParts (pr0 := r0) (pr1 := r1) (pr2 := r2) K 0 _ _ _ _ _ _ z fr_rf (fun _ => rfl) (fun _ => rfl) (fun _ => rfl)
theorem fb_X2_encode_0 {K : Nat} {vl : Nat → Nat} {z0 z : ow_MS} {pr0 : Nat} {pr1 : Nat} {go : Nat → Int32 → Int32 → Int32 → Int32 → Nat → Nat → ow_MS → Option ow_MS} {x2 : Int32} {x3 : Int32} {x4 : Int32} {x5 : Int32} {r0 : Nat} {r1 : Nat} (hgo : ∀ (L : Nat) (x2 : Int32) (x3 : Int32) (x4 : Int32) (x5 : Int32) (r0 : Nat) (r1 : Nat) (z : ow_MS), fr (fun g => pr0 + 4 ≤ g ∧ g ≤ pr0 + 6 ∨ pr0 + 1001 ≤ g ∧ g ≤ pr0 + 1003 ∨ pr0 + 2001 ≤ g ∧ g ≤ pr0 + 2003 ∨ pr0 + 3001 ≤ g ∧ g ≤ pr0 + 3005 ∨ pr1 + 6 ≤ g ∧ g ≤ pr1 + 11) z0 z → (L = 0 ∨ L = 1 ∨ L = 2 ∨ L = 3 ∨ L = 4 → r0 = pr0) → (L = 0 ∨ L = 1 ∨ L = 2 ∨ L = 3 ∨ L = 4 → r1 = pr1) → Fo id (fun g => pr0 + 4 ≤ g ∧ g ≤ pr0 + 6 ∨ pr0 + 1001 ≤ g ∧ g ≤ pr0 + 1003 ∨ pr0 + 2001 ≤ g ∧ g ≤ pr0 + 2003 ∨ pr0 + 3001 ≤ g ∧ g ≤ pr0 + 3005 ∨ pr1 + 6 ≤ g ∧ g ≤ pr1 + 11) z0 (go L x2 x3 x4 x5 r0 r1 z)) (hz : fr (fun g => pr0 + 4 ≤ g ∧ g ≤ pr0 + 6 ∨ pr0 + 1001 ≤ g ∧ g ≤ pr0 + 1003 ∨ pr0 + 2001 ≤ g ∧ g ≤ pr0 + 2003 ∨ pr0 + 3001 ≤ g ∧ g ≤ pr0 + 3005 ∨ pr1 + 6 ≤ g ∧ g ≤ pr1 + 11) z0 z) (e_r0 : r0 = pr0) (e_r1 : r1 = pr1) : Fo id (fun g => pr0 + 4 ≤ g ∧ g ≤ pr0 + 6 ∨ pr0 + 1001 ≤ g ∧ g ≤ pr0 + 1003 ∨ pr0 + 2001 ≤ g ∧ g ≤ pr0 + 2003 ∨ pr0 + 3001 ≤ g ∧ g ≤ pr0 + 3005 ∨ pr1 + 6 ≤ g ∧ g ≤ pr1 + 11) z0 (cm_X2_encode_0 vl K go x2 x3 x4 x5 r0 r1 z) := by
  unfold cm_X2_encode_0
  exact (fo_cs0 ff_X2_collectParts (fun g hg => by omega) hz (fun z1 h_z1 => (hgo 1 _ _ _ _ _ _ z1 h_z1 (fun _ => by omega) (fun _ => by omega))))
theorem fb_X2_encode_1 {K : Nat} {vl : Nat → Nat} {z0 z : ow_MS} {pr0 : Nat} {pr1 : Nat} {go : Nat → Int32 → Int32 → Int32 → Int32 → Nat → Nat → ow_MS → Option ow_MS} {x2 : Int32} {x3 : Int32} {x4 : Int32} {x5 : Int32} {r0 : Nat} {r1 : Nat} (hgo : ∀ (L : Nat) (x2 : Int32) (x3 : Int32) (x4 : Int32) (x5 : Int32) (r0 : Nat) (r1 : Nat) (z : ow_MS), fr (fun g => pr0 + 4 ≤ g ∧ g ≤ pr0 + 6 ∨ pr0 + 1001 ≤ g ∧ g ≤ pr0 + 1003 ∨ pr0 + 2001 ≤ g ∧ g ≤ pr0 + 2003 ∨ pr0 + 3001 ≤ g ∧ g ≤ pr0 + 3005 ∨ pr1 + 6 ≤ g ∧ g ≤ pr1 + 11) z0 z → (L = 0 ∨ L = 1 ∨ L = 2 ∨ L = 3 ∨ L = 4 → r0 = pr0) → (L = 0 ∨ L = 1 ∨ L = 2 ∨ L = 3 ∨ L = 4 → r1 = pr1) → Fo id (fun g => pr0 + 4 ≤ g ∧ g ≤ pr0 + 6 ∨ pr0 + 1001 ≤ g ∧ g ≤ pr0 + 1003 ∨ pr0 + 2001 ≤ g ∧ g ≤ pr0 + 2003 ∨ pr0 + 3001 ≤ g ∧ g ≤ pr0 + 3005 ∨ pr1 + 6 ≤ g ∧ g ≤ pr1 + 11) z0 (go L x2 x3 x4 x5 r0 r1 z)) (hz : fr (fun g => pr0 + 4 ≤ g ∧ g ≤ pr0 + 6 ∨ pr0 + 1001 ≤ g ∧ g ≤ pr0 + 1003 ∨ pr0 + 2001 ≤ g ∧ g ≤ pr0 + 2003 ∨ pr0 + 3001 ≤ g ∧ g ≤ pr0 + 3005 ∨ pr1 + 6 ≤ g ∧ g ≤ pr1 + 11) z0 z) (e_r0 : r0 = pr0) (e_r1 : r1 = pr1) : Fo id (fun g => pr0 + 4 ≤ g ∧ g ≤ pr0 + 6 ∨ pr0 + 1001 ≤ g ∧ g ≤ pr0 + 1003 ∨ pr0 + 2001 ≤ g ∧ g ≤ pr0 + 2003 ∨ pr0 + 3001 ≤ g ∧ g ≤ pr0 + 3005 ∨ pr1 + 6 ≤ g ∧ g ≤ pr1 + 11) z0 (cm_X2_encode_1 vl K go x2 x3 x4 x5 r0 r1 z) := by
  unfold cm_X2_encode_1
  exact (fo_rdF (fun v2 => (fo_if (hgo 3 _ _ _ _ _ _ z hz (fun _ => by omega) (fun _ => by omega)) (fc_crI (fun v3 => (fc_crI (fun v4 => (fo_if (hgo 2 _ _ _ _ _ _ z hz (fun _ => by omega) (fun _ => by omega)) (fc_cpB (by omega) hz (fun z5 h_z5 => (hgo 2 _ _ _ _ _ _ z5 h_z5 (fun _ => by omega) (fun _ => by omega))))))))))))
theorem fb_X2_encode_2 {K : Nat} {vl : Nat → Nat} {z0 z : ow_MS} {pr0 : Nat} {pr1 : Nat} {go : Nat → Int32 → Int32 → Int32 → Int32 → Nat → Nat → ow_MS → Option ow_MS} {x2 : Int32} {x3 : Int32} {x4 : Int32} {x5 : Int32} {r0 : Nat} {r1 : Nat} (hgo : ∀ (L : Nat) (x2 : Int32) (x3 : Int32) (x4 : Int32) (x5 : Int32) (r0 : Nat) (r1 : Nat) (z : ow_MS), fr (fun g => pr0 + 4 ≤ g ∧ g ≤ pr0 + 6 ∨ pr0 + 1001 ≤ g ∧ g ≤ pr0 + 1003 ∨ pr0 + 2001 ≤ g ∧ g ≤ pr0 + 2003 ∨ pr0 + 3001 ≤ g ∧ g ≤ pr0 + 3005 ∨ pr1 + 6 ≤ g ∧ g ≤ pr1 + 11) z0 z → (L = 0 ∨ L = 1 ∨ L = 2 ∨ L = 3 ∨ L = 4 → r0 = pr0) → (L = 0 ∨ L = 1 ∨ L = 2 ∨ L = 3 ∨ L = 4 → r1 = pr1) → Fo id (fun g => pr0 + 4 ≤ g ∧ g ≤ pr0 + 6 ∨ pr0 + 1001 ≤ g ∧ g ≤ pr0 + 1003 ∨ pr0 + 2001 ≤ g ∧ g ≤ pr0 + 2003 ∨ pr0 + 3001 ≤ g ∧ g ≤ pr0 + 3005 ∨ pr1 + 6 ≤ g ∧ g ≤ pr1 + 11) z0 (go L x2 x3 x4 x5 r0 r1 z)) (hz : fr (fun g => pr0 + 4 ≤ g ∧ g ≤ pr0 + 6 ∨ pr0 + 1001 ≤ g ∧ g ≤ pr0 + 1003 ∨ pr0 + 2001 ≤ g ∧ g ≤ pr0 + 2003 ∨ pr0 + 3001 ≤ g ∧ g ≤ pr0 + 3005 ∨ pr1 + 6 ≤ g ∧ g ≤ pr1 + 11) z0 z) (e_r0 : r0 = pr0) (e_r1 : r1 = pr1) : Fo id (fun g => pr0 + 4 ≤ g ∧ g ≤ pr0 + 6 ∨ pr0 + 1001 ≤ g ∧ g ≤ pr0 + 1003 ∨ pr0 + 2001 ≤ g ∧ g ≤ pr0 + 2003 ∨ pr0 + 3001 ≤ g ∧ g ≤ pr0 + 3005 ∨ pr1 + 6 ≤ g ∧ g ≤ pr1 + 11) z0 (cm_X2_encode_2 vl K go x2 x3 x4 x5 r0 r1 z) := by
  unfold cm_X2_encode_2
  exact (hgo 1 _ _ _ _ _ _ z hz (fun _ => by omega) (fun _ => by omega))
theorem fb_X2_encode_3 {K : Nat} {vl : Nat → Nat} {z0 z : ow_MS} {pr0 : Nat} {pr1 : Nat} {go : Nat → Int32 → Int32 → Int32 → Int32 → Nat → Nat → ow_MS → Option ow_MS} {x2 : Int32} {x3 : Int32} {x4 : Int32} {x5 : Int32} {r0 : Nat} {r1 : Nat} (hgo : ∀ (L : Nat) (x2 : Int32) (x3 : Int32) (x4 : Int32) (x5 : Int32) (r0 : Nat) (r1 : Nat) (z : ow_MS), fr (fun g => pr0 + 4 ≤ g ∧ g ≤ pr0 + 6 ∨ pr0 + 1001 ≤ g ∧ g ≤ pr0 + 1003 ∨ pr0 + 2001 ≤ g ∧ g ≤ pr0 + 2003 ∨ pr0 + 3001 ≤ g ∧ g ≤ pr0 + 3005 ∨ pr1 + 6 ≤ g ∧ g ≤ pr1 + 11) z0 z → (L = 0 ∨ L = 1 ∨ L = 2 ∨ L = 3 ∨ L = 4 → r0 = pr0) → (L = 0 ∨ L = 1 ∨ L = 2 ∨ L = 3 ∨ L = 4 → r1 = pr1) → Fo id (fun g => pr0 + 4 ≤ g ∧ g ≤ pr0 + 6 ∨ pr0 + 1001 ≤ g ∧ g ≤ pr0 + 1003 ∨ pr0 + 2001 ≤ g ∧ g ≤ pr0 + 2003 ∨ pr0 + 3001 ≤ g ∧ g ≤ pr0 + 3005 ∨ pr1 + 6 ≤ g ∧ g ≤ pr1 + 11) z0 (go L x2 x3 x4 x5 r0 r1 z)) (hz : fr (fun g => pr0 + 4 ≤ g ∧ g ≤ pr0 + 6 ∨ pr0 + 1001 ≤ g ∧ g ≤ pr0 + 1003 ∨ pr0 + 2001 ≤ g ∧ g ≤ pr0 + 2003 ∨ pr0 + 3001 ≤ g ∧ g ≤ pr0 + 3005 ∨ pr1 + 6 ≤ g ∧ g ≤ pr1 + 11) z0 z) (e_r0 : r0 = pr0) (e_r1 : r1 = pr1) : Fo id (fun g => pr0 + 4 ≤ g ∧ g ≤ pr0 + 6 ∨ pr0 + 1001 ≤ g ∧ g ≤ pr0 + 1003 ∨ pr0 + 2001 ≤ g ∧ g ≤ pr0 + 2003 ∨ pr0 + 3001 ≤ g ∧ g ≤ pr0 + 3005 ∨ pr1 + 6 ≤ g ∧ g ≤ pr1 + 11) z0 (cm_X2_encode_3 vl K go x2 x3 x4 x5 r0 r1 z) := by
  unfold cm_X2_encode_3
  exact (fo_rdF (fun v6 => (fo_if (hgo 4 _ _ _ _ _ _ z hz (fun _ => by omega) (fun _ => by omega)) (fo_if (hgo 4 _ _ _ _ _ _ z hz (fun _ => by omega) (fun _ => by omega)) (fc_ctB (by omega) hz (fun z7 h_z7 => (hgo 3 _ _ _ _ _ _ z7 h_z7 (fun _ => by omega) (fun _ => by omega))))))))
theorem fb_X2_encode_4 {K : Nat} {vl : Nat → Nat} {z0 z : ow_MS} {pr0 : Nat} {pr1 : Nat} {go : Nat → Int32 → Int32 → Int32 → Int32 → Nat → Nat → ow_MS → Option ow_MS} {x2 : Int32} {x3 : Int32} {x4 : Int32} {x5 : Int32} {r0 : Nat} {r1 : Nat} (hgo : ∀ (L : Nat) (x2 : Int32) (x3 : Int32) (x4 : Int32) (x5 : Int32) (r0 : Nat) (r1 : Nat) (z : ow_MS), fr (fun g => pr0 + 4 ≤ g ∧ g ≤ pr0 + 6 ∨ pr0 + 1001 ≤ g ∧ g ≤ pr0 + 1003 ∨ pr0 + 2001 ≤ g ∧ g ≤ pr0 + 2003 ∨ pr0 + 3001 ≤ g ∧ g ≤ pr0 + 3005 ∨ pr1 + 6 ≤ g ∧ g ≤ pr1 + 11) z0 z → (L = 0 ∨ L = 1 ∨ L = 2 ∨ L = 3 ∨ L = 4 → r0 = pr0) → (L = 0 ∨ L = 1 ∨ L = 2 ∨ L = 3 ∨ L = 4 → r1 = pr1) → Fo id (fun g => pr0 + 4 ≤ g ∧ g ≤ pr0 + 6 ∨ pr0 + 1001 ≤ g ∧ g ≤ pr0 + 1003 ∨ pr0 + 2001 ≤ g ∧ g ≤ pr0 + 2003 ∨ pr0 + 3001 ≤ g ∧ g ≤ pr0 + 3005 ∨ pr1 + 6 ≤ g ∧ g ≤ pr1 + 11) z0 (go L x2 x3 x4 x5 r0 r1 z)) (hz : fr (fun g => pr0 + 4 ≤ g ∧ g ≤ pr0 + 6 ∨ pr0 + 1001 ≤ g ∧ g ≤ pr0 + 1003 ∨ pr0 + 2001 ≤ g ∧ g ≤ pr0 + 2003 ∨ pr0 + 3001 ≤ g ∧ g ≤ pr0 + 3005 ∨ pr1 + 6 ≤ g ∧ g ≤ pr1 + 11) z0 z) (e_r0 : r0 = pr0) (e_r1 : r1 = pr1) : Fo id (fun g => pr0 + 4 ≤ g ∧ g ≤ pr0 + 6 ∨ pr0 + 1001 ≤ g ∧ g ≤ pr0 + 1003 ∨ pr0 + 2001 ≤ g ∧ g ≤ pr0 + 2003 ∨ pr0 + 3001 ≤ g ∧ g ≤ pr0 + 3005 ∨ pr1 + 6 ≤ g ∧ g ≤ pr1 + 11) z0 (cm_X2_encode_4 vl K go x2 x3 x4 x5 r0 r1 z) := by
  unfold cm_X2_encode_4
  exact (fc_ctB (by omega) hz (fun z8 h_z8 => (fo_rdF (fun v9 => (fc_ctB (by omega) h_z8 (fun z10 h_z10 => (fo_some h_z10)))))))
theorem fq_X2_encode {K : Nat} {vl : Nat → Nat} {z0 : ow_MS} {pr0 : Nat} {pr1 : Nat} : ∀ (k L : Nat) (x2 : Int32) (x3 : Int32) (x4 : Int32) (x5 : Int32) (r0 : Nat) (r1 : Nat) (z : ow_MS), fr (fun g => pr0 + 4 ≤ g ∧ g ≤ pr0 + 6 ∨ pr0 + 1001 ≤ g ∧ g ≤ pr0 + 1003 ∨ pr0 + 2001 ≤ g ∧ g ≤ pr0 + 2003 ∨ pr0 + 3001 ≤ g ∧ g ≤ pr0 + 3005 ∨ pr1 + 6 ≤ g ∧ g ≤ pr1 + 11) z0 z → (L = 0 ∨ L = 1 ∨ L = 2 ∨ L = 3 ∨ L = 4 → r0 = pr0) → (L = 0 ∨ L = 1 ∨ L = 2 ∨ L = 3 ∨ L = 4 → r1 = pr1) → Fo id (fun g => pr0 + 4 ≤ g ∧ g ≤ pr0 + 6 ∨ pr0 + 1001 ≤ g ∧ g ≤ pr0 + 1003 ∨ pr0 + 2001 ≤ g ∧ g ≤ pr0 + 2003 ∨ pr0 + 3001 ≤ g ∧ g ≤ pr0 + 3005 ∨ pr1 + 6 ≤ g ∧ g ≤ pr1 + 11) z0 (c_X2_encode vl K k L x2 x3 x4 x5 r0 r1 z)
  | 0 => by
    intros
    exact fo_none
  | k + 1 => by
    intro L x2 x3 x4 x5 r0 r1 z hz h9_r0 h9_r1
    show Fo id (fun g => pr0 + 4 ≤ g ∧ g ≤ pr0 + 6 ∨ pr0 + 1001 ≤ g ∧ g ≤ pr0 + 1003 ∨ pr0 + 2001 ≤ g ∧ g ≤ pr0 + 2003 ∨ pr0 + 3001 ≤ g ∧ g ≤ pr0 + 3005 ∨ pr1 + 6 ≤ g ∧ g ≤ pr1 + 11) z0 (cb_X2_encode vl K (c_X2_encode vl K k) L x2 x3 x4 x5 r0 r1 z)
    unfold cb_X2_encode
    split
    · exact fb_X2_encode_0 (fq_X2_encode k) hz (h9_r0 (by decide)) (h9_r1 (by decide))
    · exact fb_X2_encode_1 (fq_X2_encode k) hz (h9_r0 (by decide)) (h9_r1 (by decide))
    · exact fb_X2_encode_2 (fq_X2_encode k) hz (h9_r0 (by decide)) (h9_r1 (by decide))
    · exact fb_X2_encode_3 (fq_X2_encode k) hz (h9_r0 (by decide)) (h9_r1 (by decide))
    · exact fb_X2_encode_4 (fq_X2_encode k) hz (h9_r0 (by decide)) (h9_r1 (by decide))
    · exact fo_none
theorem ff_X2_encode {vl : Nat → Nat} {K : Nat} {r0 : Nat} {r1 : Nat} {z : ow_MS} : Fo id (fun g => r0 + 4 ≤ g ∧ g ≤ r0 + 6 ∨ r0 + 1001 ≤ g ∧ g ≤ r0 + 1003 ∨ r0 + 2001 ≤ g ∧ g ≤ r0 + 2003 ∨ r0 + 3001 ≤ g ∧ g ≤ r0 + 3005 ∨ r1 + 6 ≤ g ∧ g ≤ r1 + 11) z (ce_X2_encode vl K r0 r1 z) := fq_X2_encode (pr0 := r0) (pr1 := r1) K 0 _ _ _ _ _ _ z fr_rf (fun _ => rfl) (fun _ => rfl)
theorem ff_X11_keep {vl : Nat → Nat} {K : Nat} {r0 : Nat} {x1 : Int32} {z : ow_MS} : Fo Prod.snd (fun g => r0 + 1001 ≤ g ∧ g ≤ r0 + 1003 ∨ r0 + 4006 ≤ g ∧ g ≤ r0 + 4011 ∨ r0 + 7004 ≤ g ∧ g ≤ r0 + 7006 ∨ r0 + 8001 ≤ g ∧ g ≤ r0 + 8003 ∨ r0 + 9001 ≤ g ∧ g ≤ r0 + 9003 ∨ r0 + 10001 ≤ g ∧ g ≤ r0 + 10005) z (ce_X11_keep vl K r0 x1 z) := by
  unfold ce_X11_keep cm_X11_keep_0
  exact (fo_cs0 ff_X2_encode (fun g hg => by omega) fr_rf (fun z1 h_z1 => (fo_cs0 ff_X3_write (fun g hg => by omega) h_z1 (fun z2 h_z2 => (fo_some h_z2)))))
theorem fb_X11_diagram_0 {K : Nat} {vl : Nat → Nat} {z0 z : ow_MS} {pr0 : Nat} {go : Nat → Int32 → Int32 → Nat → ow_MS → Option (Nat × Int32 × ow_MS)} {x1 : Int32} {x2 : Int32} {r0 : Nat} (hgo : ∀ (L : Nat) (x1 : Int32) (x2 : Int32) (r0 : Nat) (z : ow_MS), fr (fun g => pr0 + 1001 ≤ g ∧ g ≤ pr0 + 1003 ∨ pr0 + 4001 ≤ g ∧ g ≤ pr0 + 4011 ∨ pr0 + 6001 ≤ g ∧ g ≤ pr0 + 6002 ∨ pr0 + 7004 ≤ g ∧ g ≤ pr0 + 7006 ∨ pr0 + 8001 ≤ g ∧ g ≤ pr0 + 8003 ∨ pr0 + 9001 ≤ g ∧ g ≤ pr0 + 9003 ∨ pr0 + 10001 ≤ g ∧ g ≤ pr0 + 10005 ∨ pr0 + 11001 ≤ g ∧ g ≤ pr0 + 11006) z0 z → (L = 0 ∨ L = 1 → r0 = pr0) → Fo (fun r => r.2.2) (fun g => pr0 + 1001 ≤ g ∧ g ≤ pr0 + 1003 ∨ pr0 + 4001 ≤ g ∧ g ≤ pr0 + 4011 ∨ pr0 + 6001 ≤ g ∧ g ≤ pr0 + 6002 ∨ pr0 + 7004 ≤ g ∧ g ≤ pr0 + 7006 ∨ pr0 + 8001 ≤ g ∧ g ≤ pr0 + 8003 ∨ pr0 + 9001 ≤ g ∧ g ≤ pr0 + 9003 ∨ pr0 + 10001 ≤ g ∧ g ≤ pr0 + 10005 ∨ pr0 + 11001 ≤ g ∧ g ≤ pr0 + 11006) z0 (go L x1 x2 r0 z)) (hz : fr (fun g => pr0 + 1001 ≤ g ∧ g ≤ pr0 + 1003 ∨ pr0 + 4001 ≤ g ∧ g ≤ pr0 + 4011 ∨ pr0 + 6001 ≤ g ∧ g ≤ pr0 + 6002 ∨ pr0 + 7004 ≤ g ∧ g ≤ pr0 + 7006 ∨ pr0 + 8001 ≤ g ∧ g ≤ pr0 + 8003 ∨ pr0 + 9001 ≤ g ∧ g ≤ pr0 + 9003 ∨ pr0 + 10001 ≤ g ∧ g ≤ pr0 + 10005 ∨ pr0 + 11001 ≤ g ∧ g ≤ pr0 + 11006) z0 z) (e_r0 : r0 = pr0) : Fo (fun r => r.2.2) (fun g => pr0 + 1001 ≤ g ∧ g ≤ pr0 + 1003 ∨ pr0 + 4001 ≤ g ∧ g ≤ pr0 + 4011 ∨ pr0 + 6001 ≤ g ∧ g ≤ pr0 + 6002 ∨ pr0 + 7004 ≤ g ∧ g ≤ pr0 + 7006 ∨ pr0 + 8001 ≤ g ∧ g ≤ pr0 + 8003 ∨ pr0 + 9001 ≤ g ∧ g ≤ pr0 + 9003 ∨ pr0 + 10001 ≤ g ∧ g ≤ pr0 + 10005 ∨ pr0 + 11001 ≤ g ∧ g ≤ pr0 + 11006) z0 (cm_X11_diagram_0 vl K go x1 x2 r0 z) := by
  unfold cm_X11_diagram_0
  exact (fc_tc1 ff_X11_freeDiagram (fun g hg => hg.elim) hz (fun k z h_e => (fo_some h_e)) (fun v3 z1 h_z1 => (fo_cs1 ff_X9_readDiagram (fun g hg => by omega) h_z1 (fun v5 z4 h_z4 => (fo_if (fo_cs1 ff_X4_isPlane (fun g hg => by omega) h_z4 (fun v7 z6 h_z6 => (fo_if (fo_rdF (fun v8 => (hgo 1 _ _ _ z6 h_z6 (fun _ => by omega)))) (hgo 1 _ _ _ z6 h_z6 (fun _ => by omega))))) (hgo 1 _ _ _ z4 h_z4 (fun _ => by omega)))))))
theorem fb_X11_diagram_1 {K : Nat} {vl : Nat → Nat} {z0 z : ow_MS} {pr0 : Nat} {go : Nat → Int32 → Int32 → Nat → ow_MS → Option (Nat × Int32 × ow_MS)} {x1 : Int32} {x2 : Int32} {r0 : Nat} (hgo : ∀ (L : Nat) (x1 : Int32) (x2 : Int32) (r0 : Nat) (z : ow_MS), fr (fun g => pr0 + 1001 ≤ g ∧ g ≤ pr0 + 1003 ∨ pr0 + 4001 ≤ g ∧ g ≤ pr0 + 4011 ∨ pr0 + 6001 ≤ g ∧ g ≤ pr0 + 6002 ∨ pr0 + 7004 ≤ g ∧ g ≤ pr0 + 7006 ∨ pr0 + 8001 ≤ g ∧ g ≤ pr0 + 8003 ∨ pr0 + 9001 ≤ g ∧ g ≤ pr0 + 9003 ∨ pr0 + 10001 ≤ g ∧ g ≤ pr0 + 10005 ∨ pr0 + 11001 ≤ g ∧ g ≤ pr0 + 11006) z0 z → (L = 0 ∨ L = 1 → r0 = pr0) → Fo (fun r => r.2.2) (fun g => pr0 + 1001 ≤ g ∧ g ≤ pr0 + 1003 ∨ pr0 + 4001 ≤ g ∧ g ≤ pr0 + 4011 ∨ pr0 + 6001 ≤ g ∧ g ≤ pr0 + 6002 ∨ pr0 + 7004 ≤ g ∧ g ≤ pr0 + 7006 ∨ pr0 + 8001 ≤ g ∧ g ≤ pr0 + 8003 ∨ pr0 + 9001 ≤ g ∧ g ≤ pr0 + 9003 ∨ pr0 + 10001 ≤ g ∧ g ≤ pr0 + 10005 ∨ pr0 + 11001 ≤ g ∧ g ≤ pr0 + 11006) z0 (go L x1 x2 r0 z)) (hz : fr (fun g => pr0 + 1001 ≤ g ∧ g ≤ pr0 + 1003 ∨ pr0 + 4001 ≤ g ∧ g ≤ pr0 + 4011 ∨ pr0 + 6001 ≤ g ∧ g ≤ pr0 + 6002 ∨ pr0 + 7004 ≤ g ∧ g ≤ pr0 + 7006 ∨ pr0 + 8001 ≤ g ∧ g ≤ pr0 + 8003 ∨ pr0 + 9001 ≤ g ∧ g ≤ pr0 + 9003 ∨ pr0 + 10001 ≤ g ∧ g ≤ pr0 + 10005 ∨ pr0 + 11001 ≤ g ∧ g ≤ pr0 + 11006) z0 z) (e_r0 : r0 = pr0) : Fo (fun r => r.2.2) (fun g => pr0 + 1001 ≤ g ∧ g ≤ pr0 + 1003 ∨ pr0 + 4001 ≤ g ∧ g ≤ pr0 + 4011 ∨ pr0 + 6001 ≤ g ∧ g ≤ pr0 + 6002 ∨ pr0 + 7004 ≤ g ∧ g ≤ pr0 + 7006 ∨ pr0 + 8001 ≤ g ∧ g ≤ pr0 + 8003 ∨ pr0 + 9001 ≤ g ∧ g ≤ pr0 + 9003 ∨ pr0 + 10001 ≤ g ∧ g ≤ pr0 + 10005 ∨ pr0 + 11001 ≤ g ∧ g ≤ pr0 + 11006) z0 (cm_X11_diagram_1 vl K go x1 x2 r0 z) := by
  unfold cm_X11_diagram_1
  exact (fo_wrF (by omega) hz (fun z9 h_z9 => (fo_if (fo_cs1 ff_X11_keep (fun g hg => by omega) h_z9 (fun v11 z10 h_z10 => (fo_some h_z10))) (fo_some h_z9))))
theorem fq_X11_diagram {K : Nat} {vl : Nat → Nat} {z0 : ow_MS} {pr0 : Nat} : ∀ (k L : Nat) (x1 : Int32) (x2 : Int32) (r0 : Nat) (z : ow_MS), fr (fun g => pr0 + 1001 ≤ g ∧ g ≤ pr0 + 1003 ∨ pr0 + 4001 ≤ g ∧ g ≤ pr0 + 4011 ∨ pr0 + 6001 ≤ g ∧ g ≤ pr0 + 6002 ∨ pr0 + 7004 ≤ g ∧ g ≤ pr0 + 7006 ∨ pr0 + 8001 ≤ g ∧ g ≤ pr0 + 8003 ∨ pr0 + 9001 ≤ g ∧ g ≤ pr0 + 9003 ∨ pr0 + 10001 ≤ g ∧ g ≤ pr0 + 10005 ∨ pr0 + 11001 ≤ g ∧ g ≤ pr0 + 11006) z0 z → (L = 0 ∨ L = 1 → r0 = pr0) → Fo (fun r => r.2.2) (fun g => pr0 + 1001 ≤ g ∧ g ≤ pr0 + 1003 ∨ pr0 + 4001 ≤ g ∧ g ≤ pr0 + 4011 ∨ pr0 + 6001 ≤ g ∧ g ≤ pr0 + 6002 ∨ pr0 + 7004 ≤ g ∧ g ≤ pr0 + 7006 ∨ pr0 + 8001 ≤ g ∧ g ≤ pr0 + 8003 ∨ pr0 + 9001 ≤ g ∧ g ≤ pr0 + 9003 ∨ pr0 + 10001 ≤ g ∧ g ≤ pr0 + 10005 ∨ pr0 + 11001 ≤ g ∧ g ≤ pr0 + 11006) z0 (c_X11_diagram vl K k L x1 x2 r0 z)
  | 0 => by
    intros
    exact fo_none
  | k + 1 => by
    intro L x1 x2 r0 z hz h9_r0
    show Fo (fun r => r.2.2) (fun g => pr0 + 1001 ≤ g ∧ g ≤ pr0 + 1003 ∨ pr0 + 4001 ≤ g ∧ g ≤ pr0 + 4011 ∨ pr0 + 6001 ≤ g ∧ g ≤ pr0 + 6002 ∨ pr0 + 7004 ≤ g ∧ g ≤ pr0 + 7006 ∨ pr0 + 8001 ≤ g ∧ g ≤ pr0 + 8003 ∨ pr0 + 9001 ≤ g ∧ g ≤ pr0 + 9003 ∨ pr0 + 10001 ≤ g ∧ g ≤ pr0 + 10005 ∨ pr0 + 11001 ≤ g ∧ g ≤ pr0 + 11006) z0 (cb_X11_diagram vl K (c_X11_diagram vl K k) L x1 x2 r0 z)
    unfold cb_X11_diagram
    split
    · exact fb_X11_diagram_0 (fq_X11_diagram k) hz (h9_r0 (by decide))
    · exact fb_X11_diagram_1 (fq_X11_diagram k) hz (h9_r0 (by decide))
    · exact fo_none
theorem ff_X11_diagram {vl : Nat → Nat} {K : Nat} {r0 : Nat} {z : ow_MS} : Fo (fun r => r.2.2) (fun g => r0 + 1001 ≤ g ∧ g ≤ r0 + 1003 ∨ r0 + 4001 ≤ g ∧ g ≤ r0 + 4011 ∨ r0 + 6001 ≤ g ∧ g ≤ r0 + 6002 ∨ r0 + 7004 ≤ g ∧ g ≤ r0 + 7006 ∨ r0 + 8001 ≤ g ∧ g ≤ r0 + 8003 ∨ r0 + 9001 ≤ g ∧ g ≤ r0 + 9003 ∨ r0 + 10001 ≤ g ∧ g ≤ r0 + 10005 ∨ r0 + 11001 ≤ g ∧ g ≤ r0 + 11006) z (ce_X11_diagram vl K r0 z) := fq_X11_diagram (pr0 := r0) K 0 _ _ _ z fr_rf (fun _ => rfl)
theorem fb_X11_freeBraid_0 {K : Nat} {vl : Nat → Nat} {z0 z : ow_MS} {pr0 : Nat} {go : Nat → Int32 → Nat → ow_MS → Option (Nat × Int32 × ow_MS)} {x1 : Int32} {r0 : Nat} (hgo : ∀ (L : Nat) (x1 : Int32) (r0 : Nat) (z : ow_MS), fr (fun _ => False) z0 z → (L = 0 ∨ L = 1 → r0 = pr0) → Fo (fun r => r.2.2) (fun _ => False) z0 (go L x1 r0 z)) (hz : fr (fun _ => False) z0 z) (e_r0 : r0 = pr0) : Fo (fun r => r.2.2) (fun _ => False) z0 (cm_X11_freeBraid_0 vl K go x1 r0 z) := by
  unfold cm_X11_freeBraid_0
  exact (hgo 1 _ _ z hz (fun _ => by omega))
theorem fb_X11_freeBraid_1 {K : Nat} {vl : Nat → Nat} {z0 z : ow_MS} {pr0 : Nat} {go : Nat → Int32 → Nat → ow_MS → Option (Nat × Int32 × ow_MS)} {x1 : Int32} {r0 : Nat} (hgo : ∀ (L : Nat) (x1 : Int32) (r0 : Nat) (z : ow_MS), fr (fun _ => False) z0 z → (L = 0 ∨ L = 1 → r0 = pr0) → Fo (fun r => r.2.2) (fun _ => False) z0 (go L x1 r0 z)) (hz : fr (fun _ => False) z0 z) (e_r0 : r0 = pr0) : Fo (fun r => r.2.2) (fun _ => False) z0 (cm_X11_freeBraid_1 vl K go x1 r0 z) := by
  unfold cm_X11_freeBraid_1
  exact (fo_if (fo_some hz) (fc_crI (fun v1 => (fo_if (fo_some hz) (hgo 1 _ _ z hz (fun _ => by omega))))))
theorem fq_X11_freeBraid {K : Nat} {vl : Nat → Nat} {z0 : ow_MS} {pr0 : Nat} : ∀ (k L : Nat) (x1 : Int32) (r0 : Nat) (z : ow_MS), fr (fun _ => False) z0 z → (L = 0 ∨ L = 1 → r0 = pr0) → Fo (fun r => r.2.2) (fun _ => False) z0 (c_X11_freeBraid vl K k L x1 r0 z)
  | 0 => by
    intros
    exact fo_none
  | k + 1 => by
    intro L x1 r0 z hz h9_r0
    show Fo (fun r => r.2.2) (fun _ => False) z0 (cb_X11_freeBraid vl K (c_X11_freeBraid vl K k) L x1 r0 z)
    unfold cb_X11_freeBraid
    split
    · exact fb_X11_freeBraid_0 (fq_X11_freeBraid k) hz (h9_r0 (by decide))
    · exact fb_X11_freeBraid_1 (fq_X11_freeBraid k) hz (h9_r0 (by decide))
    · exact fo_none
theorem ff_X11_freeBraid {vl : Nat → Nat} {K : Nat} {r0 : Nat} {z : ow_MS} : Fo (fun r => r.2.2) (fun _ => False) z (ce_X11_freeBraid vl K r0 z) := fq_X11_freeBraid (pr0 := r0) K 0 _ _ z fr_rf (fun _ => rfl)
theorem fb_X9_readBraid_0 {K : Nat} {vl : Nat → Nat} {z0 z : ow_MS} {pr0 : Nat} {pr2 : Nat} {go : Nat → Int32 → Int32 → Int32 → Int32 → Int32 → Nat → Nat → ow_MS → Option (Int32 × ow_MS)} {x1 : Int32} {x3 : Int32} {x4 : Int32} {x5 : Int32} {x6 : Int32} {r0 : Nat} {r2 : Nat} (hgo : ∀ (L : Nat) (x1 : Int32) (x3 : Int32) (x4 : Int32) (x5 : Int32) (x6 : Int32) (r0 : Nat) (r2 : Nat) (z : ow_MS), fr (fun g => g = pr2) z0 z → (L = 0 ∨ L = 1 ∨ L = 2 ∨ L = 3 → r0 = pr0) → (L = 0 ∨ L = 1 ∨ L = 2 ∨ L = 3 → r2 = pr2) → Fo Prod.snd (fun g => g = pr2) z0 (go L x1 x3 x4 x5 x6 r0 r2 z)) (hz : fr (fun g => g = pr2) z0 z) (e_r0 : r0 = pr0) (e_r2 : r2 = pr2) : Fo Prod.snd (fun g => g = pr2) z0 (cm_X9_readBraid_0 vl K go x1 x3 x4 x5 x6 r0 r2 z) := by
  unfold cm_X9_readBraid_0
  exact (hgo 1 _ _ _ _ _ _ _ z hz (fun _ => by omega) (fun _ => by omega))
theorem fb_X9_readBraid_1 {K : Nat} {vl : Nat → Nat} {z0 z : ow_MS} {pr0 : Nat} {pr2 : Nat} {go : Nat → Int32 → Int32 → Int32 → Int32 → Int32 → Nat → Nat → ow_MS → Option (Int32 × ow_MS)} {x1 : Int32} {x3 : Int32} {x4 : Int32} {x5 : Int32} {x6 : Int32} {r0 : Nat} {r2 : Nat} (hgo : ∀ (L : Nat) (x1 : Int32) (x3 : Int32) (x4 : Int32) (x5 : Int32) (x6 : Int32) (r0 : Nat) (r2 : Nat) (z : ow_MS), fr (fun g => g = pr2) z0 z → (L = 0 ∨ L = 1 ∨ L = 2 ∨ L = 3 → r0 = pr0) → (L = 0 ∨ L = 1 ∨ L = 2 ∨ L = 3 → r2 = pr2) → Fo Prod.snd (fun g => g = pr2) z0 (go L x1 x3 x4 x5 x6 r0 r2 z)) (hz : fr (fun g => g = pr2) z0 z) (e_r0 : r0 = pr0) (e_r2 : r2 = pr2) : Fo Prod.snd (fun g => g = pr2) z0 (cm_X9_readBraid_1 vl K go x1 x3 x4 x5 x6 r0 r2 z) := by
  unfold cm_X9_readBraid_1
  exact (fo_rdF (fun v1 => (fo_if (fo_some hz) (fc_crI (fun v2 => (fc_crI (fun v3 => (fo_if (fo_if (hgo 2 _ _ _ _ _ _ _ z hz (fun _ => by omega) (fun _ => by omega)) (fo_if (hgo 2 _ _ _ _ _ _ _ z hz (fun _ => by omega) (fun _ => by omega)) (fc_ctB (by omega) hz (fun z4 h_z4 => (hgo 3 _ _ _ _ _ _ _ z4 h_z4 (fun _ => by omega) (fun _ => by omega)))))) (fo_some hz)))))))))
theorem fb_X9_readBraid_2 {K : Nat} {vl : Nat → Nat} {z0 z : ow_MS} {pr0 : Nat} {pr2 : Nat} {go : Nat → Int32 → Int32 → Int32 → Int32 → Int32 → Nat → Nat → ow_MS → Option (Int32 × ow_MS)} {x1 : Int32} {x3 : Int32} {x4 : Int32} {x5 : Int32} {x6 : Int32} {r0 : Nat} {r2 : Nat} (hgo : ∀ (L : Nat) (x1 : Int32) (x3 : Int32) (x4 : Int32) (x5 : Int32) (x6 : Int32) (r0 : Nat) (r2 : Nat) (z : ow_MS), fr (fun g => g = pr2) z0 z → (L = 0 ∨ L = 1 ∨ L = 2 ∨ L = 3 → r0 = pr0) → (L = 0 ∨ L = 1 ∨ L = 2 ∨ L = 3 → r2 = pr2) → Fo Prod.snd (fun g => g = pr2) z0 (go L x1 x3 x4 x5 x6 r0 r2 z)) (hz : fr (fun g => g = pr2) z0 z) (e_r0 : r0 = pr0) (e_r2 : r2 = pr2) : Fo Prod.snd (fun g => g = pr2) z0 (cm_X9_readBraid_2 vl K go x1 x3 x4 x5 x6 r0 r2 z) := by
  unfold cm_X9_readBraid_2
  exact (fo_if (fo_some hz) (fo_if (fo_some hz) (fc_ctB (by omega) hz (fun z5 h_z5 => (hgo 3 _ _ _ _ _ _ _ z5 h_z5 (fun _ => by omega) (fun _ => by omega))))))
theorem fb_X9_readBraid_3 {K : Nat} {vl : Nat → Nat} {z0 z : ow_MS} {pr0 : Nat} {pr2 : Nat} {go : Nat → Int32 → Int32 → Int32 → Int32 → Int32 → Nat → Nat → ow_MS → Option (Int32 × ow_MS)} {x1 : Int32} {x3 : Int32} {x4 : Int32} {x5 : Int32} {x6 : Int32} {r0 : Nat} {r2 : Nat} (hgo : ∀ (L : Nat) (x1 : Int32) (x3 : Int32) (x4 : Int32) (x5 : Int32) (x6 : Int32) (r0 : Nat) (r2 : Nat) (z : ow_MS), fr (fun g => g = pr2) z0 z → (L = 0 ∨ L = 1 ∨ L = 2 ∨ L = 3 → r0 = pr0) → (L = 0 ∨ L = 1 ∨ L = 2 ∨ L = 3 → r2 = pr2) → Fo Prod.snd (fun g => g = pr2) z0 (go L x1 x3 x4 x5 x6 r0 r2 z)) (hz : fr (fun g => g = pr2) z0 z) (e_r0 : r0 = pr0) (e_r2 : r2 = pr2) : Fo Prod.snd (fun g => g = pr2) z0 (cm_X9_readBraid_3 vl K go x1 x3 x4 x5 x6 r0 r2 z) := by
  unfold cm_X9_readBraid_3
  exact (hgo 1 _ _ _ _ _ _ _ z hz (fun _ => by omega) (fun _ => by omega))
theorem fq_X9_readBraid {K : Nat} {vl : Nat → Nat} {z0 : ow_MS} {pr0 : Nat} {pr2 : Nat} : ∀ (k L : Nat) (x1 : Int32) (x3 : Int32) (x4 : Int32) (x5 : Int32) (x6 : Int32) (r0 : Nat) (r2 : Nat) (z : ow_MS), fr (fun g => g = pr2) z0 z → (L = 0 ∨ L = 1 ∨ L = 2 ∨ L = 3 → r0 = pr0) → (L = 0 ∨ L = 1 ∨ L = 2 ∨ L = 3 → r2 = pr2) → Fo Prod.snd (fun g => g = pr2) z0 (c_X9_readBraid vl K k L x1 x3 x4 x5 x6 r0 r2 z)
  | 0 => by
    intros
    exact fo_none
  | k + 1 => by
    intro L x1 x3 x4 x5 x6 r0 r2 z hz h9_r0 h9_r2
    show Fo Prod.snd (fun g => g = pr2) z0 (cb_X9_readBraid vl K (c_X9_readBraid vl K k) L x1 x3 x4 x5 x6 r0 r2 z)
    unfold cb_X9_readBraid
    split
    · exact fb_X9_readBraid_0 (fq_X9_readBraid k) hz (h9_r0 (by decide)) (h9_r2 (by decide))
    · exact fb_X9_readBraid_1 (fq_X9_readBraid k) hz (h9_r0 (by decide)) (h9_r2 (by decide))
    · exact fb_X9_readBraid_2 (fq_X9_readBraid k) hz (h9_r0 (by decide)) (h9_r2 (by decide))
    · exact fb_X9_readBraid_3 (fq_X9_readBraid k) hz (h9_r0 (by decide)) (h9_r2 (by decide))
    · exact fo_none
theorem ff_X9_readBraid {vl : Nat → Nat} {K : Nat} {r0 : Nat} {x1 : Int32} {r2 : Nat} {x3 : Int32} {z : ow_MS} : Fo Prod.snd (fun g => g = r2) z (ce_X9_readBraid vl K r0 x1 r2 x3 z) := fq_X9_readBraid (pr0 := r0) (pr2 := r2) K 0 _ _ _ _ _ _ _ z fr_rf (fun _ => rfl) (fun _ => rfl)
theorem ff_X11_braid {vl : Nat → Nat} {K : Nat} {r0 : Nat} {x1 : Int32} {z : ow_MS} : Fo (fun r => r.2.2) (fun g => r0 + 13 ≤ g ∧ g ≤ r0 + 15 ∨ g = r0 + 11001) z (ce_X11_braid vl K r0 x1 z) := by
  unfold ce_X11_braid cm_X11_braid_0
  exact (fo_if (fo_some fr_rf) (fo_if (fc_tc1 ff_X11_freeBraid (fun g hg => hg.elim) fr_rf (fun k z h_e => (fo_some h_e)) (fun v3 z1 h_z1 => (fo_rdF (fun v4 => (fo_cs1 ff_X9_readBraid (fun g hg => by omega) h_z1 (fun v6 z5 h_z5 => (fo_wrF (by omega) h_z5 (fun z7 h_z7 => (fo_if (fc_ctI (by omega) h_z7 (fun z8 h_z8 => (fc_ctI (by omega) h_z8 (fun z9 h_z9 => (fo_some h_z9))))) (fo_some h_z7)))))))))) (fo_some fr_rf)))
theorem ff_X11_hasDiagram {vl : Nat → Nat} {K : Nat} {r0 : Nat} {x1 : Int32} {z : ow_MS} : Fo Prod.snd (fun _ => False) z (ce_X11_hasDiagram vl K r0 x1 z) := by
  unfold ce_X11_hasDiagram cm_X11_hasDiagram_0
  exact (fo_if (fo_okZ (fo_some fr_rf)) (fo_if (fo_okZ (fo_some fr_rf)) (fc_crI (fun v1 => (fo_if (fo_okZ (fo_some fr_rf)) (fo_okZ (fo_some fr_rf)))))))
theorem ff_X11_drop {vl : Nat → Nat} {K : Nat} {r0 : Nat} {x1 : Int32} {z : ow_MS} : Fo Prod.snd (fun g => g = r0 + 1002) z (ce_X11_drop vl K r0 x1 z) := by
  unfold ce_X11_drop cm_X11_drop_0
  exact (fo_cs1 ff_X11_hasDiagram (fun g hg => hg.elim) fr_rf (fun v2 z1 h_z1 => (fo_if (fo_okZ (fo_some h_z1)) (fc_ctB (by omega) h_z1 (fun z3 h_z3 => (fo_okZ (fo_some h_z3)))))))
theorem ff_X11_hasBraid {vl : Nat → Nat} {K : Nat} {r0 : Nat} {x1 : Int32} {z : ow_MS} : Fo Prod.snd (fun _ => False) z (ce_X11_hasBraid vl K r0 x1 z) := by
  unfold ce_X11_hasBraid cm_X11_hasBraid_0
  exact (fo_if (fo_okZ (fo_some fr_rf)) (fo_if (fo_okZ (fo_some fr_rf)) (fc_crI (fun v1 => (fo_if (fo_okZ (fo_some fr_rf)) (fo_okZ (fo_some fr_rf)))))))
theorem ff_X11_dropBraid {vl : Nat → Nat} {K : Nat} {r0 : Nat} {x1 : Int32} {z : ow_MS} : Fo Prod.snd (fun g => g = r0 + 15) z (ce_X11_dropBraid vl K r0 x1 z) := by
  unfold ce_X11_dropBraid cm_X11_dropBraid_0
  exact (fo_cs1 ff_X11_hasBraid (fun g hg => hg.elim) fr_rf (fun v2 z1 h_z1 => (fo_if (fo_okZ (fo_some h_z1)) (fc_ctI (by omega) h_z1 (fun z3 h_z3 => (fo_okZ (fo_some h_z3)))))))
theorem ff_X11_needDiagram {vl : Nat → Nat} {K : Nat} {r0 : Nat} {x1 : Int32} {z : ow_MS} : Fo Prod.snd (fun _ => False) z (ce_X11_needDiagram vl K r0 x1 z) := by
  unfold ce_X11_needDiagram cm_X11_needDiagram_0
  exact (fo_cs1 ff_X11_hasDiagram (fun g hg => hg.elim) fr_rf (fun v2 z1 h_z1 => (fo_if (fo_some h_z1) (fo_some h_z1))))
end
section
/-! 99zzzzzzzzzzzzmb.foc1 -/
/-! frames of the class, on -/
theorem fb_X7_load_0 {K : Nat} {vl : Nat → Nat} {z0 z : ow_MS} {pr0 : Nat} {pr1 : Nat} {go : Nat → Int32 → Int32 → Int32 → Int32 → Int32 → Int32 → Int32 → Int32 → Int32 → Int32 → Int32 → Int32 → Nat → Nat → Int32 → Int32 → ow_MS → Option ow_MS} {x2 : Int32} {x3 : Int32} {x4 : Int32} {x5 : Int32} {x6 : Int32} {x7 : Int32} {x8 : Int32} {x9 : Int32} {x10 : Int32} {x11 : Int32} {x12 : Int32} {x13 : Int32} {r0 : Nat} {r1 : Nat} {t0 : Int32} {t1 : Int32} (hgo : ∀ (L : Nat) (x2 : Int32) (x3 : Int32) (x4 : Int32) (x5 : Int32) (x6 : Int32) (x7 : Int32) (x8 : Int32) (x9 : Int32) (x10 : Int32) (x11 : Int32) (x12 : Int32) (x13 : Int32) (r0 : Nat) (r1 : Nat) (t0 : Int32) (t1 : Int32) (z : ow_MS), fr (fun g => pr0 + 1 ≤ g ∧ g ≤ pr0 + 10) z0 z → (L = 0 ∨ L = 1 ∨ L = 2 ∨ L = 3 ∨ L = 4 ∨ L = 5 ∨ L = 6 ∨ L = 7 → r0 = pr0) → (L = 0 ∨ L = 1 ∨ L = 2 ∨ L = 3 ∨ L = 4 ∨ L = 5 ∨ L = 6 ∨ L = 7 → r1 = pr1) → Fo id (fun g => pr0 + 1 ≤ g ∧ g ≤ pr0 + 10) z0 (go L x2 x3 x4 x5 x6 x7 x8 x9 x10 x11 x12 x13 r0 r1 t0 t1 z)) (hz : fr (fun g => pr0 + 1 ≤ g ∧ g ≤ pr0 + 10) z0 z) (e_r0 : r0 = pr0) (e_r1 : r1 = pr1) : Fo id (fun g => pr0 + 1 ≤ g ∧ g ≤ pr0 + 10) z0 (cm_X7_load_0 vl K go x2 x3 x4 x5 x6 x7 x8 x9 x10 x11 x12 x13 r0 r1 t0 t1 z) := by
  unfold cm_X7_load_0
  exact (fc_crI (fun v1 => (fo_wrF (by omega) hz (fun z2 h_z2 => (fo_wrF (by omega) h_z2 (fun z3 h_z3 => (fo_wrF (by omega) h_z3 (fun z4 h_z4 => (hgo 1 _ _ _ _ _ _ _ _ _ _ _ _ _ _ _ _ z4 h_z4 (fun _ => by omega) (fun _ => by omega))))))))))
theorem fb_X7_load_1 {K : Nat} {vl : Nat → Nat} {z0 z : ow_MS} {pr0 : Nat} {pr1 : Nat} {go : Nat → Int32 → Int32 → Int32 → Int32 → Int32 → Int32 → Int32 → Int32 → Int32 → Int32 → Int32 → Int32 → Nat → Nat → Int32 → Int32 → ow_MS → Option ow_MS} {x2 : Int32} {x3 : Int32} {x4 : Int32} {x5 : Int32} {x6 : Int32} {x7 : Int32} {x8 : Int32} {x9 : Int32} {x10 : Int32} {x11 : Int32} {x12 : Int32} {x13 : Int32} {r0 : Nat} {r1 : Nat} {t0 : Int32} {t1 : Int32} (hgo : ∀ (L : Nat) (x2 : Int32) (x3 : Int32) (x4 : Int32) (x5 : Int32) (x6 : Int32) (x7 : Int32) (x8 : Int32) (x9 : Int32) (x10 : Int32) (x11 : Int32) (x12 : Int32) (x13 : Int32) (r0 : Nat) (r1 : Nat) (t0 : Int32) (t1 : Int32) (z : ow_MS), fr (fun g => pr0 + 1 ≤ g ∧ g ≤ pr0 + 10) z0 z → (L = 0 ∨ L = 1 ∨ L = 2 ∨ L = 3 ∨ L = 4 ∨ L = 5 ∨ L = 6 ∨ L = 7 → r0 = pr0) → (L = 0 ∨ L = 1 ∨ L = 2 ∨ L = 3 ∨ L = 4 ∨ L = 5 ∨ L = 6 ∨ L = 7 → r1 = pr1) → Fo id (fun g => pr0 + 1 ≤ g ∧ g ≤ pr0 + 10) z0 (go L x2 x3 x4 x5 x6 x7 x8 x9 x10 x11 x12 x13 r0 r1 t0 t1 z)) (hz : fr (fun g => pr0 + 1 ≤ g ∧ g ≤ pr0 + 10) z0 z) (e_r0 : r0 = pr0) (e_r1 : r1 = pr1) : Fo id (fun g => pr0 + 1 ≤ g ∧ g ≤ pr0 + 10) z0 (cm_X7_load_1 vl K go x2 x3 x4 x5 x6 x7 x8 x9 x10 x11 x12 x13 r0 r1 t0 t1 z) := by
  unfold cm_X7_load_1
  exact (fc_crI (fun v5 => (fo_if (fo_some hz) (fc_crI (fun v6 => (fo_if (fo_if (fo_rdF (fun v8 => (fo_wrF (by omega) hz (fun z9 h_z9 => (hgo 2 _ _ _ _ _ _ _ _ _ _ _ _ _ _ _ _ z9 h_z9 (fun _ => by omega) (fun _ => by omega)))))) (fo_cs0 ff_X7_link (fun g hg => by omega) hz (fun z7 h_z7 => (hgo 2 _ _ _ _ _ _ _ _ _ _ _ _ _ _ _ _ z7 h_z7 (fun _ => by omega) (fun _ => by omega))))) (fo_if (hgo 5 _ _ _ _ _ _ _ _ _ _ _ _ _ _ _ _ z hz (fun _ => by omega) (fun _ => by omega)) (fo_if (hgo 4 _ _ _ _ _ _ _ _ _ _ _ _ _ _ _ _ z hz (fun _ => by omega) (fun _ => by omega)) (hgo 4 _ _ _ _ _ _ _ _ _ _ _ _ _ _ _ _ z hz (fun _ => by omega) (fun _ => by omega))))))))))
theorem fb_X7_load_2 {K : Nat} {vl : Nat → Nat} {z0 z : ow_MS} {pr0 : Nat} {pr1 : Nat} {go : Nat → Int32 → Int32 → Int32 → Int32 → Int32 → Int32 → Int32 → Int32 → Int32 → Int32 → Int32 → Int32 → Nat → Nat → Int32 → Int32 → ow_MS → Option ow_MS} {x2 : Int32} {x3 : Int32} {x4 : Int32} {x5 : Int32} {x6 : Int32} {x7 : Int32} {x8 : Int32} {x9 : Int32} {x10 : Int32} {x11 : Int32} {x12 : Int32} {x13 : Int32} {r0 : Nat} {r1 : Nat} {t0 : Int32} {t1 : Int32} (hgo : ∀ (L : Nat) (x2 : Int32) (x3 : Int32) (x4 : Int32) (x5 : Int32) (x6 : Int32) (x7 : Int32) (x8 : Int32) (x9 : Int32) (x10 : Int32) (x11 : Int32) (x12 : Int32) (x13 : Int32) (r0 : Nat) (r1 : Nat) (t0 : Int32) (t1 : Int32) (z : ow_MS), fr (fun g => pr0 + 1 ≤ g ∧ g ≤ pr0 + 10) z0 z → (L = 0 ∨ L = 1 ∨ L = 2 ∨ L = 3 ∨ L = 4 ∨ L = 5 ∨ L = 6 ∨ L = 7 → r0 = pr0) → (L = 0 ∨ L = 1 ∨ L = 2 ∨ L = 3 ∨ L = 4 ∨ L = 5 ∨ L = 6 ∨ L = 7 → r1 = pr1) → Fo id (fun g => pr0 + 1 ≤ g ∧ g ≤ pr0 + 10) z0 (go L x2 x3 x4 x5 x6 x7 x8 x9 x10 x11 x12 x13 r0 r1 t0 t1 z)) (hz : fr (fun g => pr0 + 1 ≤ g ∧ g ≤ pr0 + 10) z0 z) (e_r0 : r0 = pr0) (e_r1 : r1 = pr1) : Fo id (fun g => pr0 + 1 ≤ g ∧ g ≤ pr0 + 10) z0 (cm_X7_load_2 vl K go x2 x3 x4 x5 x6 x7 x8 x9 x10 x11 x12 x13 r0 r1 t0 t1 z) := by
  unfold cm_X7_load_2
  exact (fo_rdF (fun v10 => (fo_wrF (by omega) hz (fun z11 h_z11 => (fo_if (hgo 3 _ _ _ _ _ _ _ _ _ _ _ _ _ _ _ _ z11 h_z11 (fun _ => by omega) (fun _ => by omega)) (hgo 3 _ _ _ _ _ _ _ _ _ _ _ _ _ _ _ _ z11 h_z11 (fun _ => by omega) (fun _ => by omega)))))))
theorem fb_X7_load_3 {K : Nat} {vl : Nat → Nat} {z0 z : ow_MS} {pr0 : Nat} {pr1 : Nat} {go : Nat → Int32 → Int32 → Int32 → Int32 → Int32 → Int32 → Int32 → Int32 → Int32 → Int32 → Int32 → Int32 → Nat → Nat → Int32 → Int32 → ow_MS → Option ow_MS} {x2 : Int32} {x3 : Int32} {x4 : Int32} {x5 : Int32} {x6 : Int32} {x7 : Int32} {x8 : Int32} {x9 : Int32} {x10 : Int32} {x11 : Int32} {x12 : Int32} {x13 : Int32} {r0 : Nat} {r1 : Nat} {t0 : Int32} {t1 : Int32} (hgo : ∀ (L : Nat) (x2 : Int32) (x3 : Int32) (x4 : Int32) (x5 : Int32) (x6 : Int32) (x7 : Int32) (x8 : Int32) (x9 : Int32) (x10 : Int32) (x11 : Int32) (x12 : Int32) (x13 : Int32) (r0 : Nat) (r1 : Nat) (t0 : Int32) (t1 : Int32) (z : ow_MS), fr (fun g => pr0 + 1 ≤ g ∧ g ≤ pr0 + 10) z0 z → (L = 0 ∨ L = 1 ∨ L = 2 ∨ L = 3 ∨ L = 4 ∨ L = 5 ∨ L = 6 ∨ L = 7 → r0 = pr0) → (L = 0 ∨ L = 1 ∨ L = 2 ∨ L = 3 ∨ L = 4 ∨ L = 5 ∨ L = 6 ∨ L = 7 → r1 = pr1) → Fo id (fun g => pr0 + 1 ≤ g ∧ g ≤ pr0 + 10) z0 (go L x2 x3 x4 x5 x6 x7 x8 x9 x10 x11 x12 x13 r0 r1 t0 t1 z)) (hz : fr (fun g => pr0 + 1 ≤ g ∧ g ≤ pr0 + 10) z0 z) (e_r0 : r0 = pr0) (e_r1 : r1 = pr1) : Fo id (fun g => pr0 + 1 ≤ g ∧ g ≤ pr0 + 10) z0 (cm_X7_load_3 vl K go x2 x3 x4 x5 x6 x7 x8 x9 x10 x11 x12 x13 r0 r1 t0 t1 z) := by
  unfold cm_X7_load_3
  exact (hgo 7 _ _ _ _ _ _ _ _ _ _ _ _ _ _ _ _ z hz (fun _ => by omega) (fun _ => by omega))
theorem fb_X7_load_4 {K : Nat} {vl : Nat → Nat} {z0 z : ow_MS} {pr0 : Nat} {pr1 : Nat} {go : Nat → Int32 → Int32 → Int32 → Int32 → Int32 → Int32 → Int32 → Int32 → Int32 → Int32 → Int32 → Int32 → Nat → Nat → Int32 → Int32 → ow_MS → Option ow_MS} {x2 : Int32} {x3 : Int32} {x4 : Int32} {x5 : Int32} {x6 : Int32} {x7 : Int32} {x8 : Int32} {x9 : Int32} {x10 : Int32} {x11 : Int32} {x12 : Int32} {x13 : Int32} {r0 : Nat} {r1 : Nat} {t0 : Int32} {t1 : Int32} (hgo : ∀ (L : Nat) (x2 : Int32) (x3 : Int32) (x4 : Int32) (x5 : Int32) (x6 : Int32) (x7 : Int32) (x8 : Int32) (x9 : Int32) (x10 : Int32) (x11 : Int32) (x12 : Int32) (x13 : Int32) (r0 : Nat) (r1 : Nat) (t0 : Int32) (t1 : Int32) (z : ow_MS), fr (fun g => pr0 + 1 ≤ g ∧ g ≤ pr0 + 10) z0 z → (L = 0 ∨ L = 1 ∨ L = 2 ∨ L = 3 ∨ L = 4 ∨ L = 5 ∨ L = 6 ∨ L = 7 → r0 = pr0) → (L = 0 ∨ L = 1 ∨ L = 2 ∨ L = 3 ∨ L = 4 ∨ L = 5 ∨ L = 6 ∨ L = 7 → r1 = pr1) → Fo id (fun g => pr0 + 1 ≤ g ∧ g ≤ pr0 + 10) z0 (go L x2 x3 x4 x5 x6 x7 x8 x9 x10 x11 x12 x13 r0 r1 t0 t1 z)) (hz : fr (fun g => pr0 + 1 ≤ g ∧ g ≤ pr0 + 10) z0 z) (e_r0 : r0 = pr0) (e_r1 : r1 = pr1) : Fo id (fun g => pr0 + 1 ≤ g ∧ g ≤ pr0 + 10) z0 (cm_X7_load_4 vl K go x2 x3 x4 x5 x6 x7 x8 x9 x10 x11 x12 x13 r0 r1 t0 t1 z) := by
  unfold cm_X7_load_4
  exact (fc_ctI (by omega) hz (fun z12 h_z12 => (hgo 5 _ _ _ _ _ _ _ _ _ _ _ _ _ _ _ _ z12 h_z12 (fun _ => by omega) (fun _ => by omega))))
theorem fb_X7_load_5 {K : Nat} {vl : Nat → Nat} {z0 z : ow_MS} {pr0 : Nat} {pr1 : Nat} {go : Nat → Int32 → Int32 → Int32 → Int32 → Int32 → Int32 → Int32 → Int32 → Int32 → Int32 → Int32 → Int32 → Nat → Nat → Int32 → Int32 → ow_MS → Option ow_MS} {x2 : Int32} {x3 : Int32} {x4 : Int32} {x5 : Int32} {x6 : Int32} {x7 : Int32} {x8 : Int32} {x9 : Int32} {x10 : Int32} {x11 : Int32} {x12 : Int32} {x13 : Int32} {r0 : Nat} {r1 : Nat} {t0 : Int32} {t1 : Int32} (hgo : ∀ (L : Nat) (x2 : Int32) (x3 : Int32) (x4 : Int32) (x5 : Int32) (x6 : Int32) (x7 : Int32) (x8 : Int32) (x9 : Int32) (x10 : Int32) (x11 : Int32) (x12 : Int32) (x13 : Int32) (r0 : Nat) (r1 : Nat) (t0 : Int32) (t1 : Int32) (z : ow_MS), fr (fun g => pr0 + 1 ≤ g ∧ g ≤ pr0 + 10) z0 z → (L = 0 ∨ L = 1 ∨ L = 2 ∨ L = 3 ∨ L = 4 ∨ L = 5 ∨ L = 6 ∨ L = 7 → r0 = pr0) → (L = 0 ∨ L = 1 ∨ L = 2 ∨ L = 3 ∨ L = 4 ∨ L = 5 ∨ L = 6 ∨ L = 7 → r1 = pr1) → Fo id (fun g => pr0 + 1 ≤ g ∧ g ≤ pr0 + 10) z0 (go L x2 x3 x4 x5 x6 x7 x8 x9 x10 x11 x12 x13 r0 r1 t0 t1 z)) (hz : fr (fun g => pr0 + 1 ≤ g ∧ g ≤ pr0 + 10) z0 z) (e_r0 : r0 = pr0) (e_r1 : r1 = pr1) : Fo id (fun g => pr0 + 1 ≤ g ∧ g ≤ pr0 + 10) z0 (cm_X7_load_5 vl K go x2 x3 x4 x5 x6 x7 x8 x9 x10 x11 x12 x13 r0 r1 t0 t1 z) := by
  unfold cm_X7_load_5
  exact (fc_ctI (by omega) hz (fun z13 h_z13 => (fo_rdF (fun v14 => (fc_ctI (by omega) h_z13 (fun z15 h_z15 => (fo_if (hgo 6 _ _ _ _ _ _ _ _ _ _ _ _ _ _ _ _ z15 h_z15 (fun _ => by omega) (fun _ => by omega)) (fo_cs0 ff_X7_link (fun g hg => by omega) h_z15 (fun z16 h_z16 => (hgo 6 _ _ _ _ _ _ _ _ _ _ _ _ _ _ _ _ z16 h_z16 (fun _ => by omega) (fun _ => by omega)))))))))))
theorem fb_X7_load_6 {K : Nat} {vl : Nat → Nat} {z0 z : ow_MS} {pr0 : Nat} {pr1 : Nat} {go : Nat → Int32 → Int32 → Int32 → Int32 → Int32 → Int32 → Int32 → Int32 → Int32 → Int32 → Int32 → Int32 → Nat → Nat → Int32 → Int32 → ow_MS → Option ow_MS} {x2 : Int32} {x3 : Int32} {x4 : Int32} {x5 : Int32} {x6 : Int32} {x7 : Int32} {x8 : Int32} {x9 : Int32} {x10 : Int32} {x11 : Int32} {x12 : Int32} {x13 : Int32} {r0 : Nat} {r1 : Nat} {t0 : Int32} {t1 : Int32} (hgo : ∀ (L : Nat) (x2 : Int32) (x3 : Int32) (x4 : Int32) (x5 : Int32) (x6 : Int32) (x7 : Int32) (x8 : Int32) (x9 : Int32) (x10 : Int32) (x11 : Int32) (x12 : Int32) (x13 : Int32) (r0 : Nat) (r1 : Nat) (t0 : Int32) (t1 : Int32) (z : ow_MS), fr (fun g => pr0 + 1 ≤ g ∧ g ≤ pr0 + 10) z0 z → (L = 0 ∨ L = 1 ∨ L = 2 ∨ L = 3 ∨ L = 4 ∨ L = 5 ∨ L = 6 ∨ L = 7 → r0 = pr0) → (L = 0 ∨ L = 1 ∨ L = 2 ∨ L = 3 ∨ L = 4 ∨ L = 5 ∨ L = 6 ∨ L = 7 → r1 = pr1) → Fo id (fun g => pr0 + 1 ≤ g ∧ g ≤ pr0 + 10) z0 (go L x2 x3 x4 x5 x6 x7 x8 x9 x10 x11 x12 x13 r0 r1 t0 t1 z)) (hz : fr (fun g => pr0 + 1 ≤ g ∧ g ≤ pr0 + 10) z0 z) (e_r0 : r0 = pr0) (e_r1 : r1 = pr1) : Fo id (fun g => pr0 + 1 ≤ g ∧ g ≤ pr0 + 10) z0 (cm_X7_load_6 vl K go x2 x3 x4 x5 x6 x7 x8 x9 x10 x11 x12 x13 r0 r1 t0 t1 z) := by
  unfold cm_X7_load_6
  exact (hgo 7 _ _ _ _ _ _ _ _ _ _ _ _ _ _ _ _ z hz (fun _ => by omega) (fun _ => by omega))
theorem fb_X7_load_7 {K : Nat} {vl : Nat → Nat} {z0 z : ow_MS} {pr0 : Nat} {pr1 : Nat} {go : Nat → Int32 → Int32 → Int32 → Int32 → Int32 → Int32 → Int32 → Int32 → Int32 → Int32 → Int32 → Int32 → Nat → Nat → Int32 → Int32 → ow_MS → Option ow_MS} {x2 : Int32} {x3 : Int32} {x4 : Int32} {x5 : Int32} {x6 : Int32} {x7 : Int32} {x8 : Int32} {x9 : Int32} {x10 : Int32} {x11 : Int32} {x12 : Int32} {x13 : Int32} {r0 : Nat} {r1 : Nat} {t0 : Int32} {t1 : Int32} (hgo : ∀ (L : Nat) (x2 : Int32) (x3 : Int32) (x4 : Int32) (x5 : Int32) (x6 : Int32) (x7 : Int32) (x8 : Int32) (x9 : Int32) (x10 : Int32) (x11 : Int32) (x12 : Int32) (x13 : Int32) (r0 : Nat) (r1 : Nat) (t0 : Int32) (t1 : Int32) (z : ow_MS), fr (fun g => pr0 + 1 ≤ g ∧ g ≤ pr0 + 10) z0 z → (L = 0 ∨ L = 1 ∨ L = 2 ∨ L = 3 ∨ L = 4 ∨ L = 5 ∨ L = 6 ∨ L = 7 → r0 = pr0) → (L = 0 ∨ L = 1 ∨ L = 2 ∨ L = 3 ∨ L = 4 ∨ L = 5 ∨ L = 6 ∨ L = 7 → r1 = pr1) → Fo id (fun g => pr0 + 1 ≤ g ∧ g ≤ pr0 + 10) z0 (go L x2 x3 x4 x5 x6 x7 x8 x9 x10 x11 x12 x13 r0 r1 t0 t1 z)) (hz : fr (fun g => pr0 + 1 ≤ g ∧ g ≤ pr0 + 10) z0 z) (e_r0 : r0 = pr0) (e_r1 : r1 = pr1) : Fo id (fun g => pr0 + 1 ≤ g ∧ g ≤ pr0 + 10) z0 (cm_X7_load_7 vl K go x2 x3 x4 x5 x6 x7 x8 x9 x10 x11 x12 x13 r0 r1 t0 t1 z) := by
  unfold cm_X7_load_7
  exact (hgo 1 _ _ _ _ _ _ _ _ _ _ _ _ _ _ _ _ z hz (fun _ => by omega) (fun _ => by omega))
theorem fq_X7_load {K : Nat} {vl : Nat → Nat} {z0 : ow_MS} {pr0 : Nat} {pr1 : Nat} : ∀ (k L : Nat) (x2 : Int32) (x3 : Int32) (x4 : Int32) (x5 : Int32) (x6 : Int32) (x7 : Int32) (x8 : Int32) (x9 : Int32) (x10 : Int32) (x11 : Int32) (x12 : Int32) (x13 : Int32) (r0 : Nat) (r1 : Nat) (t0 : Int32) (t1 : Int32) (z : ow_MS), fr (fun g => pr0 + 1 ≤ g ∧ g ≤ pr0 + 10) z0 z → (L = 0 ∨ L = 1 ∨ L = 2 ∨ L = 3 ∨ L = 4 ∨ L = 5 ∨ L = 6 ∨ L = 7 → r0 = pr0) → (L = 0 ∨ L = 1 ∨ L = 2 ∨ L = 3 ∨ L = 4 ∨ L = 5 ∨ L = 6 ∨ L = 7 → r1 = pr1) → Fo id (fun g => pr0 + 1 ≤ g ∧ g ≤ pr0 + 10) z0 (c_X7_load vl K k L x2 x3 x4 x5 x6 x7 x8 x9 x10 x11 x12 x13 r0 r1 t0 t1 z)
  | 0 => by
    intros
    exact fo_none
  | k + 1 => by
    intro L x2 x3 x4 x5 x6 x7 x8 x9 x10 x11 x12 x13 r0 r1 t0 t1 z hz h9_r0 h9_r1
    show Fo id (fun g => pr0 + 1 ≤ g ∧ g ≤ pr0 + 10) z0 (cb_X7_load vl K (c_X7_load vl K k) L x2 x3 x4 x5 x6 x7 x8 x9 x10 x11 x12 x13 r0 r1 t0 t1 z)
    unfold cb_X7_load
    split
    · exact fb_X7_load_0 (fq_X7_load k) hz (h9_r0 (by decide)) (h9_r1 (by decide))
    · exact fb_X7_load_1 (fq_X7_load k) hz (h9_r0 (by decide)) (h9_r1 (by decide))
    · exact fb_X7_load_2 (fq_X7_load k) hz (h9_r0 (by decide)) (h9_r1 (by decide))
    · exact fb_X7_load_3 (fq_X7_load k) hz (h9_r0 (by decide)) (h9_r1 (by decide))
    · exact fb_X7_load_4 (fq_X7_load k) hz (h9_r0 (by decide)) (h9_r1 (by decide))
    · exact fb_X7_load_5 (fq_X7_load k) hz (h9_r0 (by decide)) (h9_r1 (by decide))
    · exact fb_X7_load_6 (fq_X7_load k) hz (h9_r0 (by decide)) (h9_r1 (by decide))
    · exact fb_X7_load_7 (fq_X7_load k) hz (h9_r0 (by decide)) (h9_r1 (by decide))
    · exact fo_none
theorem ff_X7_load {vl : Nat → Nat} {K : Nat} {r0 : Nat} {r1 : Nat} {x2 : Int32} {z : ow_MS} : Fo id (fun g => r0 + 1 ≤ g ∧ g ≤ r0 + 10) z (ce_X7_load vl K r0 r1 x2 z) := fq_X7_load (pr0 := r0) (pr1 := r1) K 0 _ _ _ _ _ _ _ _ _ _ _ _ _ _ _ _ z fr_rf (fun _ => rfl) (fun _ => rfl)
theorem fb_X7_alternates_0 {K : Nat} {vl : Nat → Nat} {z0 z : ow_MS} {pr0 : Nat} {go : Nat → Int32 → Nat → ow_MS → Option (Int32 × ow_MS)} {x1 : Int32} {r0 : Nat} (hgo : ∀ (L : Nat) (x1 : Int32) (r0 : Nat) (z : ow_MS), fr (fun _ => False) z0 z → (L = 0 ∨ L = 1 → r0 = pr0) → Fo Prod.snd (fun _ => False) z0 (go L x1 r0 z)) (hz : fr (fun _ => False) z0 z) (e_r0 : r0 = pr0) : Fo Prod.snd (fun _ => False) z0 (cm_X7_alternates_0 vl K go x1 r0 z) := by
  unfold cm_X7_alternates_0
  exact (hgo 1 _ _ z hz (fun _ => by omega))
theorem fb_X7_alternates_1 {K : Nat} {vl : Nat → Nat} {z0 z : ow_MS} {pr0 : Nat} {go : Nat → Int32 → Nat → ow_MS → Option (Int32 × ow_MS)} {x1 : Int32} {r0 : Nat} (hgo : ∀ (L : Nat) (x1 : Int32) (r0 : Nat) (z : ow_MS), fr (fun _ => False) z0 z → (L = 0 ∨ L = 1 → r0 = pr0) → Fo Prod.snd (fun _ => False) z0 (go L x1 r0 z)) (hz : fr (fun _ => False) z0 z) (e_r0 : r0 = pr0) : Fo Prod.snd (fun _ => False) z0 (cm_X7_alternates_1 vl K go x1 r0 z) := by
  unfold cm_X7_alternates_1
  exact (fo_rdF (fun v1 => (fo_if (fo_okZ (fo_some hz)) (fc_crI (fun v2 => (fo_if (fo_okZ (fo_some hz)) (hgo 1 _ _ z hz (fun _ => by omega))))))))
theorem fq_X7_alternates {K : Nat} {vl : Nat → Nat} {z0 : ow_MS} {pr0 : Nat} : ∀ (k L : Nat) (x1 : Int32) (r0 : Nat) (z : ow_MS), fr (fun _ => False) z0 z → (L = 0 ∨ L = 1 → r0 = pr0) → Fo Prod.snd (fun _ => False) z0 (c_X7_alternates vl K k L x1 r0 z)
  | 0 => by
    intros
    exact fo_none
  | k + 1 => by
    intro L x1 r0 z hz h9_r0
    show Fo Prod.snd (fun _ => False) z0 (cb_X7_alternates vl K (c_X7_alternates vl K k) L x1 r0 z)
    unfold cb_X7_alternates
    split
    · exact fb_X7_alternates_0 (fq_X7_alternates k) hz (h9_r0 (by decide))
    · exact fb_X7_alternates_1 (fq_X7_alternates k) hz (h9_r0 (by decide))
    · exact fo_none
theorem ff_X7_alternates {vl : Nat → Nat} {K : Nat} {r0 : Nat} {z : ow_MS} : Fo Prod.snd (fun _ => False) z (ce_X7_alternates vl K r0 z) := fq_X7_alternates (pr0 := r0) K 0 _ _ z fr_rf (fun _ => rfl)
theorem fb_X7_writhe_0 {K : Nat} {vl : Nat → Nat} {z0 z : ow_MS} {pr0 : Nat} {go : Nat → Int32 → Int32 → Nat → ow_MS → Option (Int32 × ow_MS)} {x1 : Int32} {x2 : Int32} {r0 : Nat} (hgo : ∀ (L : Nat) (x1 : Int32) (x2 : Int32) (r0 : Nat) (z : ow_MS), fr (fun _ => False) z0 z → (L = 0 ∨ L = 1 → r0 = pr0) → Fo Prod.snd (fun _ => False) z0 (go L x1 x2 r0 z)) (hz : fr (fun _ => False) z0 z) (e_r0 : r0 = pr0) : Fo Prod.snd (fun _ => False) z0 (cm_X7_writhe_0 vl K go x1 x2 r0 z) := by
  unfold cm_X7_writhe_0
  exact (hgo 1 _ _ _ z hz (fun _ => by omega))
theorem fb_X7_writhe_1 {K : Nat} {vl : Nat → Nat} {z0 z : ow_MS} {pr0 : Nat} {go : Nat → Int32 → Int32 → Nat → ow_MS → Option (Int32 × ow_MS)} {x1 : Int32} {x2 : Int32} {r0 : Nat} (hgo : ∀ (L : Nat) (x1 : Int32) (x2 : Int32) (r0 : Nat) (z : ow_MS), fr (fun _ => False) z0 z → (L = 0 ∨ L = 1 → r0 = pr0) → Fo Prod.snd (fun _ => False) z0 (go L x1 x2 r0 z)) (hz : fr (fun _ => False) z0 z) (e_r0 : r0 = pr0) : Fo Prod.snd (fun _ => False) z0 (cm_X7_writhe_1 vl K go x1 x2 r0 z) := by
  unfold cm_X7_writhe_1
  exact (fo_rdF (fun v1 => (fo_if (fo_some hz) (fc_crI (fun v2 => (hgo 1 _ _ _ z hz (fun _ => by omega)))))))
theorem fq_X7_writhe {K : Nat} {vl : Nat → Nat} {z0 : ow_MS} {pr0 : Nat} : ∀ (k L : Nat) (x1 : Int32) (x2 : Int32) (r0 : Nat) (z : ow_MS), fr (fun _ => False) z0 z → (L = 0 ∨ L = 1 → r0 = pr0) → Fo Prod.snd (fun _ => False) z0 (c_X7_writhe vl K k L x1 x2 r0 z)
  | 0 => by
    intros
    exact fo_none
  | k + 1 => by
    intro L x1 x2 r0 z hz h9_r0
    show Fo Prod.snd (fun _ => False) z0 (cb_X7_writhe vl K (c_X7_writhe vl K k) L x1 x2 r0 z)
    unfold cb_X7_writhe
    split
    · exact fb_X7_writhe_0 (fq_X7_writhe k) hz (h9_r0 (by decide))
    · exact fb_X7_writhe_1 (fq_X7_writhe k) hz (h9_r0 (by decide))
    · exact fo_none
theorem ff_X7_writhe {vl : Nat → Nat} {K : Nat} {r0 : Nat} {z : ow_MS} : Fo Prod.snd (fun _ => False) z (ce_X7_writhe vl K r0 z) := fq_X7_writhe (pr0 := r0) K 0 _ _ _ z fr_rf (fun _ => rfl)
theorem ff_X11_figure {vl : Nat → Nat} {K : Nat} {r0 : Nat} {x1 : Int32} {x2 : Int32} {z : ow_MS} : Fo (fun r => r.2.2) (fun g => r0 + 4001 ≤ g ∧ g ≤ r0 + 4011) z (ce_X11_figure vl K r0 x1 x2 z) := by
  unfold ce_X11_figure cm_X11_figure_0
  exact (fc_tc0 ff_X11_needDiagram (fun g hg => hg.elim) fr_rf (fun k z h_e => (fo_some h_e)) (fun z1 h_z1 => (fo_if (fo_some h_z1) (fo_if (fo_cs0 ff_X7_load (fun g hg => by omega) h_z1 (fun z3 h_z3 => (fo_if (fo_cs1 ff_X7_alternates (fun g hg => hg.elim) h_z3 (fun v5 z4 h_z4 => (fo_if (fo_some h_z4) (fo_some h_z4)))) (fo_if (fo_rdF (fun v6 => (fo_some h_z3))) (fo_if (fo_rdF (fun v7 => (fo_some h_z3))) (fo_if (fo_rdF (fun v8 => (fo_some h_z3))) (fo_if (fo_cs0 ff_X7_markParts (fun g hg => by omega) h_z3 (fun z9 h_z9 => (fo_rdF (fun v10 => (fo_rdF (fun v11 => (fo_some h_z9))))))) (fo_if (fo_cs1 ff_X7_writhe (fun g hg => hg.elim) h_z3 (fun v13 z12 h_z12 => (fo_some h_z12))) fo_none)))))))) (fo_some h_z1)))))
theorem ff_X11_visit {vl : Nat → Nat} {K : Nat} {r0 : Nat} {x1 : Int32} {x2 : Int32} {x3 : Int32} {z : ow_MS} : Fo (fun r => r.2.2) (fun g => r0 + 4001 ≤ g ∧ g ≤ r0 + 4010) z (ce_X11_visit vl K r0 x1 x2 x3 z) := by
  unfold ce_X11_visit cm_X11_visit_0
  exact (fc_tc0 ff_X11_needDiagram (fun g hg => hg.elim) fr_rf (fun k z h_e => (fo_some h_e)) (fun z1 h_z1 => (fo_if (fo_some h_z1) (fc_crI (fun v3 => (fo_if (fo_if (fo_some h_z1) (fo_if (fo_cs0 ff_X7_load (fun g hg => by omega) h_z1 (fun z4 h_z4 => (fc_crI (fun v5 => (fo_if (fc_crI (fun v6 => (fo_some h_z4))) (fo_if (fc_crI (fun v7 => (fo_some h_z4))) (fo_if (fo_some h_z4) (fo_if (fo_some h_z4) fo_none)))))))) (fo_some h_z1))) (fo_some h_z1)))))))
theorem ff_X11_needComponent {vl : Nat → Nat} {K : Nat} {r0 : Nat} {x1 : Int32} {z : ow_MS} : Fo Prod.snd (fun _ => False) z (ce_X11_needComponent vl K r0 x1 z) := by
  unfold ce_X11_needComponent cm_X11_needComponent_0
  exact (fo_if (fo_some fr_rf) (fo_rdF (fun v1 => (fo_if (fo_some fr_rf) (fo_some fr_rf)))))
theorem fb_X11_linking_0 {K : Nat} {vl : Nat → Nat} {z0 z : ow_MS} {pr0 : Nat} {go : Nat → Int32 → Int32 → Int32 → Int32 → Int32 → Int32 → Int32 → Nat → ow_MS → Option (Nat × Int32 × ow_MS)} {x1 : Int32} {x2 : Int32} {x3 : Int32} {x4 : Int32} {x5 : Int32} {x6 : Int32} {x7 : Int32} {r0 : Nat} (hgo : ∀ (L : Nat) (x1 : Int32) (x2 : Int32) (x3 : Int32) (x4 : Int32) (x5 : Int32) (x6 : Int32) (x7 : Int32) (r0 : Nat) (z : ow_MS), fr (fun g => pr0 + 4001 ≤ g ∧ g ≤ pr0 + 4010) z0 z → (L = 0 ∨ L = 1 ∨ L = 2 ∨ L = 3 ∨ L = 4 → r0 = pr0) → Fo (fun r => r.2.2) (fun g => pr0 + 4001 ≤ g ∧ g ≤ pr0 + 4010) z0 (go L x1 x2 x3 x4 x5 x6 x7 r0 z)) (hz : fr (fun g => pr0 + 4001 ≤ g ∧ g ≤ pr0 + 4010) z0 z) (e_r0 : r0 = pr0) : Fo (fun r => r.2.2) (fun g => pr0 + 4001 ≤ g ∧ g ≤ pr0 + 4010) z0 (cm_X11_linking_0 vl K go x1 x2 x3 x4 x5 x6 x7 r0 z) := by
  unfold cm_X11_linking_0
  exact (fc_tc0 ff_X11_needDiagram (fun g hg => hg.elim) hz (fun k z h_e => (fo_some h_e)) (fun z1 h_z1 => (fo_cs0 ff_X7_load (fun g hg => by omega) h_z1 (fun z3 h_z3 => (fc_tc0 ff_X11_needComponent (fun g hg => hg.elim) h_z3 (fun k z h_e => (fo_some h_e)) (fun z4 h_z4 => (fc_tc0 ff_X11_needComponent (fun g hg => hg.elim) h_z4 (fun k z h_e => (fo_some h_e)) (fun z6 h_z6 => (fo_if (fo_some h_z6) (hgo 1 _ _ _ _ _ _ _ _ z6 h_z6 (fun _ => by omega)))))))))))
theorem fb_X11_linking_1 {K : Nat} {vl : Nat → Nat} {z0 z : ow_MS} {pr0 : Nat} {go : Nat → Int32 → Int32 → Int32 → Int32 → Int32 → Int32 → Int32 → Nat → ow_MS → Option (Nat × Int32 × ow_MS)} {x1 : Int32} {x2 : Int32} {x3 : Int32} {x4 : Int32} {x5 : Int32} {x6 : Int32} {x7 : Int32} {r0 : Nat} (hgo : ∀ (L : Nat) (x1 : Int32) (x2 : Int32) (x3 : Int32) (x4 : Int32) (x5 : Int32) (x6 : Int32) (x7 : Int32) (r0 : Nat) (z : ow_MS), fr (fun g => pr0 + 4001 ≤ g ∧ g ≤ pr0 + 4010) z0 z → (L = 0 ∨ L = 1 ∨ L = 2 ∨ L = 3 ∨ L = 4 → r0 = pr0) → Fo (fun r => r.2.2) (fun g => pr0 + 4001 ≤ g ∧ g ≤ pr0 + 4010) z0 (go L x1 x2 x3 x4 x5 x6 x7 r0 z)) (hz : fr (fun g => pr0 + 4001 ≤ g ∧ g ≤ pr0 + 4010) z0 z) (e_r0 : r0 = pr0) : Fo (fun r => r.2.2) (fun g => pr0 + 4001 ≤ g ∧ g ≤ pr0 + 4010) z0 (cm_X11_linking_1 vl K go x1 x2 x3 x4 x5 x6 x7 r0 z) := by
  unfold cm_X11_linking_1
  exact (fo_rdF (fun v8 => (fo_if (fo_nzI (fo_some hz)) (fc_crI (fun v9 => (fc_crI (fun v10 => (fo_if (fo_if (hgo 3 _ _ _ _ _ _ _ _ z hz (fun _ => by omega)) (hgo 2 _ _ _ _ _ _ _ _ z hz (fun _ => by omega))) (hgo 2 _ _ _ _ _ _ _ _ z hz (fun _ => by omega))))))))))
theorem fb_X11_linking_2 {K : Nat} {vl : Nat → Nat} {z0 z : ow_MS} {pr0 : Nat} {go : Nat → Int32 → Int32 → Int32 → Int32 → Int32 → Int32 → Int32 → Nat → ow_MS → Option (Nat × Int32 × ow_MS)} {x1 : Int32} {x2 : Int32} {x3 : Int32} {x4 : Int32} {x5 : Int32} {x6 : Int32} {x7 : Int32} {r0 : Nat} (hgo : ∀ (L : Nat) (x1 : Int32) (x2 : Int32) (x3 : Int32) (x4 : Int32) (x5 : Int32) (x6 : Int32) (x7 : Int32) (r0 : Nat) (z : ow_MS), fr (fun g => pr0 + 4001 ≤ g ∧ g ≤ pr0 + 4010) z0 z → (L = 0 ∨ L = 1 ∨ L = 2 ∨ L = 3 ∨ L = 4 → r0 = pr0) → Fo (fun r => r.2.2) (fun g => pr0 + 4001 ≤ g ∧ g ≤ pr0 + 4010) z0 (go L x1 x2 x3 x4 x5 x6 x7 r0 z)) (hz : fr (fun g => pr0 + 4001 ≤ g ∧ g ≤ pr0 + 4010) z0 z) (e_r0 : r0 = pr0) : Fo (fun r => r.2.2) (fun g => pr0 + 4001 ≤ g ∧ g ≤ pr0 + 4010) z0 (cm_X11_linking_2 vl K go x1 x2 x3 x4 x5 x6 x7 r0 z) := by
  unfold cm_X11_linking_2
  exact (fo_if (fo_if (hgo 3 _ _ _ _ _ _ _ _ z hz (fun _ => by omega)) (hgo 4 _ _ _ _ _ _ _ _ z hz (fun _ => by omega))) (hgo 4 _ _ _ _ _ _ _ _ z hz (fun _ => by omega)))
theorem fb_X11_linking_3 {K : Nat} {vl : Nat → Nat} {z0 z : ow_MS} {pr0 : Nat} {go : Nat → Int32 → Int32 → Int32 → Int32 → Int32 → Int32 → Int32 → Nat → ow_MS → Option (Nat × Int32 × ow_MS)} {x1 : Int32} {x2 : Int32} {x3 : Int32} {x4 : Int32} {x5 : Int32} {x6 : Int32} {x7 : Int32} {r0 : Nat} (hgo : ∀ (L : Nat) (x1 : Int32) (x2 : Int32) (x3 : Int32) (x4 : Int32) (x5 : Int32) (x6 : Int32) (x7 : Int32) (r0 : Nat) (z : ow_MS), fr (fun g => pr0 + 4001 ≤ g ∧ g ≤ pr0 + 4010) z0 z → (L = 0 ∨ L = 1 ∨ L = 2 ∨ L = 3 ∨ L = 4 → r0 = pr0) → Fo (fun r => r.2.2) (fun g => pr0 + 4001 ≤ g ∧ g ≤ pr0 + 4010) z0 (go L x1 x2 x3 x4 x5 x6 x7 r0 z)) (hz : fr (fun g => pr0 + 4001 ≤ g ∧ g ≤ pr0 + 4010) z0 z) (e_r0 : r0 = pr0) : Fo (fun r => r.2.2) (fun g => pr0 + 4001 ≤ g ∧ g ≤ pr0 + 4010) z0 (cm_X11_linking_3 vl K go x1 x2 x3 x4 x5 x6 x7 r0 z) := by
  unfold cm_X11_linking_3
  exact (fc_crI (fun v11 => (hgo 4 _ _ _ _ _ _ _ _ z hz (fun _ => by omega))))
theorem fb_X11_linking_4 {K : Nat} {vl : Nat → Nat} {z0 z : ow_MS} {pr0 : Nat} {go : Nat → Int32 → Int32 → Int32 → Int32 → Int32 → Int32 → Int32 → Nat → ow_MS → Option (Nat × Int32 × ow_MS)} {x1 : Int32} {x2 : Int32} {x3 : Int32} {x4 : Int32} {x5 : Int32} {x6 : Int32} {x7 : Int32} {r0 : Nat} (hgo : ∀ (L : Nat) (x1 : Int32) (x2 : Int32) (x3 : Int32) (x4 : Int32) (x5 : Int32) (x6 : Int32) (x7 : Int32) (r0 : Nat) (z : ow_MS), fr (fun g => pr0 + 4001 ≤ g ∧ g ≤ pr0 + 4010) z0 z → (L = 0 ∨ L = 1 ∨ L = 2 ∨ L = 3 ∨ L = 4 → r0 = pr0) → Fo (fun r => r.2.2) (fun g => pr0 + 4001 ≤ g ∧ g ≤ pr0 + 4010) z0 (go L x1 x2 x3 x4 x5 x6 x7 r0 z)) (hz : fr (fun g => pr0 + 4001 ≤ g ∧ g ≤ pr0 + 4010) z0 z) (e_r0 : r0 = pr0) : Fo (fun r => r.2.2) (fun g => pr0 + 4001 ≤ g ∧ g ≤ pr0 + 4010) z0 (cm_X11_linking_4 vl K go x1 x2 x3 x4 x5 x6 x7 r0 z) := by
  unfold cm_X11_linking_4
  exact (hgo 1 _ _ _ _ _ _ _ _ z hz (fun _ => by omega))
theorem fq_X11_linking {K : Nat} {vl : Nat → Nat} {z0 : ow_MS} {pr0 : Nat} : ∀ (k L : Nat) (x1 : Int32) (x2 : Int32) (x3 : Int32) (x4 : Int32) (x5 : Int32) (x6 : Int32) (x7 : Int32) (r0 : Nat) (z : ow_MS), fr (fun g => pr0 + 4001 ≤ g ∧ g ≤ pr0 + 4010) z0 z → (L = 0 ∨ L = 1 ∨ L = 2 ∨ L = 3 ∨ L = 4 → r0 = pr0) → Fo (fun r => r.2.2) (fun g => pr0 + 4001 ≤ g ∧ g ≤ pr0 + 4010) z0 (c_X11_linking vl K k L x1 x2 x3 x4 x5 x6 x7 r0 z)
  | 0 => by
    intros
    exact fo_none
  | k + 1 => by
    intro L x1 x2 x3 x4 x5 x6 x7 r0 z hz h9_r0
    show Fo (fun r => r.2.2) (fun g => pr0 + 4001 ≤ g ∧ g ≤ pr0 + 4010) z0 (cb_X11_linking vl K (c_X11_linking vl K k) L x1 x2 x3 x4 x5 x6 x7 r0 z)
    unfold cb_X11_linking
    split
    · exact fb_X11_linking_0 (fq_X11_linking k) hz (h9_r0 (by decide))
    · exact fb_X11_linking_1 (fq_X11_linking k) hz (h9_r0 (by decide))
    · exact fb_X11_linking_2 (fq_X11_linking k) hz (h9_r0 (by decide))
    · exact fb_X11_linking_3 (fq_X11_linking k) hz (h9_r0 (by decide))
    · exact fb_X11_linking_4 (fq_X11_linking k) hz (h9_r0 (by decide))
    · exact fo_none
theorem ff_X11_linking {vl : Nat → Nat} {K : Nat} {r0 : Nat} {x1 : Int32} {x2 : Int32} {x3 : Int32} {z : ow_MS} : Fo (fun r => r.2.2) (fun g => r0 + 4001 ≤ g ∧ g ≤ r0 + 4010) z (ce_X11_linking vl K r0 x1 x2 x3 z) := fq_X11_linking (pr0 := r0) K 0 _ _ _ _ _ _ _ _ z fr_rf (fun _ => rfl)
theorem ff_X11_alike {vl : Nat → Nat} {K : Nat} {r0 : Nat} {x1 : Int32} {x2 : Int32} {z : ow_MS} : Fo Prod.snd (fun _ => False) z (ce_X11_alike vl K r0 x1 x2 z) := by
  unfold ce_X11_alike cm_X11_alike_0
  exact (fo_cs1 ff_X11_hasDiagram (fun g hg => hg.elim) fr_rf (fun v2 z1 h_z1 => (fo_if (fo_okZ (fo_some h_z1)) (fo_cs1 ff_X11_hasDiagram (fun g hg => hg.elim) h_z1 (fun v4 z3 h_z3 => (fo_if (fo_okZ (fo_some h_z3)) (fo_cs1 ff_X3_compare (fun g hg => hg.elim) h_z3 (fun v6 z5 h_z5 => (fo_if (fo_okZ (fo_some h_z5)) (fo_okZ (fo_some h_z5)))))))))))
theorem ff_X7_swapped {vl : Nat → Nat} {K : Nat} {x0 : Int32} {x1 : Int32} {x2 : Int32} {z : ow_MS} : Fo Prod.snd (fun _ => False) z (ce_X7_swapped vl K x0 x1 x2 z) := by
  unfold ce_X7_swapped cm_X7_swapped_0
  exact (fo_if (fo_some fr_rf) (fo_if (fo_some fr_rf) (fo_some fr_rf)))
theorem ff_X7_swapPlaces {vl : Nat → Nat} {K : Nat} {r0 : Nat} {x1 : Int32} {x2 : Int32} {z : ow_MS} : Fo id (fun g => r0 + 1 ≤ g ∧ g ≤ r0 + 2) z (ce_X7_swapPlaces vl K r0 x1 x2 z) := by
  unfold ce_X7_swapPlaces cm_X7_swapPlaces_0
  exact (fc_crI (fun v1 => (fo_cs1 ff_X7_swapped (fun g hg => hg.elim) fr_rf (fun v3 z2 h_z2 => (fc_crI (fun v4 => (fo_cs1 ff_X7_swapped (fun g hg => hg.elim) h_z2 (fun v6 z5 h_z5 => (fc_crI (fun v7 => (fo_cs1 ff_X7_swapped (fun g hg => hg.elim) h_z5 (fun v9 z8 h_z8 => (fc_crI (fun v10 => (fo_cs1 ff_X7_swapped (fun g hg => hg.elim) h_z8 (fun v12 z11 h_z11 => (fo_cs0 ff_X7_link (fun g hg => by omega) h_z11 (fun z13 h_z13 => (fo_cs0 ff_X7_link (fun g hg => by omega) h_z13 (fun z14 h_z14 => (fo_cs0 ff_X7_link (fun g hg => by omega) h_z14 (fun z15 h_z15 => (fo_cs0 ff_X7_link (fun g hg => by omega) h_z15 (fun z16 h_z16 => (fo_some h_z16)))))))))))))))))))))))))
theorem ff_X7_flipCrossing {vl : Nat → Nat} {K : Nat} {r0 : Nat} {x1 : Int32} {z : ow_MS} : Fo id (fun g => r0 + 1 ≤ g ∧ g ≤ r0 + 3) z (ce_X7_flipCrossing vl K r0 x1 z) := by
  unfold ce_X7_flipCrossing cm_X7_flipCrossing_0
  exact (fo_cs0 ff_X7_swapPlaces (fun g hg => by omega) fr_rf (fun z1 h_z1 => (fc_crI (fun v2 => (fc_ctI (by omega) h_z1 (fun z3 h_z3 => (fo_some h_z3)))))))
theorem fb_X11_mirror_0 {K : Nat} {vl : Nat → Nat} {z0 z : ow_MS} {pr0 : Nat} {go : Nat → Int32 → Int32 → Int32 → Nat → ow_MS → Option (Nat × Int32 × ow_MS)} {x1 : Int32} {x2 : Int32} {x3 : Int32} {r0 : Nat} (hgo : ∀ (L : Nat) (x1 : Int32) (x2 : Int32) (x3 : Int32) (r0 : Nat) (z : ow_MS), fr (fun g => pr0 + 1001 ≤ g ∧ g ≤ pr0 + 1003 ∨ pr0 + 4001 ≤ g ∧ g ≤ pr0 + 4011 ∨ pr0 + 7004 ≤ g ∧ g ≤ pr0 + 7006 ∨ pr0 + 8001 ≤ g ∧ g ≤ pr0 + 8003 ∨ pr0 + 9001 ≤ g ∧ g ≤ pr0 + 9003 ∨ pr0 + 10001 ≤ g ∧ g ≤ pr0 + 10005) z0 z → (L = 0 ∨ L = 1 → r0 = pr0) → Fo (fun r => r.2.2) (fun g => pr0 + 1001 ≤ g ∧ g ≤ pr0 + 1003 ∨ pr0 + 4001 ≤ g ∧ g ≤ pr0 + 4011 ∨ pr0 + 7004 ≤ g ∧ g ≤ pr0 + 7006 ∨ pr0 + 8001 ≤ g ∧ g ≤ pr0 + 8003 ∨ pr0 + 9001 ≤ g ∧ g ≤ pr0 + 9003 ∨ pr0 + 10001 ≤ g ∧ g ≤ pr0 + 10005) z0 (go L x1 x2 x3 r0 z)) (hz : fr (fun g => pr0 + 1001 ≤ g ∧ g ≤ pr0 + 1003 ∨ pr0 + 4001 ≤ g ∧ g ≤ pr0 + 4011 ∨ pr0 + 7004 ≤ g ∧ g ≤ pr0 + 7006 ∨ pr0 + 8001 ≤ g ∧ g ≤ pr0 + 8003 ∨ pr0 + 9001 ≤ g ∧ g ≤ pr0 + 9003 ∨ pr0 + 10001 ≤ g ∧ g ≤ pr0 + 10005) z0 z) (e_r0 : r0 = pr0) : Fo (fun r => r.2.2) (fun g => pr0 + 1001 ≤ g ∧ g ≤ pr0 + 1003 ∨ pr0 + 4001 ≤ g ∧ g ≤ pr0 + 4011 ∨ pr0 + 7004 ≤ g ∧ g ≤ pr0 + 7006 ∨ pr0 + 8001 ≤ g ∧ g ≤ pr0 + 8003 ∨ pr0 + 9001 ≤ g ∧ g ≤ pr0 + 9003 ∨ pr0 + 10001 ≤ g ∧ g ≤ pr0 + 10005) z0 (cm_X11_mirror_0 vl K go x1 x2 x3 r0 z) := by
  unfold cm_X11_mirror_0
  exact (fc_tc0 ff_X11_needDiagram (fun g hg => hg.elim) hz (fun k z h_e => (fo_some h_e)) (fun z1 h_z1 => (fc_tc1 ff_X11_freeDiagram (fun g hg => hg.elim) h_z1 (fun k z h_e => (fo_some h_e)) (fun v5 z3 h_z3 => (fo_cs0 ff_X7_load (fun g hg => by omega) h_z3 (fun z6 h_z6 => (hgo 1 _ _ _ _ z6 h_z6 (fun _ => by omega))))))))
theorem fb_X11_mirror_1 {K : Nat} {vl : Nat → Nat} {z0 z : ow_MS} {pr0 : Nat} {go : Nat → Int32 → Int32 → Int32 → Nat → ow_MS → Option (Nat × Int32 × ow_MS)} {x1 : Int32} {x2 : Int32} {x3 : Int32} {r0 : Nat} (hgo : ∀ (L : Nat) (x1 : Int32) (x2 : Int32) (x3 : Int32) (r0 : Nat) (z : ow_MS), fr (fun g => pr0 + 1001 ≤ g ∧ g ≤ pr0 + 1003 ∨ pr0 + 4001 ≤ g ∧ g ≤ pr0 + 4011 ∨ pr0 + 7004 ≤ g ∧ g ≤ pr0 + 7006 ∨ pr0 + 8001 ≤ g ∧ g ≤ pr0 + 8003 ∨ pr0 + 9001 ≤ g ∧ g ≤ pr0 + 9003 ∨ pr0 + 10001 ≤ g ∧ g ≤ pr0 + 10005) z0 z → (L = 0 ∨ L = 1 → r0 = pr0) → Fo (fun r => r.2.2) (fun g => pr0 + 1001 ≤ g ∧ g ≤ pr0 + 1003 ∨ pr0 + 4001 ≤ g ∧ g ≤ pr0 + 4011 ∨ pr0 + 7004 ≤ g ∧ g ≤ pr0 + 7006 ∨ pr0 + 8001 ≤ g ∧ g ≤ pr0 + 8003 ∨ pr0 + 9001 ≤ g ∧ g ≤ pr0 + 9003 ∨ pr0 + 10001 ≤ g ∧ g ≤ pr0 + 10005) z0 (go L x1 x2 x3 r0 z)) (hz : fr (fun g => pr0 + 1001 ≤ g ∧ g ≤ pr0 + 1003 ∨ pr0 + 4001 ≤ g ∧ g ≤ pr0 + 4011 ∨ pr0 + 7004 ≤ g ∧ g ≤ pr0 + 7006 ∨ pr0 + 8001 ≤ g ∧ g ≤ pr0 + 8003 ∨ pr0 + 9001 ≤ g ∧ g ≤ pr0 + 9003 ∨ pr0 + 10001 ≤ g ∧ g ≤ pr0 + 10005) z0 z) (e_r0 : r0 = pr0) : Fo (fun r => r.2.2) (fun g => pr0 + 1001 ≤ g ∧ g ≤ pr0 + 1003 ∨ pr0 + 4001 ≤ g ∧ g ≤ pr0 + 4011 ∨ pr0 + 7004 ≤ g ∧ g ≤ pr0 + 7006 ∨ pr0 + 8001 ≤ g ∧ g ≤ pr0 + 8003 ∨ pr0 + 9001 ≤ g ∧ g ≤ pr0 + 9003 ∨ pr0 + 10001 ≤ g ∧ g ≤ pr0 + 10005) z0 (cm_X11_mirror_1 vl K go x1 x2 x3 r0 z) := by
  unfold cm_X11_mirror_1
  exact (fo_rdF (fun v7 => (fo_if (fo_cs1 ff_X11_keep (fun g hg => by omega) hz (fun v9 z8 h_z8 => (fo_some h_z8))) (fo_cs0 ff_X7_flipCrossing (fun g hg => by omega) hz (fun z10 h_z10 => (hgo 1 _ _ _ _ z10 h_z10 (fun _ => by omega)))))))
theorem fq_X11_mirror {K : Nat} {vl : Nat → Nat} {z0 : ow_MS} {pr0 : Nat} : ∀ (k L : Nat) (x1 : Int32) (x2 : Int32) (x3 : Int32) (r0 : Nat) (z : ow_MS), fr (fun g => pr0 + 1001 ≤ g ∧ g ≤ pr0 + 1003 ∨ pr0 + 4001 ≤ g ∧ g ≤ pr0 + 4011 ∨ pr0 + 7004 ≤ g ∧ g ≤ pr0 + 7006 ∨ pr0 + 8001 ≤ g ∧ g ≤ pr0 + 8003 ∨ pr0 + 9001 ≤ g ∧ g ≤ pr0 + 9003 ∨ pr0 + 10001 ≤ g ∧ g ≤ pr0 + 10005) z0 z → (L = 0 ∨ L = 1 → r0 = pr0) → Fo (fun r => r.2.2) (fun g => pr0 + 1001 ≤ g ∧ g ≤ pr0 + 1003 ∨ pr0 + 4001 ≤ g ∧ g ≤ pr0 + 4011 ∨ pr0 + 7004 ≤ g ∧ g ≤ pr0 + 7006 ∨ pr0 + 8001 ≤ g ∧ g ≤ pr0 + 8003 ∨ pr0 + 9001 ≤ g ∧ g ≤ pr0 + 9003 ∨ pr0 + 10001 ≤ g ∧ g ≤ pr0 + 10005) z0 (c_X11_mirror vl K k L x1 x2 x3 r0 z)
  | 0 => by
    intros
    exact fo_none
  | k + 1 => by
    intro L x1 x2 x3 r0 z hz h9_r0
    show Fo (fun r => r.2.2) (fun g => pr0 + 1001 ≤ g ∧ g ≤ pr0 + 1003 ∨ pr0 + 4001 ≤ g ∧ g ≤ pr0 + 4011 ∨ pr0 + 7004 ≤ g ∧ g ≤ pr0 + 7006 ∨ pr0 + 8001 ≤ g ∧ g ≤ pr0 + 8003 ∨ pr0 + 9001 ≤ g ∧ g ≤ pr0 + 9003 ∨ pr0 + 10001 ≤ g ∧ g ≤ pr0 + 10005) z0 (cb_X11_mirror vl K (c_X11_mirror vl K k) L x1 x2 x3 r0 z)
    unfold cb_X11_mirror
    split
    · exact fb_X11_mirror_0 (fq_X11_mirror k) hz (h9_r0 (by decide))
    · exact fb_X11_mirror_1 (fq_X11_mirror k) hz (h9_r0 (by decide))
    · exact fo_none
theorem ff_X11_mirror {vl : Nat → Nat} {K : Nat} {r0 : Nat} {x1 : Int32} {z : ow_MS} : Fo (fun r => r.2.2) (fun g => r0 + 1001 ≤ g ∧ g ≤ r0 + 1003 ∨ r0 + 4001 ≤ g ∧ g ≤ r0 + 4011 ∨ r0 + 7004 ≤ g ∧ g ≤ r0 + 7006 ∨ r0 + 8001 ≤ g ∧ g ≤ r0 + 8003 ∨ r0 + 9001 ≤ g ∧ g ≤ r0 + 9003 ∨ r0 + 10001 ≤ g ∧ g ≤ r0 + 10005) z (ce_X11_mirror vl K r0 x1 z) := fq_X11_mirror (pr0 := r0) K 0 _ _ _ _ z fr_rf (fun _ => rfl)
theorem fb_X7_turn_0 {K : Nat} {vl : Nat → Nat} {z0 z : ow_MS} {pr0 : Nat} {go : Nat → Int32 → Int32 → Nat → ow_MS → Option ow_MS} {x1 : Int32} {x2 : Int32} {r0 : Nat} (hgo : ∀ (L : Nat) (x1 : Int32) (x2 : Int32) (r0 : Nat) (z : ow_MS), fr (fun g => pr0 + 1 ≤ g ∧ g ≤ pr0 + 3) z0 z → (L = 0 ∨ L = 1 ∨ L = 2 ∨ L = 3 → r0 = pr0) → Fo id (fun g => pr0 + 1 ≤ g ∧ g ≤ pr0 + 3) z0 (go L x1 x2 r0 z)) (hz : fr (fun g => pr0 + 1 ≤ g ∧ g ≤ pr0 + 3) z0 z) (e_r0 : r0 = pr0) : Fo id (fun g => pr0 + 1 ≤ g ∧ g ≤ pr0 + 3) z0 (cm_X7_turn_0 vl K go x1 x2 r0 z) := by
  unfold cm_X7_turn_0
  exact (hgo 1 _ _ _ z hz (fun _ => by omega))
theorem fb_X7_turn_1 {K : Nat} {vl : Nat → Nat} {z0 z : ow_MS} {pr0 : Nat} {go : Nat → Int32 → Int32 → Nat → ow_MS → Option ow_MS} {x1 : Int32} {x2 : Int32} {r0 : Nat} (hgo : ∀ (L : Nat) (x1 : Int32) (x2 : Int32) (r0 : Nat) (z : ow_MS), fr (fun g => pr0 + 1 ≤ g ∧ g ≤ pr0 + 3) z0 z → (L = 0 ∨ L = 1 ∨ L = 2 ∨ L = 3 → r0 = pr0) → Fo id (fun g => pr0 + 1 ≤ g ∧ g ≤ pr0 + 3) z0 (go L x1 x2 r0 z)) (hz : fr (fun g => pr0 + 1 ≤ g ∧ g ≤ pr0 + 3) z0 z) (e_r0 : r0 = pr0) : Fo id (fun g => pr0 + 1 ≤ g ∧ g ≤ pr0 + 3) z0 (cm_X7_turn_1 vl K go x1 x2 r0 z) := by
  unfold cm_X7_turn_1
  exact (fo_rdF (fun v1 => (fo_if (fo_some hz) (fo_if (hgo 2 _ _ _ z hz (fun _ => by omega)) (fc_crI (fun v2 => (fo_if (hgo 2 _ _ _ z hz (fun _ => by omega)) (hgo 3 _ _ _ z hz (fun _ => by omega)))))))))
theorem fb_X7_turn_2 {K : Nat} {vl : Nat → Nat} {z0 z : ow_MS} {pr0 : Nat} {go : Nat → Int32 → Int32 → Nat → ow_MS → Option ow_MS} {x1 : Int32} {x2 : Int32} {r0 : Nat} (hgo : ∀ (L : Nat) (x1 : Int32) (x2 : Int32) (r0 : Nat) (z : ow_MS), fr (fun g => pr0 + 1 ≤ g ∧ g ≤ pr0 + 3) z0 z → (L = 0 ∨ L = 1 ∨ L = 2 ∨ L = 3 → r0 = pr0) → Fo id (fun g => pr0 + 1 ≤ g ∧ g ≤ pr0 + 3) z0 (go L x1 x2 r0 z)) (hz : fr (fun g => pr0 + 1 ≤ g ∧ g ≤ pr0 + 3) z0 z) (e_r0 : r0 = pr0) : Fo id (fun g => pr0 + 1 ≤ g ∧ g ≤ pr0 + 3) z0 (cm_X7_turn_2 vl K go x1 x2 r0 z) := by
  unfold cm_X7_turn_2
  exact (fc_crI (fun v3 => (fc_crI (fun v4 => (fc_ctI (by omega) hz (fun z5 h_z5 => (fc_ctI (by omega) h_z5 (fun z6 h_z6 => (fc_crI (fun v7 => (fc_ctI (by omega) h_z6 (fun z8 h_z8 => (hgo 3 _ _ _ z8 h_z8 (fun _ => by omega))))))))))))))
theorem fb_X7_turn_3 {K : Nat} {vl : Nat → Nat} {z0 z : ow_MS} {pr0 : Nat} {go : Nat → Int32 → Int32 → Nat → ow_MS → Option ow_MS} {x1 : Int32} {x2 : Int32} {r0 : Nat} (hgo : ∀ (L : Nat) (x1 : Int32) (x2 : Int32) (r0 : Nat) (z : ow_MS), fr (fun g => pr0 + 1 ≤ g ∧ g ≤ pr0 + 3) z0 z → (L = 0 ∨ L = 1 ∨ L = 2 ∨ L = 3 → r0 = pr0) → Fo id (fun g => pr0 + 1 ≤ g ∧ g ≤ pr0 + 3) z0 (go L x1 x2 r0 z)) (hz : fr (fun g => pr0 + 1 ≤ g ∧ g ≤ pr0 + 3) z0 z) (e_r0 : r0 = pr0) : Fo id (fun g => pr0 + 1 ≤ g ∧ g ≤ pr0 + 3) z0 (cm_X7_turn_3 vl K go x1 x2 r0 z) := by
  unfold cm_X7_turn_3
  exact (hgo 1 _ _ _ z hz (fun _ => by omega))
theorem fq_X7_turn {K : Nat} {vl : Nat → Nat} {z0 : ow_MS} {pr0 : Nat} : ∀ (k L : Nat) (x1 : Int32) (x2 : Int32) (r0 : Nat) (z : ow_MS), fr (fun g => pr0 + 1 ≤ g ∧ g ≤ pr0 + 3) z0 z → (L = 0 ∨ L = 1 ∨ L = 2 ∨ L = 3 → r0 = pr0) → Fo id (fun g => pr0 + 1 ≤ g ∧ g ≤ pr0 + 3) z0 (c_X7_turn vl K k L x1 x2 r0 z)
  | 0 => by
    intros
    exact fo_none
  | k + 1 => by
    intro L x1 x2 r0 z hz h9_r0
    show Fo id (fun g => pr0 + 1 ≤ g ∧ g ≤ pr0 + 3) z0 (cb_X7_turn vl K (c_X7_turn vl K k) L x1 x2 r0 z)
    unfold cb_X7_turn
    split
    · exact fb_X7_turn_0 (fq_X7_turn k) hz (h9_r0 (by decide))
    · exact fb_X7_turn_1 (fq_X7_turn k) hz (h9_r0 (by decide))
    · exact fb_X7_turn_2 (fq_X7_turn k) hz (h9_r0 (by decide))
    · exact fb_X7_turn_3 (fq_X7_turn k) hz (h9_r0 (by decide))
    · exact fo_none
theorem ff_X7_turn {vl : Nat → Nat} {K : Nat} {r0 : Nat} {x1 : Int32} {z : ow_MS} : Fo id (fun g => r0 + 1 ≤ g ∧ g ≤ r0 + 3) z (ce_X7_turn vl K r0 x1 z) := fq_X7_turn (pr0 := r0) K 0 _ _ _ z fr_rf (fun _ => rfl)
theorem fb_X11_reverse_0 {K : Nat} {vl : Nat → Nat} {z0 z : ow_MS} {pr0 : Nat} {go : Nat → Int32 → Int32 → Nat → ow_MS → Option (Nat × Int32 × ow_MS)} {x1 : Int32} {x2 : Int32} {r0 : Nat} (hgo : ∀ (L : Nat) (x1 : Int32) (x2 : Int32) (r0 : Nat) (z : ow_MS), fr (fun g => pr0 + 1001 ≤ g ∧ g ≤ pr0 + 1003 ∨ pr0 + 4001 ≤ g ∧ g ≤ pr0 + 4011 ∨ pr0 + 7004 ≤ g ∧ g ≤ pr0 + 7006 ∨ pr0 + 8001 ≤ g ∧ g ≤ pr0 + 8003 ∨ pr0 + 9001 ≤ g ∧ g ≤ pr0 + 9003 ∨ pr0 + 10001 ≤ g ∧ g ≤ pr0 + 10005) z0 z → (L = 0 ∨ L = 1 → r0 = pr0) → Fo (fun r => r.2.2) (fun g => pr0 + 1001 ≤ g ∧ g ≤ pr0 + 1003 ∨ pr0 + 4001 ≤ g ∧ g ≤ pr0 + 4011 ∨ pr0 + 7004 ≤ g ∧ g ≤ pr0 + 7006 ∨ pr0 + 8001 ≤ g ∧ g ≤ pr0 + 8003 ∨ pr0 + 9001 ≤ g ∧ g ≤ pr0 + 9003 ∨ pr0 + 10001 ≤ g ∧ g ≤ pr0 + 10005) z0 (go L x1 x2 r0 z)) (hz : fr (fun g => pr0 + 1001 ≤ g ∧ g ≤ pr0 + 1003 ∨ pr0 + 4001 ≤ g ∧ g ≤ pr0 + 4011 ∨ pr0 + 7004 ≤ g ∧ g ≤ pr0 + 7006 ∨ pr0 + 8001 ≤ g ∧ g ≤ pr0 + 8003 ∨ pr0 + 9001 ≤ g ∧ g ≤ pr0 + 9003 ∨ pr0 + 10001 ≤ g ∧ g ≤ pr0 + 10005) z0 z) (e_r0 : r0 = pr0) : Fo (fun r => r.2.2) (fun g => pr0 + 1001 ≤ g ∧ g ≤ pr0 + 1003 ∨ pr0 + 4001 ≤ g ∧ g ≤ pr0 + 4011 ∨ pr0 + 7004 ≤ g ∧ g ≤ pr0 + 7006 ∨ pr0 + 8001 ≤ g ∧ g ≤ pr0 + 8003 ∨ pr0 + 9001 ≤ g ∧ g ≤ pr0 + 9003 ∨ pr0 + 10001 ≤ g ∧ g ≤ pr0 + 10005) z0 (cm_X11_reverse_0 vl K go x1 x2 r0 z) := by
  unfold cm_X11_reverse_0
  exact (fc_tc0 ff_X11_needDiagram (fun g hg => hg.elim) hz (fun k z h_e => (fo_some h_e)) (fun z1 h_z1 => (fo_cs0 ff_X7_load (fun g hg => by omega) h_z1 (fun z3 h_z3 => (fo_if (hgo 1 _ _ _ z3 h_z3 (fun _ => by omega)) (fc_tc0 ff_X11_needComponent (fun g hg => hg.elim) h_z3 (fun k z h_e => (fo_some h_e)) (fun z4 h_z4 => (hgo 1 _ _ _ z4 h_z4 (fun _ => by omega)))))))))
theorem fb_X11_reverse_1 {K : Nat} {vl : Nat → Nat} {z0 z : ow_MS} {pr0 : Nat} {go : Nat → Int32 → Int32 → Nat → ow_MS → Option (Nat × Int32 × ow_MS)} {x1 : Int32} {x2 : Int32} {r0 : Nat} (hgo : ∀ (L : Nat) (x1 : Int32) (x2 : Int32) (r0 : Nat) (z : ow_MS), fr (fun g => pr0 + 1001 ≤ g ∧ g ≤ pr0 + 1003 ∨ pr0 + 4001 ≤ g ∧ g ≤ pr0 + 4011 ∨ pr0 + 7004 ≤ g ∧ g ≤ pr0 + 7006 ∨ pr0 + 8001 ≤ g ∧ g ≤ pr0 + 8003 ∨ pr0 + 9001 ≤ g ∧ g ≤ pr0 + 9003 ∨ pr0 + 10001 ≤ g ∧ g ≤ pr0 + 10005) z0 z → (L = 0 ∨ L = 1 → r0 = pr0) → Fo (fun r => r.2.2) (fun g => pr0 + 1001 ≤ g ∧ g ≤ pr0 + 1003 ∨ pr0 + 4001 ≤ g ∧ g ≤ pr0 + 4011 ∨ pr0 + 7004 ≤ g ∧ g ≤ pr0 + 7006 ∨ pr0 + 8001 ≤ g ∧ g ≤ pr0 + 8003 ∨ pr0 + 9001 ≤ g ∧ g ≤ pr0 + 9003 ∨ pr0 + 10001 ≤ g ∧ g ≤ pr0 + 10005) z0 (go L x1 x2 r0 z)) (hz : fr (fun g => pr0 + 1001 ≤ g ∧ g ≤ pr0 + 1003 ∨ pr0 + 4001 ≤ g ∧ g ≤ pr0 + 4011 ∨ pr0 + 7004 ≤ g ∧ g ≤ pr0 + 7006 ∨ pr0 + 8001 ≤ g ∧ g ≤ pr0 + 8003 ∨ pr0 + 9001 ≤ g ∧ g ≤ pr0 + 9003 ∨ pr0 + 10001 ≤ g ∧ g ≤ pr0 + 10005) z0 z) (e_r0 : r0 = pr0) : Fo (fun r => r.2.2) (fun g => pr0 + 1001 ≤ g ∧ g ≤ pr0 + 1003 ∨ pr0 + 4001 ≤ g ∧ g ≤ pr0 + 4011 ∨ pr0 + 7004 ≤ g ∧ g ≤ pr0 + 7006 ∨ pr0 + 8001 ≤ g ∧ g ≤ pr0 + 8003 ∨ pr0 + 9001 ≤ g ∧ g ≤ pr0 + 9003 ∨ pr0 + 10001 ≤ g ∧ g ≤ pr0 + 10005) z0 (cm_X11_reverse_1 vl K go x1 x2 r0 z) := by
  unfold cm_X11_reverse_1
  exact (fc_tc1 ff_X11_freeDiagram (fun g hg => hg.elim) hz (fun k z h_e => (fo_some h_e)) (fun v8 z6 h_z6 => (fo_cs0 ff_X7_turn (fun g hg => by omega) h_z6 (fun z9 h_z9 => (fo_cs1 ff_X11_keep (fun g hg => by omega) h_z9 (fun v11 z10 h_z10 => (fo_some h_z10)))))))
theorem fq_X11_reverse {K : Nat} {vl : Nat → Nat} {z0 : ow_MS} {pr0 : Nat} : ∀ (k L : Nat) (x1 : Int32) (x2 : Int32) (r0 : Nat) (z : ow_MS), fr (fun g => pr0 + 1001 ≤ g ∧ g ≤ pr0 + 1003 ∨ pr0 + 4001 ≤ g ∧ g ≤ pr0 + 4011 ∨ pr0 + 7004 ≤ g ∧ g ≤ pr0 + 7006 ∨ pr0 + 8001 ≤ g ∧ g ≤ pr0 + 8003 ∨ pr0 + 9001 ≤ g ∧ g ≤ pr0 + 9003 ∨ pr0 + 10001 ≤ g ∧ g ≤ pr0 + 10005) z0 z → (L = 0 ∨ L = 1 → r0 = pr0) → Fo (fun r => r.2.2) (fun g => pr0 + 1001 ≤ g ∧ g ≤ pr0 + 1003 ∨ pr0 + 4001 ≤ g ∧ g ≤ pr0 + 4011 ∨ pr0 + 7004 ≤ g ∧ g ≤ pr0 + 7006 ∨ pr0 + 8001 ≤ g ∧ g ≤ pr0 + 8003 ∨ pr0 + 9001 ≤ g ∧ g ≤ pr0 + 9003 ∨ pr0 + 10001 ≤ g ∧ g ≤ pr0 + 10005) z0 (c_X11_reverse vl K k L x1 x2 r0 z)
  | 0 => by
    intros
    exact fo_none
  | k + 1 => by
    intro L x1 x2 r0 z hz h9_r0
    show Fo (fun r => r.2.2) (fun g => pr0 + 1001 ≤ g ∧ g ≤ pr0 + 1003 ∨ pr0 + 4001 ≤ g ∧ g ≤ pr0 + 4011 ∨ pr0 + 7004 ≤ g ∧ g ≤ pr0 + 7006 ∨ pr0 + 8001 ≤ g ∧ g ≤ pr0 + 8003 ∨ pr0 + 9001 ≤ g ∧ g ≤ pr0 + 9003 ∨ pr0 + 10001 ≤ g ∧ g ≤ pr0 + 10005) z0 (cb_X11_reverse vl K (c_X11_reverse vl K k) L x1 x2 r0 z)
    unfold cb_X11_reverse
    split
    · exact fb_X11_reverse_0 (fq_X11_reverse k) hz (h9_r0 (by decide))
    · exact fb_X11_reverse_1 (fq_X11_reverse k) hz (h9_r0 (by decide))
    · exact fo_none
theorem ff_X11_reverse {vl : Nat → Nat} {K : Nat} {r0 : Nat} {x1 : Int32} {x2 : Int32} {z : ow_MS} : Fo (fun r => r.2.2) (fun g => r0 + 1001 ≤ g ∧ g ≤ r0 + 1003 ∨ r0 + 4001 ≤ g ∧ g ≤ r0 + 4011 ∨ r0 + 7004 ≤ g ∧ g ≤ r0 + 7006 ∨ r0 + 8001 ≤ g ∧ g ≤ r0 + 8003 ∨ r0 + 9001 ≤ g ∧ g ≤ r0 + 9003 ∨ r0 + 10001 ≤ g ∧ g ≤ r0 + 10005) z (ce_X11_reverse vl K r0 x1 x2 z) := fq_X11_reverse (pr0 := r0) K 0 _ _ _ z fr_rf (fun _ => rfl)
theorem ff_X11_needCrossing {vl : Nat → Nat} {K : Nat} {r0 : Nat} {x1 : Int32} {z : ow_MS} : Fo Prod.snd (fun _ => False) z (ce_X11_needCrossing vl K r0 x1 z) := by
  unfold ce_X11_needCrossing cm_X11_needCrossing_0
  exact (fo_if (fo_some fr_rf) (fo_rdF (fun v1 => (fo_if (fo_some fr_rf) (fo_some fr_rf)))))
theorem ff_X11_change {vl : Nat → Nat} {K : Nat} {r0 : Nat} {x1 : Int32} {x2 : Int32} {z : ow_MS} : Fo (fun r => r.2.2) (fun g => r0 + 1001 ≤ g ∧ g ≤ r0 + 1003 ∨ r0 + 4001 ≤ g ∧ g ≤ r0 + 4011 ∨ r0 + 7004 ≤ g ∧ g ≤ r0 + 7006 ∨ r0 + 8001 ≤ g ∧ g ≤ r0 + 8003 ∨ r0 + 9001 ≤ g ∧ g ≤ r0 + 9003 ∨ r0 + 10001 ≤ g ∧ g ≤ r0 + 10005) z (ce_X11_change vl K r0 x1 x2 z) := by
  unfold ce_X11_change cm_X11_change_0
  exact (fc_tc0 ff_X11_needDiagram (fun g hg => hg.elim) fr_rf (fun k z h_e => (fo_some h_e)) (fun z1 h_z1 => (fo_cs0 ff_X7_load (fun g hg => by omega) h_z1 (fun z3 h_z3 => (fc_tc0 ff_X11_needCrossing (fun g hg => hg.elim) h_z3 (fun k z h_e => (fo_some h_e)) (fun z4 h_z4 => (fc_tc1 ff_X11_freeDiagram (fun g hg => hg.elim) h_z4 (fun k z h_e => (fo_some h_e)) (fun v8 z6 h_z6 => (fo_cs0 ff_X7_flipCrossing (fun g hg => by omega) h_z6 (fun z9 h_z9 => (fo_cs1 ff_X11_keep (fun g hg => by omega) h_z9 (fun v11 z10 h_z10 => (fo_some h_z10)))))))))))))
theorem ff_X7_exchange {vl : Nat → Nat} {K : Nat} {r0 : Nat} {x1 : Int32} {x2 : Int32} {z : ow_MS} : Fo id (fun g => r0 + 1 ≤ g ∧ g ≤ r0 + 2) z (ce_X7_exchange vl K r0 x1 x2 z) := by
  unfold ce_X7_exchange cm_X7_exchange_0
  exact (fc_crI (fun v1 => (fc_crI (fun v2 => (fo_cs0 ff_X7_link (fun g hg => by omega) fr_rf (fun z3 h_z3 => (fo_cs0 ff_X7_link (fun g hg => by omega) h_z3 (fun z4 h_z4 => (fo_some h_z4)))))))))
theorem ff_X7_cut {vl : Nat → Nat} {K : Nat} {r0 : Nat} {x1 : Int32} {z : ow_MS} : Fo id (fun g => r0 + 1 ≤ g ∧ g ≤ r0 + 9) z (ce_X7_cut vl K r0 x1 z) := by
  unfold ce_X7_cut cm_X7_cut_0
  exact (fc_crI (fun v1 => (fo_if (fo_rdF (fun v5 => (fo_wrF (by omega) fr_rf (fun z6 h_z6 => (fo_some h_z6))))) (fc_crI (fun v2 => (fc_crI (fun v3 => (fo_cs0 ff_X7_link (fun g hg => by omega) fr_rf (fun z4 h_z4 => (fo_some h_z4))))))))))
theorem ff_X7_rename {vl : Nat → Nat} {K : Nat} {r0 : Nat} {x1 : Int32} {x2 : Int32} {z : ow_MS} : Fo id (fun g => r0 + 1 ≤ g ∧ g ≤ r0 + 2) z (ce_X7_rename vl K r0 x1 x2 z) := by
  unfold ce_X7_rename cm_X7_rename_0
  exact (fc_crI (fun v1 => (fo_if (fo_cs0 ff_X7_link (fun g hg => by omega) fr_rf (fun z6 h_z6 => (fo_some h_z6))) (fc_crI (fun v2 => (fo_cs0 ff_X7_link (fun g hg => by omega) fr_rf (fun z3 h_z3 => (fc_crI (fun v4 => (fo_cs0 ff_X7_link (fun g hg => by omega) h_z3 (fun z5 h_z5 => (fo_some h_z5))))))))))))
theorem ff_X7_removeCrossing {vl : Nat → Nat} {K : Nat} {r0 : Nat} {x1 : Int32} {z : ow_MS} : Fo id (fun g => r0 + 1 ≤ g ∧ g ≤ r0 + 9) z (ce_X7_removeCrossing vl K r0 x1 z) := by
  unfold ce_X7_removeCrossing cm_X7_removeCrossing_0
  exact (fo_cs0 ff_X7_cut (fun g hg => by omega) fr_rf (fun z1 h_z1 => (fo_cs0 ff_X7_cut (fun g hg => by omega) h_z1 (fun z2 h_z2 => (fo_rdF (fun v3 => (fo_wrF (by omega) h_z2 (fun z4 h_z4 => (fo_rdF (fun v5 => (fo_if (fo_some h_z4) (fo_rdF (fun v6 => (fo_cs0 ff_X7_rename (fun g hg => by omega) h_z4 (fun z7 h_z7 => (fo_rdF (fun v8 => (fo_cs0 ff_X7_rename (fun g hg => by omega) h_z7 (fun z9 h_z9 => (fo_rdF (fun v10 => (fc_crI (fun v11 => (fc_ctI (by omega) h_z9 (fun z12 h_z12 => (fo_some h_z12))))))))))))))))))))))))))
theorem ff_X7_smoothCrossing {vl : Nat → Nat} {K : Nat} {r0 : Nat} {x1 : Int32} {z : ow_MS} : Fo id (fun g => r0 + 1 ≤ g ∧ g ≤ r0 + 9) z (ce_X7_smoothCrossing vl K r0 x1 z) := by
  unfold ce_X7_smoothCrossing cm_X7_smoothCrossing_0
  exact (fo_cs0 ff_X7_exchange (fun g hg => by omega) fr_rf (fun z1 h_z1 => (fo_cs0 ff_X7_removeCrossing (fun g hg => by omega) h_z1 (fun z2 h_z2 => (fo_some h_z2)))))
theorem fb_X7_markRings_0 {K : Nat} {vl : Nat → Nat} {z0 z : ow_MS} {pr0 : Nat} {go : Nat → Int32 → Int32 → Int32 → Int32 → Nat → ow_MS → Option ow_MS} {x1 : Int32} {x2 : Int32} {x3 : Int32} {x4 : Int32} {r0 : Nat} (hgo : ∀ (L : Nat) (x1 : Int32) (x2 : Int32) (x3 : Int32) (x4 : Int32) (r0 : Nat) (z : ow_MS), fr (fun g => pr0 + 5 ≤ g ∧ g ≤ pr0 + 10) z0 z → (L = 0 ∨ L = 1 ∨ L = 2 ∨ L = 3 ∨ L = 4 → r0 = pr0) → Fo id (fun g => pr0 + 5 ≤ g ∧ g ≤ pr0 + 10) z0 (go L x1 x2 x3 x4 r0 z)) (hz : fr (fun g => pr0 + 5 ≤ g ∧ g ≤ pr0 + 10) z0 z) (e_r0 : r0 = pr0) : Fo id (fun g => pr0 + 5 ≤ g ∧ g ≤ pr0 + 10) z0 (cm_X7_markRings_0 vl K go x1 x2 x3 x4 r0 z) := by
  unfold cm_X7_markRings_0
  exact (fo_rdF (fun v1 => (fo_cs0 ff_J7_fill_fda19 (fun g hg => by omega) hz (fun z2 h_z2 => (fo_wrF (by omega) h_z2 (fun z3 h_z3 => (hgo 1 _ _ _ _ _ z3 h_z3 (fun _ => by omega))))))))
theorem fb_X7_markRings_1 {K : Nat} {vl : Nat → Nat} {z0 z : ow_MS} {pr0 : Nat} {go : Nat → Int32 → Int32 → Int32 → Int32 → Nat → ow_MS → Option ow_MS} {x1 : Int32} {x2 : Int32} {x3 : Int32} {x4 : Int32} {r0 : Nat} (hgo : ∀ (L : Nat) (x1 : Int32) (x2 : Int32) (x3 : Int32) (x4 : Int32) (r0 : Nat) (z : ow_MS), fr (fun g => pr0 + 5 ≤ g ∧ g ≤ pr0 + 10) z0 z → (L = 0 ∨ L = 1 ∨ L = 2 ∨ L = 3 ∨ L = 4 → r0 = pr0) → Fo id (fun g => pr0 + 5 ≤ g ∧ g ≤ pr0 + 10) z0 (go L x1 x2 x3 x4 r0 z)) (hz : fr (fun g => pr0 + 5 ≤ g ∧ g ≤ pr0 + 10) z0 z) (e_r0 : r0 = pr0) : Fo id (fun g => pr0 + 5 ≤ g ∧ g ≤ pr0 + 10) z0 (cm_X7_markRings_1 vl K go x1 x2 x3 x4 r0 z) := by
  unfold cm_X7_markRings_1
  exact (fo_if (fo_some hz) (fc_crI (fun v4 => (fo_if (hgo 2 _ _ _ _ _ z hz (fun _ => by omega)) (hgo 4 _ _ _ _ _ z hz (fun _ => by omega))))))
theorem fb_X7_markRings_2 {K : Nat} {vl : Nat → Nat} {z0 z : ow_MS} {pr0 : Nat} {go : Nat → Int32 → Int32 → Int32 → Int32 → Nat → ow_MS → Option ow_MS} {x1 : Int32} {x2 : Int32} {x3 : Int32} {x4 : Int32} {r0 : Nat} (hgo : ∀ (L : Nat) (x1 : Int32) (x2 : Int32) (x3 : Int32) (x4 : Int32) (r0 : Nat) (z : ow_MS), fr (fun g => pr0 + 5 ≤ g ∧ g ≤ pr0 + 10) z0 z → (L = 0 ∨ L = 1 ∨ L = 2 ∨ L = 3 ∨ L = 4 → r0 = pr0) → Fo id (fun g => pr0 + 5 ≤ g ∧ g ≤ pr0 + 10) z0 (go L x1 x2 x3 x4 r0 z)) (hz : fr (fun g => pr0 + 5 ≤ g ∧ g ≤ pr0 + 10) z0 z) (e_r0 : r0 = pr0) : Fo id (fun g => pr0 + 5 ≤ g ∧ g ≤ pr0 + 10) z0 (cm_X7_markRings_2 vl K go x1 x2 x3 x4 r0 z) := by
  unfold cm_X7_markRings_2
  exact (fo_if (hgo 3 _ _ _ _ _ z hz (fun _ => by omega)) (fc_crI (fun v5 => (fo_if (fo_rdF (fun v6 => (fc_ctI (by omega) hz (fun z7 h_z7 => (fc_crI (fun v8 => (hgo 2 _ _ _ _ _ z7 h_z7 (fun _ => by omega)))))))) (hgo 3 _ _ _ _ _ z hz (fun _ => by omega))))))
theorem fb_X7_markRings_3 {K : Nat} {vl : Nat → Nat} {z0 z : ow_MS} {pr0 : Nat} {go : Nat → Int32 → Int32 → Int32 → Int32 → Nat → ow_MS → Option ow_MS} {x1 : Int32} {x2 : Int32} {x3 : Int32} {x4 : Int32} {r0 : Nat} (hgo : ∀ (L : Nat) (x1 : Int32) (x2 : Int32) (x3 : Int32) (x4 : Int32) (r0 : Nat) (z : ow_MS), fr (fun g => pr0 + 5 ≤ g ∧ g ≤ pr0 + 10) z0 z → (L = 0 ∨ L = 1 ∨ L = 2 ∨ L = 3 ∨ L = 4 → r0 = pr0) → Fo id (fun g => pr0 + 5 ≤ g ∧ g ≤ pr0 + 10) z0 (go L x1 x2 x3 x4 r0 z)) (hz : fr (fun g => pr0 + 5 ≤ g ∧ g ≤ pr0 + 10) z0 z) (e_r0 : r0 = pr0) : Fo id (fun g => pr0 + 5 ≤ g ∧ g ≤ pr0 + 10) z0 (cm_X7_markRings_3 vl K go x1 x2 x3 x4 r0 z) := by
  unfold cm_X7_markRings_3
  exact (fo_rdF (fun v9 => (fo_wrF (by omega) hz (fun z10 h_z10 => (hgo 4 _ _ _ _ _ z10 h_z10 (fun _ => by omega))))))
theorem fb_X7_markRings_4 {K : Nat} {vl : Nat → Nat} {z0 z : ow_MS} {pr0 : Nat} {go : Nat → Int32 → Int32 → Int32 → Int32 → Nat → ow_MS → Option ow_MS} {x1 : Int32} {x2 : Int32} {x3 : Int32} {x4 : Int32} {r0 : Nat} (hgo : ∀ (L : Nat) (x1 : Int32) (x2 : Int32) (x3 : Int32) (x4 : Int32) (r0 : Nat) (z : ow_MS), fr (fun g => pr0 + 5 ≤ g ∧ g ≤ pr0 + 10) z0 z → (L = 0 ∨ L = 1 ∨ L = 2 ∨ L = 3 ∨ L = 4 → r0 = pr0) → Fo id (fun g => pr0 + 5 ≤ g ∧ g ≤ pr0 + 10) z0 (go L x1 x2 x3 x4 r0 z)) (hz : fr (fun g => pr0 + 5 ≤ g ∧ g ≤ pr0 + 10) z0 z) (e_r0 : r0 = pr0) : Fo id (fun g => pr0 + 5 ≤ g ∧ g ≤ pr0 + 10) z0 (cm_X7_markRings_4 vl K go x1 x2 x3 x4 r0 z) := by
  unfold cm_X7_markRings_4
  exact (hgo 1 _ _ _ _ _ z hz (fun _ => by omega))
theorem fq_X7_markRings {K : Nat} {vl : Nat → Nat} {z0 : ow_MS} {pr0 : Nat} : ∀ (k L : Nat) (x1 : Int32) (x2 : Int32) (x3 : Int32) (x4 : Int32) (r0 : Nat) (z : ow_MS), fr (fun g => pr0 + 5 ≤ g ∧ g ≤ pr0 + 10) z0 z → (L = 0 ∨ L = 1 ∨ L = 2 ∨ L = 3 ∨ L = 4 → r0 = pr0) → Fo id (fun g => pr0 + 5 ≤ g ∧ g ≤ pr0 + 10) z0 (c_X7_markRings vl K k L x1 x2 x3 x4 r0 z)
  | 0 => by
    intros
    exact fo_none
  | k + 1 => by
    intro L x1 x2 x3 x4 r0 z hz h9_r0
    show Fo id (fun g => pr0 + 5 ≤ g ∧ g ≤ pr0 + 10) z0 (cb_X7_markRings vl K (c_X7_markRings vl K k) L x1 x2 x3 x4 r0 z)
    unfold cb_X7_markRings
    split
    · exact fb_X7_markRings_0 (fq_X7_markRings k) hz (h9_r0 (by decide))
    · exact fb_X7_markRings_1 (fq_X7_markRings k) hz (h9_r0 (by decide))
    · exact fb_X7_markRings_2 (fq_X7_markRings k) hz (h9_r0 (by decide))
    · exact fb_X7_markRings_3 (fq_X7_markRings k) hz (h9_r0 (by decide))
    · exact fb_X7_markRings_4 (fq_X7_markRings k) hz (h9_r0 (by decide))
    · exact fo_none
theorem ff_X7_markRings {vl : Nat → Nat} {K : Nat} {r0 : Nat} {z : ow_MS} : Fo id (fun g => r0 + 5 ≤ g ∧ g ≤ r0 + 10) z (ce_X7_markRings vl K r0 z) := fq_X7_markRings (pr0 := r0) K 0 _ _ _ _ _ z fr_rf (fun _ => rfl)
theorem ff_X11_smooth {vl : Nat → Nat} {K : Nat} {r0 : Nat} {x1 : Int32} {x2 : Int32} {z : ow_MS} : Fo (fun r => r.2.2) (fun g => r0 + 1001 ≤ g ∧ g ≤ r0 + 1003 ∨ r0 + 4001 ≤ g ∧ g ≤ r0 + 4011 ∨ r0 + 7004 ≤ g ∧ g ≤ r0 + 7006 ∨ r0 + 8001 ≤ g ∧ g ≤ r0 + 8003 ∨ r0 + 9001 ≤ g ∧ g ≤ r0 + 9003 ∨ r0 + 10001 ≤ g ∧ g ≤ r0 + 10005) z (ce_X11_smooth vl K r0 x1 x2 z) := by
  unfold ce_X11_smooth cm_X11_smooth_0
  exact (fc_tc0 ff_X11_needDiagram (fun g hg => hg.elim) fr_rf (fun k z h_e => (fo_some h_e)) (fun z1 h_z1 => (fo_cs0 ff_X7_load (fun g hg => by omega) h_z1 (fun z3 h_z3 => (fc_tc0 ff_X11_needCrossing (fun g hg => hg.elim) h_z3 (fun k z h_e => (fo_some h_e)) (fun z4 h_z4 => (fo_cs0 ff_X7_smoothCrossing (fun g hg => by omega) h_z4 (fun z6 h_z6 => (fo_cs0 ff_X7_markRings (fun g hg => by omega) h_z6 (fun z7 h_z7 => (fo_rdF (fun v8 => (fo_rdF (fun v9 => (fo_if (fc_tc1 ff_X11_freeDiagram (fun g hg => hg.elim) h_z7 (fun k z h_e => (fo_some h_e)) (fun v12 z10 h_z10 => (fo_cs1 ff_X11_keep (fun g hg => by omega) h_z10 (fun v14 z13 h_z13 => (fo_some h_z13))))) (fo_some h_z7))))))))))))))))
theorem ff_X11_loadBoth {vl : Nat → Nat} {K : Nat} {r0 : Nat} {x1 : Int32} {x2 : Int32} {x3 : Int32} {z : ow_MS} : Fo Prod.snd (fun g => r0 + 4001 ≤ g ∧ g ≤ r0 + 4010 ∨ r0 + 5001 ≤ g ∧ g ≤ r0 + 5010) z (ce_X11_loadBoth vl K r0 x1 x2 x3 z) := by
  unfold ce_X11_loadBoth cm_X11_loadBoth_0
  exact (fo_cs0 ff_X7_load (fun g hg => by omega) fr_rf (fun z1 h_z1 => (fo_cs0 ff_X7_load (fun g hg => by omega) h_z1 (fun z2 h_z2 => (fo_rdF (fun v3 => (fo_rdF (fun v4 => (fo_if (fo_some h_z2) (fo_rdF (fun v5 => (fo_rdF (fun v6 => (fo_if (fo_some h_z2) (fo_some h_z2)))))))))))))))
theorem fb_X7_append_0 {K : Nat} {vl : Nat → Nat} {z0 z : ow_MS} {pr0 : Nat} {pr1 : Nat} {go : Nat → Int32 → Int32 → Nat → Nat → ow_MS → Option ow_MS} {x2 : Int32} {x3 : Int32} {r0 : Nat} {r1 : Nat} (hgo : ∀ (L : Nat) (x2 : Int32) (x3 : Int32) (r0 : Nat) (r1 : Nat) (z : ow_MS), fr (fun g => pr0 + 1 ≤ g ∧ g ≤ pr0 + 9) z0 z → (L = 0 ∨ L = 1 → r0 = pr0) → (L = 0 ∨ L = 1 → r1 = pr1) → Fo id (fun g => pr0 + 1 ≤ g ∧ g ≤ pr0 + 9) z0 (go L x2 x3 r0 r1 z)) (hz : fr (fun g => pr0 + 1 ≤ g ∧ g ≤ pr0 + 9) z0 z) (e_r0 : r0 = pr0) (e_r1 : r1 = pr1) : Fo id (fun g => pr0 + 1 ≤ g ∧ g ≤ pr0 + 9) z0 (cm_X7_append_0 vl K go x2 x3 r0 r1 z) := by
  unfold cm_X7_append_0
  exact (fo_rdF (fun v1 => (hgo 1 _ _ _ _ z hz (fun _ => by omega) (fun _ => by omega))))
theorem fb_X7_append_1 {K : Nat} {vl : Nat → Nat} {z0 z : ow_MS} {pr0 : Nat} {pr1 : Nat} {go : Nat → Int32 → Int32 → Nat → Nat → ow_MS → Option ow_MS} {x2 : Int32} {x3 : Int32} {r0 : Nat} {r1 : Nat} (hgo : ∀ (L : Nat) (x2 : Int32) (x3 : Int32) (r0 : Nat) (r1 : Nat) (z : ow_MS), fr (fun g => pr0 + 1 ≤ g ∧ g ≤ pr0 + 9) z0 z → (L = 0 ∨ L = 1 → r0 = pr0) → (L = 0 ∨ L = 1 → r1 = pr1) → Fo id (fun g => pr0 + 1 ≤ g ∧ g ≤ pr0 + 9) z0 (go L x2 x3 r0 r1 z)) (hz : fr (fun g => pr0 + 1 ≤ g ∧ g ≤ pr0 + 9) z0 z) (e_r0 : r0 = pr0) (e_r1 : r1 = pr1) : Fo id (fun g => pr0 + 1 ≤ g ∧ g ≤ pr0 + 9) z0 (cm_X7_append_1 vl K go x2 x3 r0 r1 z) := by
  unfold cm_X7_append_1
  exact (fo_rdF (fun v2 => (fo_if (fo_rdF (fun v3 => (fo_rdF (fun v4 => (fc_cpI (by omega) hz (fun z5 h_z5 => (fo_rdF (fun v6 => (fo_rdF (fun v7 => (fo_wrF (by omega) h_z5 (fun z8 h_z8 => (fo_rdF (fun v9 => (fo_rdF (fun v10 => (fo_wrF (by omega) h_z8 (fun z11 h_z11 => (fo_some h_z11))))))))))))))))))) (fc_crI (fun v12 => (fc_ctI (by omega) hz (fun z13 h_z13 => (fc_crI (fun v14 => (fc_ctI (by omega) h_z13 (fun z15 h_z15 => (hgo 1 _ _ _ _ z15 h_z15 (fun _ => by omega) (fun _ => by omega)))))))))))))
theorem fq_X7_append {K : Nat} {vl : Nat → Nat} {z0 : ow_MS} {pr0 : Nat} {pr1 : Nat} : ∀ (k L : Nat) (x2 : Int32) (x3 : Int32) (r0 : Nat) (r1 : Nat) (z : ow_MS), fr (fun g => pr0 + 1 ≤ g ∧ g ≤ pr0 + 9) z0 z → (L = 0 ∨ L = 1 → r0 = pr0) → (L = 0 ∨ L = 1 → r1 = pr1) → Fo id (fun g => pr0 + 1 ≤ g ∧ g ≤ pr0 + 9) z0 (c_X7_append vl K k L x2 x3 r0 r1 z)
  | 0 => by
    intros
    exact fo_none
  | k + 1 => by
    intro L x2 x3 r0 r1 z hz h9_r0 h9_r1
    show Fo id (fun g => pr0 + 1 ≤ g ∧ g ≤ pr0 + 9) z0 (cb_X7_append vl K (c_X7_append vl K k) L x2 x3 r0 r1 z)
    unfold cb_X7_append
    split
    · exact fb_X7_append_0 (fq_X7_append k) hz (h9_r0 (by decide)) (h9_r1 (by decide))
    · exact fb_X7_append_1 (fq_X7_append k) hz (h9_r0 (by decide)) (h9_r1 (by decide))
    · exact fo_none
theorem ff_X7_append {vl : Nat → Nat} {K : Nat} {r0 : Nat} {r1 : Nat} {z : ow_MS} : Fo id (fun g => r0 + 1 ≤ g ∧ g ≤ r0 + 9) z (ce_X7_append vl K r0 r1 z) := fq_X7_append (pr0 := r0) (pr1 := r1) K 0 _ _ _ _ z fr_rf (fun _ => rfl) (fun _ => rfl)
theorem ff_X11_apart {vl : Nat → Nat} {K : Nat} {r0 : Nat} {x1 : Int32} {x2 : Int32} {z : ow_MS} : Fo (fun r => r.2.2) (fun g => r0 + 1001 ≤ g ∧ g ≤ r0 + 1003 ∨ r0 + 4001 ≤ g ∧ g ≤ r0 + 4011 ∨ r0 + 5001 ≤ g ∧ g ≤ r0 + 5010 ∨ r0 + 7004 ≤ g ∧ g ≤ r0 + 7006 ∨ r0 + 8001 ≤ g ∧ g ≤ r0 + 8003 ∨ r0 + 9001 ≤ g ∧ g ≤ r0 + 9003 ∨ r0 + 10001 ≤ g ∧ g ≤ r0 + 10005) z (ce_X11_apart vl K r0 x1 x2 z) := by
  unfold ce_X11_apart cm_X11_apart_0
  exact (fc_tc0 ff_X11_needDiagram (fun g hg => hg.elim) fr_rf (fun k z h_e => (fo_some h_e)) (fun z1 h_z1 => (fc_tc0 ff_X11_needDiagram (fun g hg => hg.elim) h_z1 (fun k z h_e => (fo_some h_e)) (fun z3 h_z3 => (fc_tc0 ff_X11_loadBoth (fun g hg => by omega) h_z3 (fun k z h_e => (fo_some h_e)) (fun z5 h_z5 => (fc_tc1 ff_X11_freeDiagram (fun g hg => hg.elim) h_z5 (fun k z h_e => (fo_some h_e)) (fun v9 z7 h_z7 => (fo_cs0 ff_X7_append (fun g hg => by omega) h_z7 (fun z10 h_z10 => (fo_cs1 ff_X11_keep (fun g hg => by omega) h_z10 (fun v12 z11 h_z11 => (fo_some h_z11)))))))))))))
theorem ff_X11_join {vl : Nat → Nat} {K : Nat} {r0 : Nat} {x1 : Int32} {x2 : Int32} {x3 : Int32} {x4 : Int32} {z : ow_MS} : Fo (fun r => r.2.2) (fun g => r0 + 1001 ≤ g ∧ g ≤ r0 + 1003 ∨ r0 + 4001 ≤ g ∧ g ≤ r0 + 4011 ∨ r0 + 5001 ≤ g ∧ g ≤ r0 + 5010 ∨ r0 + 7004 ≤ g ∧ g ≤ r0 + 7006 ∨ r0 + 8001 ≤ g ∧ g ≤ r0 + 8003 ∨ r0 + 9001 ≤ g ∧ g ≤ r0 + 9003 ∨ r0 + 10001 ≤ g ∧ g ≤ r0 + 10005) z (ce_X11_join vl K r0 x1 x2 x3 x4 z) := by
  unfold ce_X11_join cm_X11_join_0
  exact (fc_tc0 ff_X11_needDiagram (fun g hg => hg.elim) fr_rf (fun k z h_e => (fo_some h_e)) (fun z1 h_z1 => (fo_if (fo_some h_z1) (fc_crI (fun v3 => (fo_if (fc_tc0 ff_X11_needDiagram (fun g hg => hg.elim) h_z1 (fun k z h_e => (fo_some h_e)) (fun z4 h_z4 => (fo_if (fo_some h_z4) (fc_crI (fun v6 => (fo_if (fc_tc0 ff_X11_loadBoth (fun g hg => by omega) h_z4 (fun k z h_e => (fo_some h_e)) (fun z7 h_z7 => (fc_tc1 ff_X11_freeDiagram (fun g hg => hg.elim) h_z7 (fun k z h_e => (fo_some h_e)) (fun v11 z9 h_z9 => (fc_crI (fun v12 => (fo_rdF (fun v13 => (fc_crI (fun v14 => (fo_cs0 ff_X7_append (fun g hg => by omega) h_z9 (fun z15 h_z15 => (fo_cs0 ff_X7_exchange (fun g hg => by omega) h_z15 (fun z16 h_z16 => (fo_cs1 ff_X11_keep (fun g hg => by omega) h_z16 (fun v18 z17 h_z17 => (fo_some h_z17))))))))))))))))) (fo_some h_z4))))))) (fo_some h_z1)))))))
theorem ff_X6_countNumbers {vl : Nat → Nat} {K : Nat} {r0 : Nat} {x1 : Int32} {z : ow_MS} : Fo Prod.snd (fun _ => False) z (ce_X6_countNumbers vl K r0 x1 z) := by
  unfold ce_X6_countNumbers cm_X6_countNumbers_0
  exact (fo_rdF (fun v1 => (fo_if (fo_some fr_rf) (fo_if (fo_rdF (fun v2 => (fo_some fr_rf))) (fo_if (fo_rdF (fun v3 => (fo_if (fo_some fr_rf) (fo_some fr_rf)))) (fo_if (fo_rdF (fun v4 => (fo_rdF (fun v5 => (fo_some fr_rf))))) (fo_if (fo_rdF (fun v6 => (fo_if (fo_some fr_rf) (fo_some fr_rf)))) fo_none)))))))
theorem ff_X4_endOf {vl : Nat → Nat} {K : Nat} {r0 : Nat} {x1 : Int32} {z : ow_MS} : Fo Prod.snd (fun _ => False) z (ce_X4_endOf vl K r0 x1 z) := by
  unfold ce_X4_endOf cm_X4_endOf_0
  exact (fo_if (fc_crI (fun v1 => (fo_some fr_rf))) (fo_some fr_rf))
theorem ff_X6_isOver {vl : Nat → Nat} {K : Nat} {r0 : Nat} {x1 : Int32} {z : ow_MS} : Fo Prod.snd (fun _ => False) z (ce_X6_isOver vl K r0 x1 z) := by
  unfold ce_X6_isOver cm_X6_isOver_0
  exact (fo_if (fc_crI (fun v1 => (fo_if (fo_okZ (fo_some fr_rf)) (fo_okZ (fo_some fr_rf))))) (fo_okZ (fo_some fr_rf)))
theorem fb_X6_isPassable_0 {K : Nat} {vl : Nat → Nat} {z0 z : ow_MS} {pr0 : Nat} {go : Nat → Int32 → Int32 → Int32 → Int32 → Int32 → Int32 → Nat → ow_MS → Option (Int32 × ow_MS)} {x1 : Int32} {x2 : Int32} {x3 : Int32} {x4 : Int32} {x5 : Int32} {x6 : Int32} {r0 : Nat} (hgo : ∀ (L : Nat) (x1 : Int32) (x2 : Int32) (x3 : Int32) (x4 : Int32) (x5 : Int32) (x6 : Int32) (r0 : Nat) (z : ow_MS), fr (fun _ => False) z0 z → (L = 0 ∨ L = 1 → r0 = pr0) → Fo Prod.snd (fun _ => False) z0 (go L x1 x2 x3 x4 x5 x6 r0 z)) (hz : fr (fun _ => False) z0 z) (e_r0 : r0 = pr0) : Fo Prod.snd (fun _ => False) z0 (cm_X6_isPassable_0 vl K go x1 x2 x3 x4 x5 x6 r0 z) := by
  unfold cm_X6_isPassable_0
  exact (fo_cs1 ff_X4_endOf (fun g hg => hg.elim) hz (fun v2 z1 h_z1 => (fo_cs1 ff_X4_endOf (fun g hg => hg.elim) h_z1 (fun v4 z3 h_z3 => (fo_cs1 ff_X4_endOf (fun g hg => hg.elim) h_z3 (fun v6 z5 h_z5 => (fo_if (fo_okZ (fo_some h_z5)) (fo_if (fo_okZ (fo_some h_z5)) (fo_if (fo_okZ (fo_some h_z5)) (fo_cs1 ff_X6_isOver (fun g hg => hg.elim) h_z5 (fun v8 z7 h_z7 => (fo_if (fo_cs1 ff_X6_isOver (fun g hg => hg.elim) h_z7 (fun v10 z9 h_z9 => (fo_if (fo_cs1 ff_X6_isOver (fun g hg => hg.elim) h_z9 (fun v12 z11 h_z11 => (fo_if (fo_okZ (fo_some h_z11)) (hgo 1 _ _ _ _ _ _ _ z11 h_z11 (fun _ => by omega))))) (hgo 1 _ _ _ _ _ _ _ z9 h_z9 (fun _ => by omega))))) (hgo 1 _ _ _ _ _ _ _ z7 h_z7 (fun _ => by omega))))))))))))))
theorem fb_X6_isPassable_1 {K : Nat} {vl : Nat → Nat} {z0 z : ow_MS} {pr0 : Nat} {go : Nat → Int32 → Int32 → Int32 → Int32 → Int32 → Int32 → Nat → ow_MS → Option (Int32 × ow_MS)} {x1 : Int32} {x2 : Int32} {x3 : Int32} {x4 : Int32} {x5 : Int32} {x6 : Int32} {r0 : Nat} (hgo : ∀ (L : Nat) (x1 : Int32) (x2 : Int32) (x3 : Int32) (x4 : Int32) (x5 : Int32) (x6 : Int32) (r0 : Nat) (z : ow_MS), fr (fun _ => False) z0 z → (L = 0 ∨ L = 1 → r0 = pr0) → Fo Prod.snd (fun _ => False) z0 (go L x1 x2 x3 x4 x5 x6 r0 z)) (hz : fr (fun _ => False) z0 z) (e_r0 : r0 = pr0) : Fo Prod.snd (fun _ => False) z0 (cm_X6_isPassable_1 vl K go x1 x2 x3 x4 x5 x6 r0 z) := by
  unfold cm_X6_isPassable_1
  exact (fo_okZ (fo_some hz))
theorem fq_X6_isPassable {K : Nat} {vl : Nat → Nat} {z0 : ow_MS} {pr0 : Nat} : ∀ (k L : Nat) (x1 : Int32) (x2 : Int32) (x3 : Int32) (x4 : Int32) (x5 : Int32) (x6 : Int32) (r0 : Nat) (z : ow_MS), fr (fun _ => False) z0 z → (L = 0 ∨ L = 1 → r0 = pr0) → Fo Prod.snd (fun _ => False) z0 (c_X6_isPassable vl K k L x1 x2 x3 x4 x5 x6 r0 z)
  | 0 => by
    intros
    exact fo_none
  | k + 1 => by
    intro L x1 x2 x3 x4 x5 x6 r0 z hz h9_r0
    show Fo Prod.snd (fun _ => False) z0 (cb_X6_isPassable vl K (c_X6_isPassable vl K k) L x1 x2 x3 x4 x5 x6 r0 z)
    unfold cb_X6_isPassable
    split
    · exact fb_X6_isPassable_0 (fq_X6_isPassable k) hz (h9_r0 (by decide))
    · exact fb_X6_isPassable_1 (fq_X6_isPassable k) hz (h9_r0 (by decide))
    · exact fo_none
theorem ff_X6_isPassable {vl : Nat → Nat} {K : Nat} {r0 : Nat} {x1 : Int32} {x2 : Int32} {x3 : Int32} {z : ow_MS} : Fo Prod.snd (fun _ => False) z (ce_X6_isPassable vl K r0 x1 x2 x3 z) := fq_X6_isPassable (pr0 := r0) K 0 _ _ _ _ _ _ _ z fr_rf (fun _ => rfl)
theorem ff_X7_copy {vl : Nat → Nat} {K : Nat} {r0 : Nat} {r1 : Nat} {z : ow_MS} : Fo id (fun g => r0 + 1 ≤ g ∧ g ≤ r0 + 9) z (ce_X7_copy vl K r0 r1 z) := by
  unfold ce_X7_copy cm_X7_copy_0
  exact (fo_rdF (fun v1 => (fo_wrF (by omega) fr_rf (fun z2 h_z2 => (fo_rdF (fun v3 => (fo_wrF (by omega) h_z2 (fun z4 h_z4 => (fo_rdF (fun v5 => (fc_cpI (by omega) h_z4 (fun z6 h_z6 => (fo_rdF (fun v7 => (fc_cpI (by omega) h_z6 (fun z8 h_z8 => (fo_rdF (fun v9 => (fc_cpI (by omega) h_z8 (fun z10 h_z10 => (fo_some h_z10)))))))))))))))))))))
theorem ff_X6_threePass {vl : Nat → Nat} {K : Nat} {r0 : Nat} {x1 : Int32} {z : ow_MS} : Fo Prod.snd (fun g => r0 + 5001 ≤ g ∧ g ≤ r0 + 5009) z (ce_X6_threePass vl K r0 x1 z) := by
  unfold ce_X6_threePass cm_X6_threePass_0
  exact (fo_cs1 ff_X4_onward (fun g hg => hg.elim) fr_rf (fun v2 z1 h_z1 => (fo_cs1 ff_X4_onward (fun g hg => hg.elim) h_z1 (fun v4 z3 h_z3 => (fo_if (fo_okZ (fo_some h_z3)) (fo_if (fo_okZ (fo_some h_z3)) (fo_cs1 ff_X4_onward (fun g hg => hg.elim) h_z3 (fun v6 z5 h_z5 => (fo_if (fo_cs1 ff_X6_isPassable (fun g hg => hg.elim) h_z5 (fun v8 z7 h_z7 => (fo_if (fo_okZ (fo_some h_z7)) (fo_cs0 ff_X7_copy (fun g hg => by omega) h_z7 (fun z9 h_z9 => (fc_crI (fun v10 => (fo_cs0 ff_X7_swapPlaces (fun g hg => by omega) h_z9 (fun z11 h_z11 => (fc_crI (fun v12 => (fo_cs0 ff_X7_swapPlaces (fun g hg => by omega) h_z11 (fun z13 h_z13 => (fc_crI (fun v14 => (fo_cs0 ff_X7_swapPlaces (fun g hg => by omega) h_z13 (fun z15 h_z15 => (fo_okZ (fo_some h_z15))))))))))))))))))) (fo_okZ (fo_some h_z5)))))))))))
theorem fb_X6_isBeside_0 {K : Nat} {vl : Nat → Nat} {z0 z : ow_MS} {pr0 : Nat} {go : Nat → Int32 → Int32 → Nat → ow_MS → Option (Int32 × ow_MS)} {x1 : Int32} {x2 : Int32} {r0 : Nat} (hgo : ∀ (L : Nat) (x1 : Int32) (x2 : Int32) (r0 : Nat) (z : ow_MS), fr (fun _ => False) z0 z → (L = 0 ∨ L = 1 → r0 = pr0) → Fo Prod.snd (fun _ => False) z0 (go L x1 x2 r0 z)) (hz : fr (fun _ => False) z0 z) (e_r0 : r0 = pr0) : Fo Prod.snd (fun _ => False) z0 (cm_X6_isBeside_0 vl K go x1 x2 r0 z) := by
  unfold cm_X6_isBeside_0
  exact (fc_crI (fun v1 => (fo_if (hgo 1 _ _ _ z hz (fun _ => by omega)) (fc_crI (fun v2 => (fo_if (hgo 1 _ _ _ z hz (fun _ => by omega)) (fo_okZ (fo_some hz))))))))
theorem fb_X6_isBeside_1 {K : Nat} {vl : Nat → Nat} {z0 z : ow_MS} {pr0 : Nat} {go : Nat → Int32 → Int32 → Nat → ow_MS → Option (Int32 × ow_MS)} {x1 : Int32} {x2 : Int32} {r0 : Nat} (hgo : ∀ (L : Nat) (x1 : Int32) (x2 : Int32) (r0 : Nat) (z : ow_MS), fr (fun _ => False) z0 z → (L = 0 ∨ L = 1 → r0 = pr0) → Fo Prod.snd (fun _ => False) z0 (go L x1 x2 r0 z)) (hz : fr (fun _ => False) z0 z) (e_r0 : r0 = pr0) : Fo Prod.snd (fun _ => False) z0 (cm_X6_isBeside_1 vl K go x1 x2 r0 z) := by
  unfold cm_X6_isBeside_1
  exact (fo_okZ (fo_some hz))
theorem fq_X6_isBeside {K : Nat} {vl : Nat → Nat} {z0 : ow_MS} {pr0 : Nat} : ∀ (k L : Nat) (x1 : Int32) (x2 : Int32) (r0 : Nat) (z : ow_MS), fr (fun _ => False) z0 z → (L = 0 ∨ L = 1 → r0 = pr0) → Fo Prod.snd (fun _ => False) z0 (c_X6_isBeside vl K k L x1 x2 r0 z)
  | 0 => by
    intros
    exact fo_none
  | k + 1 => by
    intro L x1 x2 r0 z hz h9_r0
    show Fo Prod.snd (fun _ => False) z0 (cb_X6_isBeside vl K (c_X6_isBeside vl K k) L x1 x2 r0 z)
    unfold cb_X6_isBeside
    split
    · exact fb_X6_isBeside_0 (fq_X6_isBeside k) hz (h9_r0 (by decide))
    · exact fb_X6_isBeside_1 (fq_X6_isBeside k) hz (h9_r0 (by decide))
    · exact fo_none
theorem ff_X6_isBeside {vl : Nat → Nat} {K : Nat} {r0 : Nat} {x1 : Int32} {x2 : Int32} {z : ow_MS} : Fo Prod.snd (fun _ => False) z (ce_X6_isBeside vl K r0 x1 x2 z) := fq_X6_isBeside (pr0 := r0) K 0 _ _ _ z fr_rf (fun _ => rfl)
theorem ff_X6_isLoop {vl : Nat → Nat} {K : Nat} {r0 : Nat} {x1 : Int32} {z : ow_MS} : Fo Prod.snd (fun _ => False) z (ce_X6_isLoop vl K r0 x1 z) := by
  unfold ce_X6_isLoop cm_X6_isLoop_0
  exact (fo_cs1 ff_X6_isBeside (fun g hg => hg.elim) fr_rf (fun v2 z1 h_z1 => (fo_okZ (fo_some h_z1))))
theorem ff_X6_oneGoes {vl : Nat → Nat} {K : Nat} {r0 : Nat} {x1 : Int32} {z : ow_MS} : Fo Prod.snd (fun g => r0 + 5001 ≤ g ∧ g ≤ r0 + 5009) z (ce_X6_oneGoes vl K r0 x1 z) := by
  unfold ce_X6_oneGoes cm_X6_oneGoes_0
  exact (fo_cs1 ff_X6_isLoop (fun g hg => hg.elim) fr_rf (fun v2 z1 h_z1 => (fo_if (fo_okZ (fo_some h_z1)) (fo_cs0 ff_X7_copy (fun g hg => by omega) h_z1 (fun z3 h_z3 => (fo_cs0 ff_X7_removeCrossing (fun g hg => by omega) h_z3 (fun z4 h_z4 => (fo_okZ (fo_some h_z4)))))))))
theorem ff_X7_openCircle {vl : Nat → Nat} {K : Nat} {r0 : Nat} {x1 : Int32} {z : ow_MS} : Fo id (fun g => r0 + 1 ≤ g ∧ g ≤ r0 + 9) z (ce_X7_openCircle vl K r0 x1 z) := by
  unfold ce_X7_openCircle cm_X7_openCircle_0
  exact (fo_rdF (fun v1 => (fo_wrF (by omega) fr_rf (fun z2 h_z2 => (fo_cs0 ff_X7_link (fun g hg => by omega) h_z2 (fun z3 h_z3 => (fo_some h_z3)))))))
theorem ff_X7_putBehind {vl : Nat → Nat} {K : Nat} {r0 : Nat} {x1 : Int32} {x2 : Int32} {z : ow_MS} : Fo id (fun g => r0 + 1 ≤ g ∧ g ≤ r0 + 2) z (ce_X7_putBehind vl K r0 x1 x2 z) := by
  unfold ce_X7_putBehind cm_X7_putBehind_0
  exact (fc_crI (fun v1 => (fo_cs0 ff_X7_link (fun g hg => by omega) fr_rf (fun z2 h_z2 => (fo_cs0 ff_X7_link (fun g hg => by omega) h_z2 (fun z3 h_z3 => (fo_some h_z3)))))))
end
section
/-! 99zzzzzzzzzzzzmc.foc2 -/
/-! frames of the class, on -/
theorem fc_cpJ {O : Type} {st : O → ow_MS} {P : Nat → Prop} {z0 z : ow_MS} {h g : Nat} {i j k : Int32} {X : ow_Tb} {f : ow_MS → Option O} (hP : P g) (hz : fr P z0 z) (H : ∀ z1, fr P z0 z1 → Fo st P z0 (f z1)) : Fo st P z0 (cpJ X z h i g j k f) := by
  refine fo_if fo_none (H _ (fun q hq => ?_))
  obtain ⟨a1, a2, a3⟩ := hz q hq
  refine ⟨a1, a2, ?_⟩
  show (if q = g then _ else z.2.2 q) = _
  rw [if_neg (fun e => hq (by rw [e]; exact hP))]
  exact a3
theorem fb_X6_placePair_0 {K : Nat} {vl : Nat → Nat} {z0 z : ow_MS} {pr0 : Nat} {go : Nat → Int32 → Int32 → Int32 → Nat → ow_MS → Option ow_MS} {x1 : Int32} {x2 : Int32} {x3 : Int32} {r0 : Nat} (hgo : ∀ (L : Nat) (x1 : Int32) (x2 : Int32) (x3 : Int32) (r0 : Nat) (z : ow_MS), fr (fun g => pr0 + 5001 ≤ g ∧ g ≤ pr0 + 5009) z0 z → (L = 0 ∨ L = 1 → r0 = pr0) → Fo id (fun g => pr0 + 5001 ≤ g ∧ g ≤ pr0 + 5009) z0 (go L x1 x2 x3 r0 z)) (hz : fr (fun g => pr0 + 5001 ≤ g ∧ g ≤ pr0 + 5009) z0 z) (e_r0 : r0 = pr0) : Fo id (fun g => pr0 + 5001 ≤ g ∧ g ≤ pr0 + 5009) z0 (cm_X6_placePair_0 vl K go x1 x2 x3 r0 z) := by
  unfold cm_X6_placePair_0
  exact (fo_if (fo_cs0 ff_X7_openCircle (fun g hg => by omega) hz (fun z2 h_z2 => (hgo 1 _ _ _ _ z2 h_z2 (fun _ => by omega)))) (fo_cs0 ff_X7_putBehind (fun g hg => by omega) hz (fun z1 h_z1 => (hgo 1 _ _ _ _ z1 h_z1 (fun _ => by omega)))))
theorem fb_X6_placePair_1 {K : Nat} {vl : Nat → Nat} {z0 z : ow_MS} {pr0 : Nat} {go : Nat → Int32 → Int32 → Int32 → Nat → ow_MS → Option ow_MS} {x1 : Int32} {x2 : Int32} {x3 : Int32} {r0 : Nat} (hgo : ∀ (L : Nat) (x1 : Int32) (x2 : Int32) (x3 : Int32) (r0 : Nat) (z : ow_MS), fr (fun g => pr0 + 5001 ≤ g ∧ g ≤ pr0 + 5009) z0 z → (L = 0 ∨ L = 1 → r0 = pr0) → Fo id (fun g => pr0 + 5001 ≤ g ∧ g ≤ pr0 + 5009) z0 (go L x1 x2 x3 r0 z)) (hz : fr (fun g => pr0 + 5001 ≤ g ∧ g ≤ pr0 + 5009) z0 z) (e_r0 : r0 = pr0) : Fo id (fun g => pr0 + 5001 ≤ g ∧ g ≤ pr0 + 5009) z0 (cm_X6_placePair_1 vl K go x1 x2 x3 r0 z) := by
  unfold cm_X6_placePair_1
  exact (fo_cs0 ff_X7_putBehind (fun g hg => by omega) hz (fun z3 h_z3 => (fo_some h_z3)))
theorem fq_X6_placePair {K : Nat} {vl : Nat → Nat} {z0 : ow_MS} {pr0 : Nat} : ∀ (k L : Nat) (x1 : Int32) (x2 : Int32) (x3 : Int32) (r0 : Nat) (z : ow_MS), fr (fun g => pr0 + 5001 ≤ g ∧ g ≤ pr0 + 5009) z0 z → (L = 0 ∨ L = 1 → r0 = pr0) → Fo id (fun g => pr0 + 5001 ≤ g ∧ g ≤ pr0 + 5009) z0 (c_X6_placePair vl K k L x1 x2 x3 r0 z)
  | 0 => by
    intros
    exact fo_none
  | k + 1 => by
    intro L x1 x2 x3 r0 z hz h9_r0
    show Fo id (fun g => pr0 + 5001 ≤ g ∧ g ≤ pr0 + 5009) z0 (cb_X6_placePair vl K (c_X6_placePair vl K k) L x1 x2 x3 r0 z)
    unfold cb_X6_placePair
    split
    · exact fb_X6_placePair_0 (fq_X6_placePair k) hz (h9_r0 (by decide))
    · exact fb_X6_placePair_1 (fq_X6_placePair k) hz (h9_r0 (by decide))
    · exact fo_none
theorem ff_X6_placePair {vl : Nat → Nat} {K : Nat} {r0 : Nat} {x1 : Int32} {x2 : Int32} {x3 : Int32} {z : ow_MS} : Fo id (fun g => r0 + 5001 ≤ g ∧ g ≤ r0 + 5009) z (ce_X6_placePair vl K r0 x1 x2 x3 z) := fq_X6_placePair (pr0 := r0) K 0 _ _ _ _ z fr_rf (fun _ => rfl)
theorem fb_X6_oneComes_0 {K : Nat} {vl : Nat → Nat} {z0 z : ow_MS} {pr0 : Nat} {go : Nat → Int32 → Int32 → Int32 → Int32 → Nat → Int32 → Int32 → ow_MS → Option (Int32 × ow_MS)} {x1 : Int32} {x2 : Int32} {x3 : Int32} {x4 : Int32} {r0 : Nat} {t0 : Int32} {t1 : Int32} (hgo : ∀ (L : Nat) (x1 : Int32) (x2 : Int32) (x3 : Int32) (x4 : Int32) (r0 : Nat) (t0 : Int32) (t1 : Int32) (z : ow_MS), fr (fun g => pr0 + 5001 ≤ g ∧ g ≤ pr0 + 5009) z0 z → (L = 0 ∨ L = 1 ∨ L = 2 ∨ L = 3 → r0 = pr0) → Fo Prod.snd (fun g => pr0 + 5001 ≤ g ∧ g ≤ pr0 + 5009) z0 (go L x1 x2 x3 x4 r0 t0 t1 z)) (hz : fr (fun g => pr0 + 5001 ≤ g ∧ g ≤ pr0 + 5009) z0 z) (e_r0 : r0 = pr0) : Fo Prod.snd (fun g => pr0 + 5001 ≤ g ∧ g ≤ pr0 + 5009) z0 (cm_X6_oneComes_0 vl K go x1 x2 x3 x4 r0 t0 t1 z) := by
  unfold cm_X6_oneComes_0
  exact (fo_rdF (fun v1 => (fo_if (fo_rdF (fun v2 => (fo_if (fo_okZ (fo_some hz)) (hgo 1 _ _ _ _ _ _ _ z hz (fun _ => by omega))))) (hgo 1 _ _ _ _ _ _ _ z hz (fun _ => by omega)))))
theorem fb_X6_oneComes_1 {K : Nat} {vl : Nat → Nat} {z0 z : ow_MS} {pr0 : Nat} {go : Nat → Int32 → Int32 → Int32 → Int32 → Nat → Int32 → Int32 → ow_MS → Option (Int32 × ow_MS)} {x1 : Int32} {x2 : Int32} {x3 : Int32} {x4 : Int32} {r0 : Nat} {t0 : Int32} {t1 : Int32} (hgo : ∀ (L : Nat) (x1 : Int32) (x2 : Int32) (x3 : Int32) (x4 : Int32) (r0 : Nat) (t0 : Int32) (t1 : Int32) (z : ow_MS), fr (fun g => pr0 + 5001 ≤ g ∧ g ≤ pr0 + 5009) z0 z → (L = 0 ∨ L = 1 ∨ L = 2 ∨ L = 3 → r0 = pr0) → Fo Prod.snd (fun g => pr0 + 5001 ≤ g ∧ g ≤ pr0 + 5009) z0 (go L x1 x2 x3 x4 r0 t0 t1 z)) (hz : fr (fun g => pr0 + 5001 ≤ g ∧ g ≤ pr0 + 5009) z0 z) (e_r0 : r0 = pr0) : Fo Prod.snd (fun g => pr0 + 5001 ≤ g ∧ g ≤ pr0 + 5009) z0 (cm_X6_oneComes_1 vl K go x1 x2 x3 x4 r0 t0 t1 z) := by
  unfold cm_X6_oneComes_1
  exact (fo_cs0 ff_X7_copy (fun g hg => by omega) hz (fun z3 h_z3 => (fo_rdF (fun v4 => (fo_wrF (by omega) h_z3 (fun z5 h_z5 => (fo_rdF (fun v6 => (fo_if (hgo 2 _ _ _ _ _ _ _ z5 h_z5 (fun _ => by omega)) (hgo 2 _ _ _ _ _ _ _ z5 h_z5 (fun _ => by omega)))))))))))
theorem fb_X6_oneComes_2 {K : Nat} {vl : Nat → Nat} {z0 z : ow_MS} {pr0 : Nat} {go : Nat → Int32 → Int32 → Int32 → Int32 → Nat → Int32 → Int32 → ow_MS → Option (Int32 × ow_MS)} {x1 : Int32} {x2 : Int32} {x3 : Int32} {x4 : Int32} {r0 : Nat} {t0 : Int32} {t1 : Int32} (hgo : ∀ (L : Nat) (x1 : Int32) (x2 : Int32) (x3 : Int32) (x4 : Int32) (r0 : Nat) (t0 : Int32) (t1 : Int32) (z : ow_MS), fr (fun g => pr0 + 5001 ≤ g ∧ g ≤ pr0 + 5009) z0 z → (L = 0 ∨ L = 1 ∨ L = 2 ∨ L = 3 → r0 = pr0) → Fo Prod.snd (fun g => pr0 + 5001 ≤ g ∧ g ≤ pr0 + 5009) z0 (go L x1 x2 x3 x4 r0 t0 t1 z)) (hz : fr (fun g => pr0 + 5001 ≤ g ∧ g ≤ pr0 + 5009) z0 z) (e_r0 : r0 = pr0) : Fo Prod.snd (fun g => pr0 + 5001 ≤ g ∧ g ≤ pr0 + 5009) z0 (cm_X6_oneComes_2 vl K go x1 x2 x3 x4 r0 t0 t1 z) := by
  unfold cm_X6_oneComes_2
  exact (fc_ctI (by omega) hz (fun z7 h_z7 => (fo_if (hgo 3 _ _ _ _ _ _ _ z7 h_z7 (fun _ => by omega)) (hgo 3 _ _ _ _ _ _ _ z7 h_z7 (fun _ => by omega)))))
theorem fb_X6_oneComes_3 {K : Nat} {vl : Nat → Nat} {z0 z : ow_MS} {pr0 : Nat} {go : Nat → Int32 → Int32 → Int32 → Int32 → Nat → Int32 → Int32 → ow_MS → Option (Int32 × ow_MS)} {x1 : Int32} {x2 : Int32} {x3 : Int32} {x4 : Int32} {r0 : Nat} {t0 : Int32} {t1 : Int32} (hgo : ∀ (L : Nat) (x1 : Int32) (x2 : Int32) (x3 : Int32) (x4 : Int32) (r0 : Nat) (t0 : Int32) (t1 : Int32) (z : ow_MS), fr (fun g => pr0 + 5001 ≤ g ∧ g ≤ pr0 + 5009) z0 z → (L = 0 ∨ L = 1 ∨ L = 2 ∨ L = 3 → r0 = pr0) → Fo Prod.snd (fun g => pr0 + 5001 ≤ g ∧ g ≤ pr0 + 5009) z0 (go L x1 x2 x3 x4 r0 t0 t1 z)) (hz : fr (fun g => pr0 + 5001 ≤ g ∧ g ≤ pr0 + 5009) z0 z) (e_r0 : r0 = pr0) : Fo Prod.snd (fun g => pr0 + 5001 ≤ g ∧ g ≤ pr0 + 5009) z0 (cm_X6_oneComes_3 vl K go x1 x2 x3 x4 r0 t0 t1 z) := by
  unfold cm_X6_oneComes_3
  exact (fo_cs0 ff_X6_placePair (fun g hg => by omega) hz (fun z8 h_z8 => (fo_okZ (fo_some h_z8))))
theorem fq_X6_oneComes {K : Nat} {vl : Nat → Nat} {z0 : ow_MS} {pr0 : Nat} : ∀ (k L : Nat) (x1 : Int32) (x2 : Int32) (x3 : Int32) (x4 : Int32) (r0 : Nat) (t0 : Int32) (t1 : Int32) (z : ow_MS), fr (fun g => pr0 + 5001 ≤ g ∧ g ≤ pr0 + 5009) z0 z → (L = 0 ∨ L = 1 ∨ L = 2 ∨ L = 3 → r0 = pr0) → Fo Prod.snd (fun g => pr0 + 5001 ≤ g ∧ g ≤ pr0 + 5009) z0 (c_X6_oneComes vl K k L x1 x2 x3 x4 r0 t0 t1 z)
  | 0 => by
    intros
    exact fo_none
  | k + 1 => by
    intro L x1 x2 x3 x4 r0 t0 t1 z hz h9_r0
    show Fo Prod.snd (fun g => pr0 + 5001 ≤ g ∧ g ≤ pr0 + 5009) z0 (cb_X6_oneComes vl K (c_X6_oneComes vl K k) L x1 x2 x3 x4 r0 t0 t1 z)
    unfold cb_X6_oneComes
    split
    · exact fb_X6_oneComes_0 (fq_X6_oneComes k) hz (h9_r0 (by decide))
    · exact fb_X6_oneComes_1 (fq_X6_oneComes k) hz (h9_r0 (by decide))
    · exact fb_X6_oneComes_2 (fq_X6_oneComes k) hz (h9_r0 (by decide))
    · exact fb_X6_oneComes_3 (fq_X6_oneComes k) hz (h9_r0 (by decide))
    · exact fo_none
theorem ff_X6_oneComes {vl : Nat → Nat} {K : Nat} {r0 : Nat} {x1 : Int32} {x2 : Int32} {z : ow_MS} : Fo Prod.snd (fun g => r0 + 5001 ≤ g ∧ g ≤ r0 + 5009) z (ce_X6_oneComes vl K r0 x1 x2 z) := fq_X6_oneComes (pr0 := r0) K 0 _ _ _ _ _ _ _ z fr_rf (fun _ => rfl)
theorem ff_X6_isPair {vl : Nat → Nat} {K : Nat} {r0 : Nat} {x1 : Int32} {x2 : Int32} {z : ow_MS} : Fo Prod.snd (fun _ => False) z (ce_X6_isPair vl K r0 x1 x2 z) := by
  unfold ce_X6_isPair cm_X6_isPair_0
  exact (fc_crI (fun v1 => (fc_crI (fun v2 => (fo_if (fo_okZ (fo_some fr_rf)) (fo_cs1 ff_X6_isBeside (fun g hg => hg.elim) fr_rf (fun v4 z3 h_z3 => (fo_if (fo_okZ (fo_some h_z3)) (fo_cs1 ff_X6_isBeside (fun g hg => hg.elim) h_z3 (fun v6 z5 h_z5 => (fo_if (fo_okZ (fo_some h_z5)) (fo_okZ (fo_some h_z5)))))))))))))
theorem ff_X6_twoGo {vl : Nat → Nat} {K : Nat} {r0 : Nat} {x1 : Int32} {x2 : Int32} {z : ow_MS} : Fo Prod.snd (fun g => r0 + 5001 ≤ g ∧ g ≤ r0 + 5009) z (ce_X6_twoGo vl K r0 x1 x2 z) := by
  unfold ce_X6_twoGo cm_X6_twoGo_0
  exact (fo_if (fo_okZ (fo_some fr_rf)) (fo_cs1 ff_X6_isPair (fun g hg => hg.elim) fr_rf (fun v2 z1 h_z1 => (fo_if (fo_okZ (fo_some h_z1)) (fo_cs0 ff_X7_copy (fun g hg => by omega) h_z1 (fun z3 h_z3 => (fo_cs0 ff_X7_removeCrossing (fun g hg => by omega) h_z3 (fun z4 h_z4 => (fo_cs0 ff_X7_removeCrossing (fun g hg => by omega) h_z4 (fun z5 h_z5 => (fo_okZ (fo_some h_z5))))))))))))
theorem fb_X6_mayMeet_0 {K : Nat} {vl : Nat → Nat} {z0 z : ow_MS} {pr0 : Nat} {go : Nat → Int32 → Int32 → Int32 → Int32 → Int32 → Int32 → Nat → ow_MS → Option (Int32 × ow_MS)} {x1 : Int32} {x2 : Int32} {x3 : Int32} {x4 : Int32} {x5 : Int32} {x6 : Int32} {r0 : Nat} (hgo : ∀ (L : Nat) (x1 : Int32) (x2 : Int32) (x3 : Int32) (x4 : Int32) (x5 : Int32) (x6 : Int32) (r0 : Nat) (z : ow_MS), fr (fun _ => False) z0 z → (L = 0 ∨ L = 1 → r0 = pr0) → Fo Prod.snd (fun _ => False) z0 (go L x1 x2 x3 x4 x5 x6 r0 z)) (hz : fr (fun _ => False) z0 z) (e_r0 : r0 = pr0) : Fo Prod.snd (fun _ => False) z0 (cm_X6_mayMeet_0 vl K go x1 x2 x3 x4 x5 x6 r0 z) := by
  unfold cm_X6_mayMeet_0
  exact (fc_crI (fun v1 => (fc_crI (fun v2 => (fc_crI (fun v3 => (fc_crI (fun v4 => (fc_crI (fun v5 => (fc_crI (fun v6 => (fo_if (fo_if (hgo 1 _ _ _ _ _ _ _ z hz (fun _ => by omega)) (fo_if (hgo 1 _ _ _ _ _ _ _ z hz (fun _ => by omega)) (fo_if (hgo 1 _ _ _ _ _ _ _ z hz (fun _ => by omega)) (fo_if (hgo 1 _ _ _ _ _ _ _ z hz (fun _ => by omega)) (fo_okZ (fo_some hz)))))) (hgo 1 _ _ _ _ _ _ _ z hz (fun _ => by omega)))))))))))))))
theorem fb_X6_mayMeet_1 {K : Nat} {vl : Nat → Nat} {z0 z : ow_MS} {pr0 : Nat} {go : Nat → Int32 → Int32 → Int32 → Int32 → Int32 → Int32 → Nat → ow_MS → Option (Int32 × ow_MS)} {x1 : Int32} {x2 : Int32} {x3 : Int32} {x4 : Int32} {x5 : Int32} {x6 : Int32} {r0 : Nat} (hgo : ∀ (L : Nat) (x1 : Int32) (x2 : Int32) (x3 : Int32) (x4 : Int32) (x5 : Int32) (x6 : Int32) (r0 : Nat) (z : ow_MS), fr (fun _ => False) z0 z → (L = 0 ∨ L = 1 → r0 = pr0) → Fo Prod.snd (fun _ => False) z0 (go L x1 x2 x3 x4 x5 x6 r0 z)) (hz : fr (fun _ => False) z0 z) (e_r0 : r0 = pr0) : Fo Prod.snd (fun _ => False) z0 (cm_X6_mayMeet_1 vl K go x1 x2 x3 x4 x5 x6 r0 z) := by
  unfold cm_X6_mayMeet_1
  exact (fo_okZ (fo_some hz))
theorem fq_X6_mayMeet {K : Nat} {vl : Nat → Nat} {z0 : ow_MS} {pr0 : Nat} : ∀ (k L : Nat) (x1 : Int32) (x2 : Int32) (x3 : Int32) (x4 : Int32) (x5 : Int32) (x6 : Int32) (r0 : Nat) (z : ow_MS), fr (fun _ => False) z0 z → (L = 0 ∨ L = 1 → r0 = pr0) → Fo Prod.snd (fun _ => False) z0 (c_X6_mayMeet vl K k L x1 x2 x3 x4 x5 x6 r0 z)
  | 0 => by
    intros
    exact fo_none
  | k + 1 => by
    intro L x1 x2 x3 x4 x5 x6 r0 z hz h9_r0
    show Fo Prod.snd (fun _ => False) z0 (cb_X6_mayMeet vl K (c_X6_mayMeet vl K k) L x1 x2 x3 x4 x5 x6 r0 z)
    unfold cb_X6_mayMeet
    split
    · exact fb_X6_mayMeet_0 (fq_X6_mayMeet k) hz (h9_r0 (by decide))
    · exact fb_X6_mayMeet_1 (fq_X6_mayMeet k) hz (h9_r0 (by decide))
    · exact fo_none
theorem ff_X6_mayMeet {vl : Nat → Nat} {K : Nat} {r0 : Nat} {x1 : Int32} {x2 : Int32} {z : ow_MS} : Fo Prod.snd (fun _ => False) z (ce_X6_mayMeet vl K r0 x1 x2 z) := fq_X6_mayMeet (pr0 := r0) K 0 _ _ _ _ _ _ _ z fr_rf (fun _ => rfl)
theorem fb_X6_twoCome_0 {K : Nat} {vl : Nat → Nat} {z0 z : ow_MS} {pr0 : Nat} {go : Nat → Int32 → Int32 → Int32 → Int32 → Int32 → Int32 → Int32 → Int32 → Nat → Int32 → Int32 → Int32 → ow_MS → Option (Int32 × ow_MS)} {x1 : Int32} {x2 : Int32} {x3 : Int32} {x4 : Int32} {x5 : Int32} {x6 : Int32} {x7 : Int32} {x8 : Int32} {r0 : Nat} {t0 : Int32} {t1 : Int32} {t2 : Int32} (hgo : ∀ (L : Nat) (x1 : Int32) (x2 : Int32) (x3 : Int32) (x4 : Int32) (x5 : Int32) (x6 : Int32) (x7 : Int32) (x8 : Int32) (r0 : Nat) (t0 : Int32) (t1 : Int32) (t2 : Int32) (z : ow_MS), fr (fun g => pr0 + 5001 ≤ g ∧ g ≤ pr0 + 5011 ∨ pr0 + 7001 ≤ g ∧ g ≤ pr0 + 7002) z0 z → (L = 0 ∨ L = 1 ∨ L = 2 ∨ L = 3 ∨ L = 4 ∨ L = 5 ∨ L = 6 ∨ L = 7 ∨ L = 8 ∨ L = 9 ∨ L = 10 → r0 = pr0) → Fo Prod.snd (fun g => pr0 + 5001 ≤ g ∧ g ≤ pr0 + 5011 ∨ pr0 + 7001 ≤ g ∧ g ≤ pr0 + 7002) z0 (go L x1 x2 x3 x4 x5 x6 x7 x8 r0 t0 t1 t2 z)) (hz : fr (fun g => pr0 + 5001 ≤ g ∧ g ≤ pr0 + 5011 ∨ pr0 + 7001 ≤ g ∧ g ≤ pr0 + 7002) z0 z) (e_r0 : r0 = pr0) : Fo Prod.snd (fun g => pr0 + 5001 ≤ g ∧ g ≤ pr0 + 5011 ∨ pr0 + 7001 ≤ g ∧ g ≤ pr0 + 7002) z0 (cm_X6_twoCome_0 vl K go x1 x2 x3 x4 x5 x6 x7 x8 r0 t0 t1 t2 z) := by
  unfold cm_X6_twoCome_0
  exact (fo_rdF (fun v1 => (fo_if (hgo 1 _ _ _ _ _ _ _ _ _ _ _ _ z hz (fun _ => by omega)) (hgo 1 _ _ _ _ _ _ _ _ _ _ _ _ z hz (fun _ => by omega)))))
theorem fb_X6_twoCome_1 {K : Nat} {vl : Nat → Nat} {z0 z : ow_MS} {pr0 : Nat} {go : Nat → Int32 → Int32 → Int32 → Int32 → Int32 → Int32 → Int32 → Int32 → Nat → Int32 → Int32 → Int32 → ow_MS → Option (Int32 × ow_MS)} {x1 : Int32} {x2 : Int32} {x3 : Int32} {x4 : Int32} {x5 : Int32} {x6 : Int32} {x7 : Int32} {x8 : Int32} {r0 : Nat} {t0 : Int32} {t1 : Int32} {t2 : Int32} (hgo : ∀ (L : Nat) (x1 : Int32) (x2 : Int32) (x3 : Int32) (x4 : Int32) (x5 : Int32) (x6 : Int32) (x7 : Int32) (x8 : Int32) (r0 : Nat) (t0 : Int32) (t1 : Int32) (t2 : Int32) (z : ow_MS), fr (fun g => pr0 + 5001 ≤ g ∧ g ≤ pr0 + 5011 ∨ pr0 + 7001 ≤ g ∧ g ≤ pr0 + 7002) z0 z → (L = 0 ∨ L = 1 ∨ L = 2 ∨ L = 3 ∨ L = 4 ∨ L = 5 ∨ L = 6 ∨ L = 7 ∨ L = 8 ∨ L = 9 ∨ L = 10 → r0 = pr0) → Fo Prod.snd (fun g => pr0 + 5001 ≤ g ∧ g ≤ pr0 + 5011 ∨ pr0 + 7001 ≤ g ∧ g ≤ pr0 + 7002) z0 (go L x1 x2 x3 x4 x5 x6 x7 x8 r0 t0 t1 t2 z)) (hz : fr (fun g => pr0 + 5001 ≤ g ∧ g ≤ pr0 + 5011 ∨ pr0 + 7001 ≤ g ∧ g ≤ pr0 + 7002) z0 z) (e_r0 : r0 = pr0) : Fo Prod.snd (fun g => pr0 + 5001 ≤ g ∧ g ≤ pr0 + 5011 ∨ pr0 + 7001 ≤ g ∧ g ≤ pr0 + 7002) z0 (cm_X6_twoCome_1 vl K go x1 x2 x3 x4 x5 x6 x7 x8 r0 t0 t1 t2 z) := by
  unfold cm_X6_twoCome_1
  exact (fo_if (hgo 2 _ _ _ _ _ _ _ _ _ _ _ _ z hz (fun _ => by omega)) (hgo 2 _ _ _ _ _ _ _ _ _ _ _ _ z hz (fun _ => by omega)))
theorem fb_X6_twoCome_2 {K : Nat} {vl : Nat → Nat} {z0 z : ow_MS} {pr0 : Nat} {go : Nat → Int32 → Int32 → Int32 → Int32 → Int32 → Int32 → Int32 → Int32 → Nat → Int32 → Int32 → Int32 → ow_MS → Option (Int32 × ow_MS)} {x1 : Int32} {x2 : Int32} {x3 : Int32} {x4 : Int32} {x5 : Int32} {x6 : Int32} {x7 : Int32} {x8 : Int32} {r0 : Nat} {t0 : Int32} {t1 : Int32} {t2 : Int32} (hgo : ∀ (L : Nat) (x1 : Int32) (x2 : Int32) (x3 : Int32) (x4 : Int32) (x5 : Int32) (x6 : Int32) (x7 : Int32) (x8 : Int32) (r0 : Nat) (t0 : Int32) (t1 : Int32) (t2 : Int32) (z : ow_MS), fr (fun g => pr0 + 5001 ≤ g ∧ g ≤ pr0 + 5011 ∨ pr0 + 7001 ≤ g ∧ g ≤ pr0 + 7002) z0 z → (L = 0 ∨ L = 1 ∨ L = 2 ∨ L = 3 ∨ L = 4 ∨ L = 5 ∨ L = 6 ∨ L = 7 ∨ L = 8 ∨ L = 9 ∨ L = 10 → r0 = pr0) → Fo Prod.snd (fun g => pr0 + 5001 ≤ g ∧ g ≤ pr0 + 5011 ∨ pr0 + 7001 ≤ g ∧ g ≤ pr0 + 7002) z0 (go L x1 x2 x3 x4 x5 x6 x7 x8 r0 t0 t1 t2 z)) (hz : fr (fun g => pr0 + 5001 ≤ g ∧ g ≤ pr0 + 5011 ∨ pr0 + 7001 ≤ g ∧ g ≤ pr0 + 7002) z0 z) (e_r0 : r0 = pr0) : Fo Prod.snd (fun g => pr0 + 5001 ≤ g ∧ g ≤ pr0 + 5011 ∨ pr0 + 7001 ≤ g ∧ g ≤ pr0 + 7002) z0 (cm_X6_twoCome_2 vl K go x1 x2 x3 x4 x5 x6 x7 x8 r0 t0 t1 t2 z) := by
  unfold cm_X6_twoCome_2
  exact (fo_rdF (fun v2 => (fo_if (fo_okZ (fo_some hz)) (fo_if (hgo 3 _ _ _ _ _ _ _ _ _ _ _ _ z hz (fun _ => by omega)) (fo_if (hgo 3 _ _ _ _ _ _ _ _ _ _ _ _ z hz (fun _ => by omega)) (fo_cs1 ff_X6_mayMeet (fun g hg => hg.elim) hz (fun v4 z3 h_z3 => (fo_if (fo_okZ (fo_some h_z3)) (hgo 3 _ _ _ _ _ _ _ _ _ _ _ _ z3 h_z3 (fun _ => by omega))))))))))
theorem fb_X6_twoCome_3 {K : Nat} {vl : Nat → Nat} {z0 z : ow_MS} {pr0 : Nat} {go : Nat → Int32 → Int32 → Int32 → Int32 → Int32 → Int32 → Int32 → Int32 → Nat → Int32 → Int32 → Int32 → ow_MS → Option (Int32 × ow_MS)} {x1 : Int32} {x2 : Int32} {x3 : Int32} {x4 : Int32} {x5 : Int32} {x6 : Int32} {x7 : Int32} {x8 : Int32} {r0 : Nat} {t0 : Int32} {t1 : Int32} {t2 : Int32} (hgo : ∀ (L : Nat) (x1 : Int32) (x2 : Int32) (x3 : Int32) (x4 : Int32) (x5 : Int32) (x6 : Int32) (x7 : Int32) (x8 : Int32) (r0 : Nat) (t0 : Int32) (t1 : Int32) (t2 : Int32) (z : ow_MS), fr (fun g => pr0 + 5001 ≤ g ∧ g ≤ pr0 + 5011 ∨ pr0 + 7001 ≤ g ∧ g ≤ pr0 + 7002) z0 z → (L = 0 ∨ L = 1 ∨ L = 2 ∨ L = 3 ∨ L = 4 ∨ L = 5 ∨ L = 6 ∨ L = 7 ∨ L = 8 ∨ L = 9 ∨ L = 10 → r0 = pr0) → Fo Prod.snd (fun g => pr0 + 5001 ≤ g ∧ g ≤ pr0 + 5011 ∨ pr0 + 7001 ≤ g ∧ g ≤ pr0 + 7002) z0 (go L x1 x2 x3 x4 x5 x6 x7 x8 r0 t0 t1 t2 z)) (hz : fr (fun g => pr0 + 5001 ≤ g ∧ g ≤ pr0 + 5011 ∨ pr0 + 7001 ≤ g ∧ g ≤ pr0 + 7002) z0 z) (e_r0 : r0 = pr0) : Fo Prod.snd (fun g => pr0 + 5001 ≤ g ∧ g ≤ pr0 + 5011 ∨ pr0 + 7001 ≤ g ∧ g ≤ pr0 + 7002) z0 (cm_X6_twoCome_3 vl K go x1 x2 x3 x4 x5 x6 x7 x8 r0 t0 t1 t2 z) := by
  unfold cm_X6_twoCome_3
  exact (fo_cs0 ff_X7_copy (fun g hg => by omega) hz (fun z5 h_z5 => (fo_rdF (fun v6 => (fo_wrF (by omega) h_z5 (fun z7 h_z7 => (fo_rdF (fun v8 => (fo_if (hgo 4 _ _ _ _ _ _ _ _ _ _ _ _ z7 h_z7 (fun _ => by omega)) (hgo 4 _ _ _ _ _ _ _ _ _ _ _ _ z7 h_z7 (fun _ => by omega)))))))))))
theorem fb_X6_twoCome_4 {K : Nat} {vl : Nat → Nat} {z0 z : ow_MS} {pr0 : Nat} {go : Nat → Int32 → Int32 → Int32 → Int32 → Int32 → Int32 → Int32 → Int32 → Nat → Int32 → Int32 → Int32 → ow_MS → Option (Int32 × ow_MS)} {x1 : Int32} {x2 : Int32} {x3 : Int32} {x4 : Int32} {x5 : Int32} {x6 : Int32} {x7 : Int32} {x8 : Int32} {r0 : Nat} {t0 : Int32} {t1 : Int32} {t2 : Int32} (hgo : ∀ (L : Nat) (x1 : Int32) (x2 : Int32) (x3 : Int32) (x4 : Int32) (x5 : Int32) (x6 : Int32) (x7 : Int32) (x8 : Int32) (r0 : Nat) (t0 : Int32) (t1 : Int32) (t2 : Int32) (z : ow_MS), fr (fun g => pr0 + 5001 ≤ g ∧ g ≤ pr0 + 5011 ∨ pr0 + 7001 ≤ g ∧ g ≤ pr0 + 7002) z0 z → (L = 0 ∨ L = 1 ∨ L = 2 ∨ L = 3 ∨ L = 4 ∨ L = 5 ∨ L = 6 ∨ L = 7 ∨ L = 8 ∨ L = 9 ∨ L = 10 → r0 = pr0) → Fo Prod.snd (fun g => pr0 + 5001 ≤ g ∧ g ≤ pr0 + 5011 ∨ pr0 + 7001 ≤ g ∧ g ≤ pr0 + 7002) z0 (go L x1 x2 x3 x4 x5 x6 x7 x8 r0 t0 t1 t2 z)) (hz : fr (fun g => pr0 + 5001 ≤ g ∧ g ≤ pr0 + 5011 ∨ pr0 + 7001 ≤ g ∧ g ≤ pr0 + 7002) z0 z) (e_r0 : r0 = pr0) : Fo Prod.snd (fun g => pr0 + 5001 ≤ g ∧ g ≤ pr0 + 5011 ∨ pr0 + 7001 ≤ g ∧ g ≤ pr0 + 7002) z0 (cm_X6_twoCome_4 vl K go x1 x2 x3 x4 x5 x6 x7 x8 r0 t0 t1 t2 z) := by
  unfold cm_X6_twoCome_4
  exact (fc_ctI (by omega) hz (fun z9 h_z9 => (fo_rdF (fun v10 => (fo_if (hgo 5 _ _ _ _ _ _ _ _ _ _ _ _ z9 h_z9 (fun _ => by omega)) (hgo 5 _ _ _ _ _ _ _ _ _ _ _ _ z9 h_z9 (fun _ => by omega)))))))
theorem fb_X6_twoCome_5 {K : Nat} {vl : Nat → Nat} {z0 z : ow_MS} {pr0 : Nat} {go : Nat → Int32 → Int32 → Int32 → Int32 → Int32 → Int32 → Int32 → Int32 → Nat → Int32 → Int32 → Int32 → ow_MS → Option (Int32 × ow_MS)} {x1 : Int32} {x2 : Int32} {x3 : Int32} {x4 : Int32} {x5 : Int32} {x6 : Int32} {x7 : Int32} {x8 : Int32} {r0 : Nat} {t0 : Int32} {t1 : Int32} {t2 : Int32} (hgo : ∀ (L : Nat) (x1 : Int32) (x2 : Int32) (x3 : Int32) (x4 : Int32) (x5 : Int32) (x6 : Int32) (x7 : Int32) (x8 : Int32) (r0 : Nat) (t0 : Int32) (t1 : Int32) (t2 : Int32) (z : ow_MS), fr (fun g => pr0 + 5001 ≤ g ∧ g ≤ pr0 + 5011 ∨ pr0 + 7001 ≤ g ∧ g ≤ pr0 + 7002) z0 z → (L = 0 ∨ L = 1 ∨ L = 2 ∨ L = 3 ∨ L = 4 ∨ L = 5 ∨ L = 6 ∨ L = 7 ∨ L = 8 ∨ L = 9 ∨ L = 10 → r0 = pr0) → Fo Prod.snd (fun g => pr0 + 5001 ≤ g ∧ g ≤ pr0 + 5011 ∨ pr0 + 7001 ≤ g ∧ g ≤ pr0 + 7002) z0 (go L x1 x2 x3 x4 x5 x6 x7 x8 r0 t0 t1 t2 z)) (hz : fr (fun g => pr0 + 5001 ≤ g ∧ g ≤ pr0 + 5011 ∨ pr0 + 7001 ≤ g ∧ g ≤ pr0 + 7002) z0 z) (e_r0 : r0 = pr0) : Fo Prod.snd (fun g => pr0 + 5001 ≤ g ∧ g ≤ pr0 + 5011 ∨ pr0 + 7001 ≤ g ∧ g ≤ pr0 + 7002) z0 (cm_X6_twoCome_5 vl K go x1 x2 x3 x4 x5 x6 x7 x8 r0 t0 t1 t2 z) := by
  unfold cm_X6_twoCome_5
  exact (fc_ctI (by omega) hz (fun z11 h_z11 => (fo_if (hgo 6 _ _ _ _ _ _ _ _ _ _ _ _ z11 h_z11 (fun _ => by omega)) (hgo 6 _ _ _ _ _ _ _ _ _ _ _ _ z11 h_z11 (fun _ => by omega)))))
theorem fb_X6_twoCome_6 {K : Nat} {vl : Nat → Nat} {z0 z : ow_MS} {pr0 : Nat} {go : Nat → Int32 → Int32 → Int32 → Int32 → Int32 → Int32 → Int32 → Int32 → Nat → Int32 → Int32 → Int32 → ow_MS → Option (Int32 × ow_MS)} {x1 : Int32} {x2 : Int32} {x3 : Int32} {x4 : Int32} {x5 : Int32} {x6 : Int32} {x7 : Int32} {x8 : Int32} {r0 : Nat} {t0 : Int32} {t1 : Int32} {t2 : Int32} (hgo : ∀ (L : Nat) (x1 : Int32) (x2 : Int32) (x3 : Int32) (x4 : Int32) (x5 : Int32) (x6 : Int32) (x7 : Int32) (x8 : Int32) (r0 : Nat) (t0 : Int32) (t1 : Int32) (t2 : Int32) (z : ow_MS), fr (fun g => pr0 + 5001 ≤ g ∧ g ≤ pr0 + 5011 ∨ pr0 + 7001 ≤ g ∧ g ≤ pr0 + 7002) z0 z → (L = 0 ∨ L = 1 ∨ L = 2 ∨ L = 3 ∨ L = 4 ∨ L = 5 ∨ L = 6 ∨ L = 7 ∨ L = 8 ∨ L = 9 ∨ L = 10 → r0 = pr0) → Fo Prod.snd (fun g => pr0 + 5001 ≤ g ∧ g ≤ pr0 + 5011 ∨ pr0 + 7001 ≤ g ∧ g ≤ pr0 + 7002) z0 (go L x1 x2 x3 x4 x5 x6 x7 x8 r0 t0 t1 t2 z)) (hz : fr (fun g => pr0 + 5001 ≤ g ∧ g ≤ pr0 + 5011 ∨ pr0 + 7001 ≤ g ∧ g ≤ pr0 + 7002) z0 z) (e_r0 : r0 = pr0) : Fo Prod.snd (fun g => pr0 + 5001 ≤ g ∧ g ≤ pr0 + 5011 ∨ pr0 + 7001 ≤ g ∧ g ≤ pr0 + 7002) z0 (cm_X6_twoCome_6 vl K go x1 x2 x3 x4 x5 x6 x7 x8 r0 t0 t1 t2 z) := by
  unfold cm_X6_twoCome_6
  exact (fo_cs0 ff_X6_placePair (fun g hg => by omega) hz (fun z12 h_z12 => (fo_if (hgo 7 _ _ _ _ _ _ _ _ _ _ _ _ z12 h_z12 (fun _ => by omega)) (hgo 7 _ _ _ _ _ _ _ _ _ _ _ _ z12 h_z12 (fun _ => by omega)))))
theorem fb_X6_twoCome_7 {K : Nat} {vl : Nat → Nat} {z0 z : ow_MS} {pr0 : Nat} {go : Nat → Int32 → Int32 → Int32 → Int32 → Int32 → Int32 → Int32 → Int32 → Nat → Int32 → Int32 → Int32 → ow_MS → Option (Int32 × ow_MS)} {x1 : Int32} {x2 : Int32} {x3 : Int32} {x4 : Int32} {x5 : Int32} {x6 : Int32} {x7 : Int32} {x8 : Int32} {r0 : Nat} {t0 : Int32} {t1 : Int32} {t2 : Int32} (hgo : ∀ (L : Nat) (x1 : Int32) (x2 : Int32) (x3 : Int32) (x4 : Int32) (x5 : Int32) (x6 : Int32) (x7 : Int32) (x8 : Int32) (r0 : Nat) (t0 : Int32) (t1 : Int32) (t2 : Int32) (z : ow_MS), fr (fun g => pr0 + 5001 ≤ g ∧ g ≤ pr0 + 5011 ∨ pr0 + 7001 ≤ g ∧ g ≤ pr0 + 7002) z0 z → (L = 0 ∨ L = 1 ∨ L = 2 ∨ L = 3 ∨ L = 4 ∨ L = 5 ∨ L = 6 ∨ L = 7 ∨ L = 8 ∨ L = 9 ∨ L = 10 → r0 = pr0) → Fo Prod.snd (fun g => pr0 + 5001 ≤ g ∧ g ≤ pr0 + 5011 ∨ pr0 + 7001 ≤ g ∧ g ≤ pr0 + 7002) z0 (go L x1 x2 x3 x4 x5 x6 x7 x8 r0 t0 t1 t2 z)) (hz : fr (fun g => pr0 + 5001 ≤ g ∧ g ≤ pr0 + 5011 ∨ pr0 + 7001 ≤ g ∧ g ≤ pr0 + 7002) z0 z) (e_r0 : r0 = pr0) : Fo Prod.snd (fun g => pr0 + 5001 ≤ g ∧ g ≤ pr0 + 5011 ∨ pr0 + 7001 ≤ g ∧ g ≤ pr0 + 7002) z0 (cm_X6_twoCome_7 vl K go x1 x2 x3 x4 x5 x6 x7 x8 r0 t0 t1 t2 z) := by
  unfold cm_X6_twoCome_7
  exact (fo_if (fo_if (hgo 8 _ _ _ _ _ _ _ _ _ _ _ _ z hz (fun _ => by omega)) (hgo 8 _ _ _ _ _ _ _ _ _ _ _ _ z hz (fun _ => by omega))) (hgo 8 _ _ _ _ _ _ _ _ _ _ _ _ z hz (fun _ => by omega)))
theorem fb_X6_twoCome_8 {K : Nat} {vl : Nat → Nat} {z0 z : ow_MS} {pr0 : Nat} {go : Nat → Int32 → Int32 → Int32 → Int32 → Int32 → Int32 → Int32 → Int32 → Nat → Int32 → Int32 → Int32 → ow_MS → Option (Int32 × ow_MS)} {x1 : Int32} {x2 : Int32} {x3 : Int32} {x4 : Int32} {x5 : Int32} {x6 : Int32} {x7 : Int32} {x8 : Int32} {r0 : Nat} {t0 : Int32} {t1 : Int32} {t2 : Int32} (hgo : ∀ (L : Nat) (x1 : Int32) (x2 : Int32) (x3 : Int32) (x4 : Int32) (x5 : Int32) (x6 : Int32) (x7 : Int32) (x8 : Int32) (r0 : Nat) (t0 : Int32) (t1 : Int32) (t2 : Int32) (z : ow_MS), fr (fun g => pr0 + 5001 ≤ g ∧ g ≤ pr0 + 5011 ∨ pr0 + 7001 ≤ g ∧ g ≤ pr0 + 7002) z0 z → (L = 0 ∨ L = 1 ∨ L = 2 ∨ L = 3 ∨ L = 4 ∨ L = 5 ∨ L = 6 ∨ L = 7 ∨ L = 8 ∨ L = 9 ∨ L = 10 → r0 = pr0) → Fo Prod.snd (fun g => pr0 + 5001 ≤ g ∧ g ≤ pr0 + 5011 ∨ pr0 + 7001 ≤ g ∧ g ≤ pr0 + 7002) z0 (go L x1 x2 x3 x4 x5 x6 x7 x8 r0 t0 t1 t2 z)) (hz : fr (fun g => pr0 + 5001 ≤ g ∧ g ≤ pr0 + 5011 ∨ pr0 + 7001 ≤ g ∧ g ≤ pr0 + 7002) z0 z) (e_r0 : r0 = pr0) : Fo Prod.snd (fun g => pr0 + 5001 ≤ g ∧ g ≤ pr0 + 5011 ∨ pr0 + 7001 ≤ g ∧ g ≤ pr0 + 7002) z0 (cm_X6_twoCome_8 vl K go x1 x2 x3 x4 x5 x6 x7 x8 r0 t0 t1 t2 z) := by
  unfold cm_X6_twoCome_8
  exact (fo_if (hgo 9 _ _ _ _ _ _ _ _ _ _ _ _ z hz (fun _ => by omega)) (hgo 9 _ _ _ _ _ _ _ _ _ _ _ _ z hz (fun _ => by omega)))
theorem fb_X6_twoCome_9 {K : Nat} {vl : Nat → Nat} {z0 z : ow_MS} {pr0 : Nat} {go : Nat → Int32 → Int32 → Int32 → Int32 → Int32 → Int32 → Int32 → Int32 → Nat → Int32 → Int32 → Int32 → ow_MS → Option (Int32 × ow_MS)} {x1 : Int32} {x2 : Int32} {x3 : Int32} {x4 : Int32} {x5 : Int32} {x6 : Int32} {x7 : Int32} {x8 : Int32} {r0 : Nat} {t0 : Int32} {t1 : Int32} {t2 : Int32} (hgo : ∀ (L : Nat) (x1 : Int32) (x2 : Int32) (x3 : Int32) (x4 : Int32) (x5 : Int32) (x6 : Int32) (x7 : Int32) (x8 : Int32) (r0 : Nat) (t0 : Int32) (t1 : Int32) (t2 : Int32) (z : ow_MS), fr (fun g => pr0 + 5001 ≤ g ∧ g ≤ pr0 + 5011 ∨ pr0 + 7001 ≤ g ∧ g ≤ pr0 + 7002) z0 z → (L = 0 ∨ L = 1 ∨ L = 2 ∨ L = 3 ∨ L = 4 ∨ L = 5 ∨ L = 6 ∨ L = 7 ∨ L = 8 ∨ L = 9 ∨ L = 10 → r0 = pr0) → Fo Prod.snd (fun g => pr0 + 5001 ≤ g ∧ g ≤ pr0 + 5011 ∨ pr0 + 7001 ≤ g ∧ g ≤ pr0 + 7002) z0 (go L x1 x2 x3 x4 x5 x6 x7 x8 r0 t0 t1 t2 z)) (hz : fr (fun g => pr0 + 5001 ≤ g ∧ g ≤ pr0 + 5011 ∨ pr0 + 7001 ≤ g ∧ g ≤ pr0 + 7002) z0 z) (e_r0 : r0 = pr0) : Fo Prod.snd (fun g => pr0 + 5001 ≤ g ∧ g ≤ pr0 + 5011 ∨ pr0 + 7001 ≤ g ∧ g ≤ pr0 + 7002) z0 (cm_X6_twoCome_9 vl K go x1 x2 x3 x4 x5 x6 x7 x8 r0 t0 t1 t2 z) := by
  unfold cm_X6_twoCome_9
  exact (fo_if (hgo 10 _ _ _ _ _ _ _ _ _ _ _ _ z hz (fun _ => by omega)) (hgo 10 _ _ _ _ _ _ _ _ _ _ _ _ z hz (fun _ => by omega)))
theorem fb_X6_twoCome_10 {K : Nat} {vl : Nat → Nat} {z0 z : ow_MS} {pr0 : Nat} {go : Nat → Int32 → Int32 → Int32 → Int32 → Int32 → Int32 → Int32 → Int32 → Nat → Int32 → Int32 → Int32 → ow_MS → Option (Int32 × ow_MS)} {x1 : Int32} {x2 : Int32} {x3 : Int32} {x4 : Int32} {x5 : Int32} {x6 : Int32} {x7 : Int32} {x8 : Int32} {r0 : Nat} {t0 : Int32} {t1 : Int32} {t2 : Int32} (hgo : ∀ (L : Nat) (x1 : Int32) (x2 : Int32) (x3 : Int32) (x4 : Int32) (x5 : Int32) (x6 : Int32) (x7 : Int32) (x8 : Int32) (r0 : Nat) (t0 : Int32) (t1 : Int32) (t2 : Int32) (z : ow_MS), fr (fun g => pr0 + 5001 ≤ g ∧ g ≤ pr0 + 5011 ∨ pr0 + 7001 ≤ g ∧ g ≤ pr0 + 7002) z0 z → (L = 0 ∨ L = 1 ∨ L = 2 ∨ L = 3 ∨ L = 4 ∨ L = 5 ∨ L = 6 ∨ L = 7 ∨ L = 8 ∨ L = 9 ∨ L = 10 → r0 = pr0) → Fo Prod.snd (fun g => pr0 + 5001 ≤ g ∧ g ≤ pr0 + 5011 ∨ pr0 + 7001 ≤ g ∧ g ≤ pr0 + 7002) z0 (go L x1 x2 x3 x4 x5 x6 x7 x8 r0 t0 t1 t2 z)) (hz : fr (fun g => pr0 + 5001 ≤ g ∧ g ≤ pr0 + 5011 ∨ pr0 + 7001 ≤ g ∧ g ≤ pr0 + 7002) z0 z) (e_r0 : r0 = pr0) : Fo Prod.snd (fun g => pr0 + 5001 ≤ g ∧ g ≤ pr0 + 5011 ∨ pr0 + 7001 ≤ g ∧ g ≤ pr0 + 7002) z0 (cm_X6_twoCome_10 vl K go x1 x2 x3 x4 x5 x6 x7 x8 r0 t0 t1 t2 z) := by
  unfold cm_X6_twoCome_10
  exact (fo_cs0 ff_X6_placePair (fun g hg => by omega) hz (fun z13 h_z13 => (fo_cs1 ff_X4_isPlane (fun g hg => by omega) h_z13 (fun v15 z14 h_z14 => (fo_okZ (fo_some h_z14))))))
theorem fq_X6_twoCome {K : Nat} {vl : Nat → Nat} {z0 : ow_MS} {pr0 : Nat} : ∀ (k L : Nat) (x1 : Int32) (x2 : Int32) (x3 : Int32) (x4 : Int32) (x5 : Int32) (x6 : Int32) (x7 : Int32) (x8 : Int32) (r0 : Nat) (t0 : Int32) (t1 : Int32) (t2 : Int32) (z : ow_MS), fr (fun g => pr0 + 5001 ≤ g ∧ g ≤ pr0 + 5011 ∨ pr0 + 7001 ≤ g ∧ g ≤ pr0 + 7002) z0 z → (L = 0 ∨ L = 1 ∨ L = 2 ∨ L = 3 ∨ L = 4 ∨ L = 5 ∨ L = 6 ∨ L = 7 ∨ L = 8 ∨ L = 9 ∨ L = 10 → r0 = pr0) → Fo Prod.snd (fun g => pr0 + 5001 ≤ g ∧ g ≤ pr0 + 5011 ∨ pr0 + 7001 ≤ g ∧ g ≤ pr0 + 7002) z0 (c_X6_twoCome vl K k L x1 x2 x3 x4 x5 x6 x7 x8 r0 t0 t1 t2 z)
  | 0 => by
    intros
    exact fo_none
  | k + 1 => by
    intro L x1 x2 x3 x4 x5 x6 x7 x8 r0 t0 t1 t2 z hz h9_r0
    show Fo Prod.snd (fun g => pr0 + 5001 ≤ g ∧ g ≤ pr0 + 5011 ∨ pr0 + 7001 ≤ g ∧ g ≤ pr0 + 7002) z0 (cb_X6_twoCome vl K (c_X6_twoCome vl K k) L x1 x2 x3 x4 x5 x6 x7 x8 r0 t0 t1 t2 z)
    unfold cb_X6_twoCome
    split
    · exact fb_X6_twoCome_0 (fq_X6_twoCome k) hz (h9_r0 (by decide))
    · exact fb_X6_twoCome_1 (fq_X6_twoCome k) hz (h9_r0 (by decide))
    · exact fb_X6_twoCome_2 (fq_X6_twoCome k) hz (h9_r0 (by decide))
    · exact fb_X6_twoCome_3 (fq_X6_twoCome k) hz (h9_r0 (by decide))
    · exact fb_X6_twoCome_4 (fq_X6_twoCome k) hz (h9_r0 (by decide))
    · exact fb_X6_twoCome_5 (fq_X6_twoCome k) hz (h9_r0 (by decide))
    · exact fb_X6_twoCome_6 (fq_X6_twoCome k) hz (h9_r0 (by decide))
    · exact fb_X6_twoCome_7 (fq_X6_twoCome k) hz (h9_r0 (by decide))
    · exact fb_X6_twoCome_8 (fq_X6_twoCome k) hz (h9_r0 (by decide))
    · exact fb_X6_twoCome_9 (fq_X6_twoCome k) hz (h9_r0 (by decide))
    · exact fb_X6_twoCome_10 (fq_X6_twoCome k) hz (h9_r0 (by decide))
    · exact fo_none
theorem ff_X6_twoCome {vl : Nat → Nat} {K : Nat} {r0 : Nat} {x1 : Int32} {x2 : Int32} {x3 : Int32} {z : ow_MS} : Fo Prod.snd (fun g => r0 + 5001 ≤ g ∧ g ≤ r0 + 5011 ∨ r0 + 7001 ≤ g ∧ g ≤ r0 + 7002) z (ce_X6_twoCome vl K r0 x1 x2 x3 z) := fq_X6_twoCome (pr0 := r0) K 0 _ _ _ _ _ _ _ _ _ _ _ _ z fr_rf (fun _ => rfl)
theorem ff_X6_make {vl : Nat → Nat} {K : Nat} {r0 : Nat} {x1 : Int32} {x2 : Int32} {z : ow_MS} : Fo Prod.snd (fun g => r0 + 5001 ≤ g ∧ g ≤ r0 + 5011 ∨ r0 + 7001 ≤ g ∧ g ≤ r0 + 7002) z (ce_X6_make vl K r0 x1 x2 z) := by
  unfold ce_X6_make cm_X6_make_0
  exact (fo_if (fo_cs1 ff_X6_threePass (fun g hg => by omega) fr_rf (fun v2 z1 h_z1 => (fo_okZ (fo_some h_z1)))) (fo_if (fo_cs1 ff_X6_oneGoes (fun g hg => by omega) fr_rf (fun v4 z3 h_z3 => (fo_okZ (fo_some h_z3)))) (fo_if (fo_cs1 ff_X6_oneComes (fun g hg => by omega) fr_rf (fun v6 z5 h_z5 => (fo_okZ (fo_some h_z5)))) (fo_if (fo_rdF (fun v7 => (fo_if (fo_okZ (fo_some fr_rf)) (fo_rdF (fun v8 => (fo_nzI (fo_rdF (fun v9 => (fo_nzI (fo_cs1 ff_X6_twoGo (fun g hg => by omega) fr_rf (fun v11 z10 h_z10 => (fo_if (fo_okZ (fo_some h_z10)) (fo_okZ (fo_some h_z10)))))))))))))) (fo_if (fo_rdF (fun v12 => (fo_nzI (fo_nzI (fo_cs1 ff_X6_twoCome (fun g hg => by omega) fr_rf (fun v14 z13 h_z13 => (fo_okZ (fo_some h_z13)))))))) fo_none)))))
theorem ff_X3_addNew {vl : Nat → Nat} {K : Nat} {r0 : Nat} {r1 : Nat} {x2 : Int32} {z : ow_MS} : Fo id (fun g => r0 + 1 ≤ g ∧ g ≤ r0 + 5) z (ce_X3_addNew vl K r0 r1 x2 z) := by
  unfold ce_X3_addNew cm_X3_addNew_0
  exact (fo_cs1 ff_X3_find (fun g hg => hg.elim) fr_rf (fun v2 z1 h_z1 => (fo_if (fo_some h_z1) (fo_cs0 ff_X3_insert (fun g hg => by omega) h_z1 (fun z3 h_z3 => (fo_some h_z3))))))
theorem fb_X6_collect_0 {K : Nat} {vl : Nat → Nat} {z0 z : ow_MS} {pr0 : Nat} {pr1 : Nat} {pr4 : Nat} {go : Nat → Int32 → Int32 → Int32 → Int32 → Nat → Nat → Nat → ow_MS → Option ow_MS} {x2 : Int32} {x3 : Int32} {x5 : Int32} {x6 : Int32} {r0 : Nat} {r1 : Nat} {r4 : Nat} (hgo : ∀ (L : Nat) (x2 : Int32) (x3 : Int32) (x5 : Int32) (x6 : Int32) (r0 : Nat) (r1 : Nat) (r4 : Nat) (z : ow_MS), fr (fun g => pr0 + 4001 ≤ g ∧ g ≤ pr0 + 4011 ∨ pr0 + 5001 ≤ g ∧ g ≤ pr0 + 5011 ∨ pr0 + 6001 ≤ g ∧ g ≤ pr0 + 6002 ∨ pr0 + 7001 ≤ g ∧ g ≤ pr0 + 7002 ∨ pr0 + 8004 ≤ g ∧ g ≤ pr0 + 8006 ∨ pr0 + 9001 ≤ g ∧ g ≤ pr0 + 9003 ∨ pr0 + 10001 ≤ g ∧ g ≤ pr0 + 10003 ∨ pr0 + 11001 ≤ g ∧ g ≤ pr0 + 11005 ∨ pr4 + 1 ≤ g ∧ g ≤ pr4 + 5) z0 z → (L = 0 ∨ L = 1 ∨ L = 2 ∨ L = 3 → r0 = pr0) → (L = 0 ∨ L = 1 ∨ L = 2 ∨ L = 3 → r1 = pr1) → (L = 0 ∨ L = 1 ∨ L = 2 ∨ L = 3 → r4 = pr4) → Fo id (fun g => pr0 + 4001 ≤ g ∧ g ≤ pr0 + 4011 ∨ pr0 + 5001 ≤ g ∧ g ≤ pr0 + 5011 ∨ pr0 + 6001 ≤ g ∧ g ≤ pr0 + 6002 ∨ pr0 + 7001 ≤ g ∧ g ≤ pr0 + 7002 ∨ pr0 + 8004 ≤ g ∧ g ≤ pr0 + 8006 ∨ pr0 + 9001 ≤ g ∧ g ≤ pr0 + 9003 ∨ pr0 + 10001 ≤ g ∧ g ≤ pr0 + 10003 ∨ pr0 + 11001 ≤ g ∧ g ≤ pr0 + 11005 ∨ pr4 + 1 ≤ g ∧ g ≤ pr4 + 5) z0 (go L x2 x3 x5 x6 r0 r1 r4 z)) (hz : fr (fun g => pr0 + 4001 ≤ g ∧ g ≤ pr0 + 4011 ∨ pr0 + 5001 ≤ g ∧ g ≤ pr0 + 5011 ∨ pr0 + 6001 ≤ g ∧ g ≤ pr0 + 6002 ∨ pr0 + 7001 ≤ g ∧ g ≤ pr0 + 7002 ∨ pr0 + 8004 ≤ g ∧ g ≤ pr0 + 8006 ∨ pr0 + 9001 ≤ g ∧ g ≤ pr0 + 9003 ∨ pr0 + 10001 ≤ g ∧ g ≤ pr0 + 10003 ∨ pr0 + 11001 ≤ g ∧ g ≤ pr0 + 11005 ∨ pr4 + 1 ≤ g ∧ g ≤ pr4 + 5) z0 z) (e_r0 : r0 = pr0) (e_r1 : r1 = pr1) (e_r4 : r4 = pr4) : Fo id (fun g => pr0 + 4001 ≤ g ∧ g ≤ pr0 + 4011 ∨ pr0 + 5001 ≤ g ∧ g ≤ pr0 + 5011 ∨ pr0 + 6001 ≤ g ∧ g ≤ pr0 + 6002 ∨ pr0 + 7001 ≤ g ∧ g ≤ pr0 + 7002 ∨ pr0 + 8004 ≤ g ∧ g ≤ pr0 + 8006 ∨ pr0 + 9001 ≤ g ∧ g ≤ pr0 + 9003 ∨ pr0 + 10001 ≤ g ∧ g ≤ pr0 + 10003 ∨ pr0 + 11001 ≤ g ∧ g ≤ pr0 + 11005 ∨ pr4 + 1 ≤ g ∧ g ≤ pr4 + 5) z0 (cm_X6_collect_0 vl K go x2 x3 x5 x6 r0 r1 r4 z) := by
  unfold cm_X6_collect_0
  exact (fo_cs0 ff_X7_load (fun g hg => by omega) hz (fun z1 h_z1 => (fo_if (fo_cs0 ff_X7_markParts (fun g hg => by omega) h_z1 (fun z2 h_z2 => (fo_cs0 ff_X4_mark (fun g hg => by omega) h_z2 (fun z3 h_z3 => (hgo 1 _ _ _ _ _ _ _ z3 h_z3 (fun _ => by omega) (fun _ => by omega) (fun _ => by omega)))))) (hgo 1 _ _ _ _ _ _ _ z1 h_z1 (fun _ => by omega) (fun _ => by omega) (fun _ => by omega)))))
theorem fb_X6_collect_1 {K : Nat} {vl : Nat → Nat} {z0 z : ow_MS} {pr0 : Nat} {pr1 : Nat} {pr4 : Nat} {go : Nat → Int32 → Int32 → Int32 → Int32 → Nat → Nat → Nat → ow_MS → Option ow_MS} {x2 : Int32} {x3 : Int32} {x5 : Int32} {x6 : Int32} {r0 : Nat} {r1 : Nat} {r4 : Nat} (hgo : ∀ (L : Nat) (x2 : Int32) (x3 : Int32) (x5 : Int32) (x6 : Int32) (r0 : Nat) (r1 : Nat) (r4 : Nat) (z : ow_MS), fr (fun g => pr0 + 4001 ≤ g ∧ g ≤ pr0 + 4011 ∨ pr0 + 5001 ≤ g ∧ g ≤ pr0 + 5011 ∨ pr0 + 6001 ≤ g ∧ g ≤ pr0 + 6002 ∨ pr0 + 7001 ≤ g ∧ g ≤ pr0 + 7002 ∨ pr0 + 8004 ≤ g ∧ g ≤ pr0 + 8006 ∨ pr0 + 9001 ≤ g ∧ g ≤ pr0 + 9003 ∨ pr0 + 10001 ≤ g ∧ g ≤ pr0 + 10003 ∨ pr0 + 11001 ≤ g ∧ g ≤ pr0 + 11005 ∨ pr4 + 1 ≤ g ∧ g ≤ pr4 + 5) z0 z → (L = 0 ∨ L = 1 ∨ L = 2 ∨ L = 3 → r0 = pr0) → (L = 0 ∨ L = 1 ∨ L = 2 ∨ L = 3 → r1 = pr1) → (L = 0 ∨ L = 1 ∨ L = 2 ∨ L = 3 → r4 = pr4) → Fo id (fun g => pr0 + 4001 ≤ g ∧ g ≤ pr0 + 4011 ∨ pr0 + 5001 ≤ g ∧ g ≤ pr0 + 5011 ∨ pr0 + 6001 ≤ g ∧ g ≤ pr0 + 6002 ∨ pr0 + 7001 ≤ g ∧ g ≤ pr0 + 7002 ∨ pr0 + 8004 ≤ g ∧ g ≤ pr0 + 8006 ∨ pr0 + 9001 ≤ g ∧ g ≤ pr0 + 9003 ∨ pr0 + 10001 ≤ g ∧ g ≤ pr0 + 10003 ∨ pr0 + 11001 ≤ g ∧ g ≤ pr0 + 11005 ∨ pr4 + 1 ≤ g ∧ g ≤ pr4 + 5) z0 (go L x2 x3 x5 x6 r0 r1 r4 z)) (hz : fr (fun g => pr0 + 4001 ≤ g ∧ g ≤ pr0 + 4011 ∨ pr0 + 5001 ≤ g ∧ g ≤ pr0 + 5011 ∨ pr0 + 6001 ≤ g ∧ g ≤ pr0 + 6002 ∨ pr0 + 7001 ≤ g ∧ g ≤ pr0 + 7002 ∨ pr0 + 8004 ≤ g ∧ g ≤ pr0 + 8006 ∨ pr0 + 9001 ≤ g ∧ g ≤ pr0 + 9003 ∨ pr0 + 10001 ≤ g ∧ g ≤ pr0 + 10003 ∨ pr0 + 11001 ≤ g ∧ g ≤ pr0 + 11005 ∨ pr4 + 1 ≤ g ∧ g ≤ pr4 + 5) z0 z) (e_r0 : r0 = pr0) (e_r1 : r1 = pr1) (e_r4 : r4 = pr4) : Fo id (fun g => pr0 + 4001 ≤ g ∧ g ≤ pr0 + 4011 ∨ pr0 + 5001 ≤ g ∧ g ≤ pr0 + 5011 ∨ pr0 + 6001 ≤ g ∧ g ≤ pr0 + 6002 ∨ pr0 + 7001 ≤ g ∧ g ≤ pr0 + 7002 ∨ pr0 + 8004 ≤ g ∧ g ≤ pr0 + 8006 ∨ pr0 + 9001 ≤ g ∧ g ≤ pr0 + 9003 ∨ pr0 + 10001 ≤ g ∧ g ≤ pr0 + 10003 ∨ pr0 + 11001 ≤ g ∧ g ≤ pr0 + 11005 ∨ pr4 + 1 ≤ g ∧ g ≤ pr4 + 5) z0 (cm_X6_collect_1 vl K go x2 x3 x5 x6 r0 r1 r4 z) := by
  unfold cm_X6_collect_1
  exact (fo_cs1 ff_X6_countNumbers (fun g hg => hg.elim) hz (fun v5 z4 h_z4 => (hgo 2 _ _ _ _ _ _ _ z4 h_z4 (fun _ => by omega) (fun _ => by omega) (fun _ => by omega))))
theorem fb_X6_collect_2 {K : Nat} {vl : Nat → Nat} {z0 z : ow_MS} {pr0 : Nat} {pr1 : Nat} {pr4 : Nat} {go : Nat → Int32 → Int32 → Int32 → Int32 → Nat → Nat → Nat → ow_MS → Option ow_MS} {x2 : Int32} {x3 : Int32} {x5 : Int32} {x6 : Int32} {r0 : Nat} {r1 : Nat} {r4 : Nat} (hgo : ∀ (L : Nat) (x2 : Int32) (x3 : Int32) (x5 : Int32) (x6 : Int32) (r0 : Nat) (r1 : Nat) (r4 : Nat) (z : ow_MS), fr (fun g => pr0 + 4001 ≤ g ∧ g ≤ pr0 + 4011 ∨ pr0 + 5001 ≤ g ∧ g ≤ pr0 + 5011 ∨ pr0 + 6001 ≤ g ∧ g ≤ pr0 + 6002 ∨ pr0 + 7001 ≤ g ∧ g ≤ pr0 + 7002 ∨ pr0 + 8004 ≤ g ∧ g ≤ pr0 + 8006 ∨ pr0 + 9001 ≤ g ∧ g ≤ pr0 + 9003 ∨ pr0 + 10001 ≤ g ∧ g ≤ pr0 + 10003 ∨ pr0 + 11001 ≤ g ∧ g ≤ pr0 + 11005 ∨ pr4 + 1 ≤ g ∧ g ≤ pr4 + 5) z0 z → (L = 0 ∨ L = 1 ∨ L = 2 ∨ L = 3 → r0 = pr0) → (L = 0 ∨ L = 1 ∨ L = 2 ∨ L = 3 → r1 = pr1) → (L = 0 ∨ L = 1 ∨ L = 2 ∨ L = 3 → r4 = pr4) → Fo id (fun g => pr0 + 4001 ≤ g ∧ g ≤ pr0 + 4011 ∨ pr0 + 5001 ≤ g ∧ g ≤ pr0 + 5011 ∨ pr0 + 6001 ≤ g ∧ g ≤ pr0 + 6002 ∨ pr0 + 7001 ≤ g ∧ g ≤ pr0 + 7002 ∨ pr0 + 8004 ≤ g ∧ g ≤ pr0 + 8006 ∨ pr0 + 9001 ≤ g ∧ g ≤ pr0 + 9003 ∨ pr0 + 10001 ≤ g ∧ g ≤ pr0 + 10003 ∨ pr0 + 11001 ≤ g ∧ g ≤ pr0 + 11005 ∨ pr4 + 1 ≤ g ∧ g ≤ pr4 + 5) z0 (go L x2 x3 x5 x6 r0 r1 r4 z)) (hz : fr (fun g => pr0 + 4001 ≤ g ∧ g ≤ pr0 + 4011 ∨ pr0 + 5001 ≤ g ∧ g ≤ pr0 + 5011 ∨ pr0 + 6001 ≤ g ∧ g ≤ pr0 + 6002 ∨ pr0 + 7001 ≤ g ∧ g ≤ pr0 + 7002 ∨ pr0 + 8004 ≤ g ∧ g ≤ pr0 + 8006 ∨ pr0 + 9001 ≤ g ∧ g ≤ pr0 + 9003 ∨ pr0 + 10001 ≤ g ∧ g ≤ pr0 + 10003 ∨ pr0 + 11001 ≤ g ∧ g ≤ pr0 + 11005 ∨ pr4 + 1 ≤ g ∧ g ≤ pr4 + 5) z0 z) (e_r0 : r0 = pr0) (e_r1 : r1 = pr1) (e_r4 : r4 = pr4) : Fo id (fun g => pr0 + 4001 ≤ g ∧ g ≤ pr0 + 4011 ∨ pr0 + 5001 ≤ g ∧ g ≤ pr0 + 5011 ∨ pr0 + 6001 ≤ g ∧ g ≤ pr0 + 6002 ∨ pr0 + 7001 ≤ g ∧ g ≤ pr0 + 7002 ∨ pr0 + 8004 ≤ g ∧ g ≤ pr0 + 8006 ∨ pr0 + 9001 ≤ g ∧ g ≤ pr0 + 9003 ∨ pr0 + 10001 ≤ g ∧ g ≤ pr0 + 10003 ∨ pr0 + 11001 ≤ g ∧ g ≤ pr0 + 11005 ∨ pr4 + 1 ≤ g ∧ g ≤ pr4 + 5) z0 (cm_X6_collect_2 vl K go x2 x3 x5 x6 r0 r1 r4 z) := by
  unfold cm_X6_collect_2
  exact (fo_if (fo_some hz) (fo_cs1 ff_X6_make (fun g hg => by omega) hz (fun v7 z6 h_z6 => (fo_if (hgo 3 _ _ _ _ _ _ _ z6 h_z6 (fun _ => by omega) (fun _ => by omega) (fun _ => by omega)) (fo_cs0 ff_X2_encode (fun g hg => by omega) h_z6 (fun z8 h_z8 => (fo_cs0 ff_X3_addNew (fun g hg => by omega) h_z8 (fun z9 h_z9 => (hgo 3 _ _ _ _ _ _ _ z9 h_z9 (fun _ => by omega) (fun _ => by omega) (fun _ => by omega))))))))))
theorem fb_X6_collect_3 {K : Nat} {vl : Nat → Nat} {z0 z : ow_MS} {pr0 : Nat} {pr1 : Nat} {pr4 : Nat} {go : Nat → Int32 → Int32 → Int32 → Int32 → Nat → Nat → Nat → ow_MS → Option ow_MS} {x2 : Int32} {x3 : Int32} {x5 : Int32} {x6 : Int32} {r0 : Nat} {r1 : Nat} {r4 : Nat} (hgo : ∀ (L : Nat) (x2 : Int32) (x3 : Int32) (x5 : Int32) (x6 : Int32) (r0 : Nat) (r1 : Nat) (r4 : Nat) (z : ow_MS), fr (fun g => pr0 + 4001 ≤ g ∧ g ≤ pr0 + 4011 ∨ pr0 + 5001 ≤ g ∧ g ≤ pr0 + 5011 ∨ pr0 + 6001 ≤ g ∧ g ≤ pr0 + 6002 ∨ pr0 + 7001 ≤ g ∧ g ≤ pr0 + 7002 ∨ pr0 + 8004 ≤ g ∧ g ≤ pr0 + 8006 ∨ pr0 + 9001 ≤ g ∧ g ≤ pr0 + 9003 ∨ pr0 + 10001 ≤ g ∧ g ≤ pr0 + 10003 ∨ pr0 + 11001 ≤ g ∧ g ≤ pr0 + 11005 ∨ pr4 + 1 ≤ g ∧ g ≤ pr4 + 5) z0 z → (L = 0 ∨ L = 1 ∨ L = 2 ∨ L = 3 → r0 = pr0) → (L = 0 ∨ L = 1 ∨ L = 2 ∨ L = 3 → r1 = pr1) → (L = 0 ∨ L = 1 ∨ L = 2 ∨ L = 3 → r4 = pr4) → Fo id (fun g => pr0 + 4001 ≤ g ∧ g ≤ pr0 + 4011 ∨ pr0 + 5001 ≤ g ∧ g ≤ pr0 + 5011 ∨ pr0 + 6001 ≤ g ∧ g ≤ pr0 + 6002 ∨ pr0 + 7001 ≤ g ∧ g ≤ pr0 + 7002 ∨ pr0 + 8004 ≤ g ∧ g ≤ pr0 + 8006 ∨ pr0 + 9001 ≤ g ∧ g ≤ pr0 + 9003 ∨ pr0 + 10001 ≤ g ∧ g ≤ pr0 + 10003 ∨ pr0 + 11001 ≤ g ∧ g ≤ pr0 + 11005 ∨ pr4 + 1 ≤ g ∧ g ≤ pr4 + 5) z0 (go L x2 x3 x5 x6 r0 r1 r4 z)) (hz : fr (fun g => pr0 + 4001 ≤ g ∧ g ≤ pr0 + 4011 ∨ pr0 + 5001 ≤ g ∧ g ≤ pr0 + 5011 ∨ pr0 + 6001 ≤ g ∧ g ≤ pr0 + 6002 ∨ pr0 + 7001 ≤ g ∧ g ≤ pr0 + 7002 ∨ pr0 + 8004 ≤ g ∧ g ≤ pr0 + 8006 ∨ pr0 + 9001 ≤ g ∧ g ≤ pr0 + 9003 ∨ pr0 + 10001 ≤ g ∧ g ≤ pr0 + 10003 ∨ pr0 + 11001 ≤ g ∧ g ≤ pr0 + 11005 ∨ pr4 + 1 ≤ g ∧ g ≤ pr4 + 5) z0 z) (e_r0 : r0 = pr0) (e_r1 : r1 = pr1) (e_r4 : r4 = pr4) : Fo id (fun g => pr0 + 4001 ≤ g ∧ g ≤ pr0 + 4011 ∨ pr0 + 5001 ≤ g ∧ g ≤ pr0 + 5011 ∨ pr0 + 6001 ≤ g ∧ g ≤ pr0 + 6002 ∨ pr0 + 7001 ≤ g ∧ g ≤ pr0 + 7002 ∨ pr0 + 8004 ≤ g ∧ g ≤ pr0 + 8006 ∨ pr0 + 9001 ≤ g ∧ g ≤ pr0 + 9003 ∨ pr0 + 10001 ≤ g ∧ g ≤ pr0 + 10003 ∨ pr0 + 11001 ≤ g ∧ g ≤ pr0 + 11005 ∨ pr4 + 1 ≤ g ∧ g ≤ pr4 + 5) z0 (cm_X6_collect_3 vl K go x2 x3 x5 x6 r0 r1 r4 z) := by
  unfold cm_X6_collect_3
  exact (hgo 2 _ _ _ _ _ _ _ z hz (fun _ => by omega) (fun _ => by omega) (fun _ => by omega))
theorem fq_X6_collect {K : Nat} {vl : Nat → Nat} {z0 : ow_MS} {pr0 : Nat} {pr1 : Nat} {pr4 : Nat} : ∀ (k L : Nat) (x2 : Int32) (x3 : Int32) (x5 : Int32) (x6 : Int32) (r0 : Nat) (r1 : Nat) (r4 : Nat) (z : ow_MS), fr (fun g => pr0 + 4001 ≤ g ∧ g ≤ pr0 + 4011 ∨ pr0 + 5001 ≤ g ∧ g ≤ pr0 + 5011 ∨ pr0 + 6001 ≤ g ∧ g ≤ pr0 + 6002 ∨ pr0 + 7001 ≤ g ∧ g ≤ pr0 + 7002 ∨ pr0 + 8004 ≤ g ∧ g ≤ pr0 + 8006 ∨ pr0 + 9001 ≤ g ∧ g ≤ pr0 + 9003 ∨ pr0 + 10001 ≤ g ∧ g ≤ pr0 + 10003 ∨ pr0 + 11001 ≤ g ∧ g ≤ pr0 + 11005 ∨ pr4 + 1 ≤ g ∧ g ≤ pr4 + 5) z0 z → (L = 0 ∨ L = 1 ∨ L = 2 ∨ L = 3 → r0 = pr0) → (L = 0 ∨ L = 1 ∨ L = 2 ∨ L = 3 → r1 = pr1) → (L = 0 ∨ L = 1 ∨ L = 2 ∨ L = 3 → r4 = pr4) → Fo id (fun g => pr0 + 4001 ≤ g ∧ g ≤ pr0 + 4011 ∨ pr0 + 5001 ≤ g ∧ g ≤ pr0 + 5011 ∨ pr0 + 6001 ≤ g ∧ g ≤ pr0 + 6002 ∨ pr0 + 7001 ≤ g ∧ g ≤ pr0 + 7002 ∨ pr0 + 8004 ≤ g ∧ g ≤ pr0 + 8006 ∨ pr0 + 9001 ≤ g ∧ g ≤ pr0 + 9003 ∨ pr0 + 10001 ≤ g ∧ g ≤ pr0 + 10003 ∨ pr0 + 11001 ≤ g ∧ g ≤ pr0 + 11005 ∨ pr4 + 1 ≤ g ∧ g ≤ pr4 + 5) z0 (c_X6_collect vl K k L x2 x3 x5 x6 r0 r1 r4 z)
  | 0 => by
    intros
    exact fo_none
  | k + 1 => by
    intro L x2 x3 x5 x6 r0 r1 r4 z hz h9_r0 h9_r1 h9_r4
    show Fo id (fun g => pr0 + 4001 ≤ g ∧ g ≤ pr0 + 4011 ∨ pr0 + 5001 ≤ g ∧ g ≤ pr0 + 5011 ∨ pr0 + 6001 ≤ g ∧ g ≤ pr0 + 6002 ∨ pr0 + 7001 ≤ g ∧ g ≤ pr0 + 7002 ∨ pr0 + 8004 ≤ g ∧ g ≤ pr0 + 8006 ∨ pr0 + 9001 ≤ g ∧ g ≤ pr0 + 9003 ∨ pr0 + 10001 ≤ g ∧ g ≤ pr0 + 10003 ∨ pr0 + 11001 ≤ g ∧ g ≤ pr0 + 11005 ∨ pr4 + 1 ≤ g ∧ g ≤ pr4 + 5) z0 (cb_X6_collect vl K (c_X6_collect vl K k) L x2 x3 x5 x6 r0 r1 r4 z)
    unfold cb_X6_collect
    split
    · exact fb_X6_collect_0 (fq_X6_collect k) hz (h9_r0 (by decide)) (h9_r1 (by decide)) (h9_r4 (by decide))
    · exact fb_X6_collect_1 (fq_X6_collect k) hz (h9_r0 (by decide)) (h9_r1 (by decide)) (h9_r4 (by decide))
    · exact fb_X6_collect_2 (fq_X6_collect k) hz (h9_r0 (by decide)) (h9_r1 (by decide)) (h9_r4 (by decide))
    · exact fb_X6_collect_3 (fq_X6_collect k) hz (h9_r0 (by decide)) (h9_r1 (by decide)) (h9_r4 (by decide))
    · exact fo_none
theorem ff_X6_collect {vl : Nat → Nat} {K : Nat} {r0 : Nat} {r1 : Nat} {x2 : Int32} {x3 : Int32} {r4 : Nat} {z : ow_MS} : Fo id (fun g => r0 + 4001 ≤ g ∧ g ≤ r0 + 4011 ∨ r0 + 5001 ≤ g ∧ g ≤ r0 + 5011 ∨ r0 + 6001 ≤ g ∧ g ≤ r0 + 6002 ∨ r0 + 7001 ≤ g ∧ g ≤ r0 + 7002 ∨ r0 + 8004 ≤ g ∧ g ≤ r0 + 8006 ∨ r0 + 9001 ≤ g ∧ g ≤ r0 + 9003 ∨ r0 + 10001 ≤ g ∧ g ≤ r0 + 10003 ∨ r0 + 11001 ≤ g ∧ g ≤ r0 + 11005 ∨ r4 + 1 ≤ g ∧ g ≤ r4 + 5) z (ce_X6_collect vl K r0 r1 x2 x3 r4 z) := fq_X6_collect (pr0 := r0) (pr1 := r1) (pr4 := r4) K 0 _ _ _ _ _ _ _ z fr_rf (fun _ => rfl) (fun _ => rfl) (fun _ => rfl)
theorem ff_X11_moves {vl : Nat → Nat} {K : Nat} {r0 : Nat} {x1 : Int32} {x2 : Int32} {z : ow_MS} : Fo (fun r => r.2.2) (fun g => r0 + 2001 ≤ g ∧ g ≤ r0 + 2005 ∨ r0 + 16001 ≤ g ∧ g ≤ r0 + 16011 ∨ r0 + 17001 ≤ g ∧ g ≤ r0 + 17011 ∨ r0 + 18001 ≤ g ∧ g ≤ r0 + 18002 ∨ r0 + 19001 ≤ g ∧ g ≤ r0 + 19002 ∨ r0 + 20004 ≤ g ∧ g ≤ r0 + 20006 ∨ r0 + 21001 ≤ g ∧ g ≤ r0 + 21003 ∨ r0 + 22001 ≤ g ∧ g ≤ r0 + 22003 ∨ r0 + 23001 ≤ g ∧ g ≤ r0 + 23005) z (ce_X11_moves vl K r0 x1 x2 z) := by
  unfold ce_X11_moves cm_X11_moves_0
  exact (fc_tc0 ff_X11_needDiagram (fun g hg => hg.elim) fr_rf (fun k z h_e => (fo_some h_e)) (fun z1 h_z1 => (fo_if (fo_some h_z1) (fo_if (fo_wrF (by omega) h_z1 (fun z3 h_z3 => (fo_cs0 ff_X6_collect (fun g hg => by omega) h_z3 (fun z4 h_z4 => (fo_rdF (fun v5 => (fo_some h_z4))))))) (fo_some h_z1)))))
theorem ff_X11_copyOut {vl : Nat → Nat} {K : Nat} {r0 : Nat} {r1 : Nat} {x2 : Int32} {z : ow_MS} : Fo (fun r => r.2.2) (fun g => r0 + 1001 ≤ g ∧ g ≤ r0 + 1003) z (ce_X11_copyOut vl K r0 r1 x2 z) := by
  unfold ce_X11_copyOut cm_X11_copyOut_0
  exact (fo_if (fo_some fr_rf) (fo_rdF (fun v1 => (fo_if (fc_tc1 ff_X11_freeDiagram (fun g hg => hg.elim) fr_rf (fun k z h_e => (fo_some h_e)) (fun v4 z2 h_z2 => (fc_crI (fun v5 => (fo_cs0 ff_X3_write (fun g hg => by omega) h_z2 (fun z6 h_z6 => (fo_some h_z6))))))) (fo_some fr_rf)))))
theorem ff_X11_moved {vl : Nat → Nat} {K : Nat} {r0 : Nat} {x1 : Int32} {z : ow_MS} : Fo (fun r => r.2.2) (fun g => r0 + 1001 ≤ g ∧ g ≤ r0 + 1003) z (ce_X11_moved vl K r0 x1 z) := by
  unfold ce_X11_moved cm_X11_moved_0
  exact (fc_tc1 ff_X11_copyOut (fun g hg => by omega) fr_rf (fun k z h_e => (fo_some h_e)) (fun v3 z1 h_z1 => (fo_some h_z1)))
theorem fb_X6_reach_0 {K : Nat} {vl : Nat → Nat} {z0 z : ow_MS} {pr0 : Nat} {pr1 : Nat} {go : Nat → Int32 → Int32 → Nat → Nat → ow_MS → Option ow_MS} {x2 : Int32} {x3 : Int32} {r0 : Nat} {r1 : Nat} (hgo : ∀ (L : Nat) (x2 : Int32) (x3 : Int32) (r0 : Nat) (r1 : Nat) (z : ow_MS), fr (fun g => pr0 + 1001 ≤ g ∧ g ≤ pr0 + 1005 ∨ pr0 + 4001 ≤ g ∧ g ≤ pr0 + 4011 ∨ pr0 + 5001 ≤ g ∧ g ≤ pr0 + 5011 ∨ pr0 + 6001 ≤ g ∧ g ≤ pr0 + 6002 ∨ pr0 + 7001 ≤ g ∧ g ≤ pr0 + 7002 ∨ pr0 + 8004 ≤ g ∧ g ≤ pr0 + 8006 ∨ pr0 + 9001 ≤ g ∧ g ≤ pr0 + 9003 ∨ pr0 + 10001 ≤ g ∧ g ≤ pr0 + 10003 ∨ pr0 + 11001 ≤ g ∧ g ≤ pr0 + 11005) z0 z → (L = 0 ∨ L = 1 → r0 = pr0) → (L = 0 ∨ L = 1 → r1 = pr1) → Fo id (fun g => pr0 + 1001 ≤ g ∧ g ≤ pr0 + 1005 ∨ pr0 + 4001 ≤ g ∧ g ≤ pr0 + 4011 ∨ pr0 + 5001 ≤ g ∧ g ≤ pr0 + 5011 ∨ pr0 + 6001 ≤ g ∧ g ≤ pr0 + 6002 ∨ pr0 + 7001 ≤ g ∧ g ≤ pr0 + 7002 ∨ pr0 + 8004 ≤ g ∧ g ≤ pr0 + 8006 ∨ pr0 + 9001 ≤ g ∧ g ≤ pr0 + 9003 ∨ pr0 + 10001 ≤ g ∧ g ≤ pr0 + 10003 ∨ pr0 + 11001 ≤ g ∧ g ≤ pr0 + 11005) z0 (go L x2 x3 r0 r1 z)) (hz : fr (fun g => pr0 + 1001 ≤ g ∧ g ≤ pr0 + 1005 ∨ pr0 + 4001 ≤ g ∧ g ≤ pr0 + 4011 ∨ pr0 + 5001 ≤ g ∧ g ≤ pr0 + 5011 ∨ pr0 + 6001 ≤ g ∧ g ≤ pr0 + 6002 ∨ pr0 + 7001 ≤ g ∧ g ≤ pr0 + 7002 ∨ pr0 + 8004 ≤ g ∧ g ≤ pr0 + 8006 ∨ pr0 + 9001 ≤ g ∧ g ≤ pr0 + 9003 ∨ pr0 + 10001 ≤ g ∧ g ≤ pr0 + 10003 ∨ pr0 + 11001 ≤ g ∧ g ≤ pr0 + 11005) z0 z) (e_r0 : r0 = pr0) (e_r1 : r1 = pr1) : Fo id (fun g => pr0 + 1001 ≤ g ∧ g ≤ pr0 + 1005 ∨ pr0 + 4001 ≤ g ∧ g ≤ pr0 + 4011 ∨ pr0 + 5001 ≤ g ∧ g ≤ pr0 + 5011 ∨ pr0 + 6001 ≤ g ∧ g ≤ pr0 + 6002 ∨ pr0 + 7001 ≤ g ∧ g ≤ pr0 + 7002 ∨ pr0 + 8004 ≤ g ∧ g ≤ pr0 + 8006 ∨ pr0 + 9001 ≤ g ∧ g ≤ pr0 + 9003 ∨ pr0 + 10001 ≤ g ∧ g ≤ pr0 + 10003 ∨ pr0 + 11001 ≤ g ∧ g ≤ pr0 + 11005) z0 (cm_X6_reach_0 vl K go x2 x3 r0 r1 z) := by
  unfold cm_X6_reach_0
  exact (fo_wrF (by omega) hz (fun z1 h_z1 => (fo_cs0 ff_X3_addNew (fun g hg => by omega) h_z1 (fun z2 h_z2 => (hgo 1 _ _ _ _ z2 h_z2 (fun _ => by omega) (fun _ => by omega))))))
theorem fb_X6_reach_1 {K : Nat} {vl : Nat → Nat} {z0 z : ow_MS} {pr0 : Nat} {pr1 : Nat} {go : Nat → Int32 → Int32 → Nat → Nat → ow_MS → Option ow_MS} {x2 : Int32} {x3 : Int32} {r0 : Nat} {r1 : Nat} (hgo : ∀ (L : Nat) (x2 : Int32) (x3 : Int32) (r0 : Nat) (r1 : Nat) (z : ow_MS), fr (fun g => pr0 + 1001 ≤ g ∧ g ≤ pr0 + 1005 ∨ pr0 + 4001 ≤ g ∧ g ≤ pr0 + 4011 ∨ pr0 + 5001 ≤ g ∧ g ≤ pr0 + 5011 ∨ pr0 + 6001 ≤ g ∧ g ≤ pr0 + 6002 ∨ pr0 + 7001 ≤ g ∧ g ≤ pr0 + 7002 ∨ pr0 + 8004 ≤ g ∧ g ≤ pr0 + 8006 ∨ pr0 + 9001 ≤ g ∧ g ≤ pr0 + 9003 ∨ pr0 + 10001 ≤ g ∧ g ≤ pr0 + 10003 ∨ pr0 + 11001 ≤ g ∧ g ≤ pr0 + 11005) z0 z → (L = 0 ∨ L = 1 → r0 = pr0) → (L = 0 ∨ L = 1 → r1 = pr1) → Fo id (fun g => pr0 + 1001 ≤ g ∧ g ≤ pr0 + 1005 ∨ pr0 + 4001 ≤ g ∧ g ≤ pr0 + 4011 ∨ pr0 + 5001 ≤ g ∧ g ≤ pr0 + 5011 ∨ pr0 + 6001 ≤ g ∧ g ≤ pr0 + 6002 ∨ pr0 + 7001 ≤ g ∧ g ≤ pr0 + 7002 ∨ pr0 + 8004 ≤ g ∧ g ≤ pr0 + 8006 ∨ pr0 + 9001 ≤ g ∧ g ≤ pr0 + 9003 ∨ pr0 + 10001 ≤ g ∧ g ≤ pr0 + 10003 ∨ pr0 + 11001 ≤ g ∧ g ≤ pr0 + 11005) z0 (go L x2 x3 r0 r1 z)) (hz : fr (fun g => pr0 + 1001 ≤ g ∧ g ≤ pr0 + 1005 ∨ pr0 + 4001 ≤ g ∧ g ≤ pr0 + 4011 ∨ pr0 + 5001 ≤ g ∧ g ≤ pr0 + 5011 ∨ pr0 + 6001 ≤ g ∧ g ≤ pr0 + 6002 ∨ pr0 + 7001 ≤ g ∧ g ≤ pr0 + 7002 ∨ pr0 + 8004 ≤ g ∧ g ≤ pr0 + 8006 ∨ pr0 + 9001 ≤ g ∧ g ≤ pr0 + 9003 ∨ pr0 + 10001 ≤ g ∧ g ≤ pr0 + 10003 ∨ pr0 + 11001 ≤ g ∧ g ≤ pr0 + 11005) z0 z) (e_r0 : r0 = pr0) (e_r1 : r1 = pr1) : Fo id (fun g => pr0 + 1001 ≤ g ∧ g ≤ pr0 + 1005 ∨ pr0 + 4001 ≤ g ∧ g ≤ pr0 + 4011 ∨ pr0 + 5001 ≤ g ∧ g ≤ pr0 + 5011 ∨ pr0 + 6001 ≤ g ∧ g ≤ pr0 + 6002 ∨ pr0 + 7001 ≤ g ∧ g ≤ pr0 + 7002 ∨ pr0 + 8004 ≤ g ∧ g ≤ pr0 + 8006 ∨ pr0 + 9001 ≤ g ∧ g ≤ pr0 + 9003 ∨ pr0 + 10001 ≤ g ∧ g ≤ pr0 + 10003 ∨ pr0 + 11001 ≤ g ∧ g ≤ pr0 + 11005) z0 (cm_X6_reach_1 vl K go x2 x3 r0 r1 z) := by
  unfold cm_X6_reach_1
  exact (fo_rdF (fun v3 => (fo_if (fo_some hz) (fo_rdF (fun v4 => (fo_if (fo_some hz) (fo_cs0 ff_X6_collect (fun g hg => by omega) hz (fun z5 h_z5 => (fo_cs0 ff_X6_collect (fun g hg => by omega) h_z5 (fun z6 h_z6 => (fo_cs0 ff_X6_collect (fun g hg => by omega) h_z6 (fun z7 h_z7 => (hgo 1 _ _ _ _ z7 h_z7 (fun _ => by omega) (fun _ => by omega))))))))))))))
theorem fq_X6_reach {K : Nat} {vl : Nat → Nat} {z0 : ow_MS} {pr0 : Nat} {pr1 : Nat} : ∀ (k L : Nat) (x2 : Int32) (x3 : Int32) (r0 : Nat) (r1 : Nat) (z : ow_MS), fr (fun g => pr0 + 1001 ≤ g ∧ g ≤ pr0 + 1005 ∨ pr0 + 4001 ≤ g ∧ g ≤ pr0 + 4011 ∨ pr0 + 5001 ≤ g ∧ g ≤ pr0 + 5011 ∨ pr0 + 6001 ≤ g ∧ g ≤ pr0 + 6002 ∨ pr0 + 7001 ≤ g ∧ g ≤ pr0 + 7002 ∨ pr0 + 8004 ≤ g ∧ g ≤ pr0 + 8006 ∨ pr0 + 9001 ≤ g ∧ g ≤ pr0 + 9003 ∨ pr0 + 10001 ≤ g ∧ g ≤ pr0 + 10003 ∨ pr0 + 11001 ≤ g ∧ g ≤ pr0 + 11005) z0 z → (L = 0 ∨ L = 1 → r0 = pr0) → (L = 0 ∨ L = 1 → r1 = pr1) → Fo id (fun g => pr0 + 1001 ≤ g ∧ g ≤ pr0 + 1005 ∨ pr0 + 4001 ≤ g ∧ g ≤ pr0 + 4011 ∨ pr0 + 5001 ≤ g ∧ g ≤ pr0 + 5011 ∨ pr0 + 6001 ≤ g ∧ g ≤ pr0 + 6002 ∨ pr0 + 7001 ≤ g ∧ g ≤ pr0 + 7002 ∨ pr0 + 8004 ≤ g ∧ g ≤ pr0 + 8006 ∨ pr0 + 9001 ≤ g ∧ g ≤ pr0 + 9003 ∨ pr0 + 10001 ≤ g ∧ g ≤ pr0 + 10003 ∨ pr0 + 11001 ≤ g ∧ g ≤ pr0 + 11005) z0 (c_X6_reach vl K k L x2 x3 r0 r1 z)
  | 0 => by
    intros
    exact fo_none
  | k + 1 => by
    intro L x2 x3 r0 r1 z hz h9_r0 h9_r1
    show Fo id (fun g => pr0 + 1001 ≤ g ∧ g ≤ pr0 + 1005 ∨ pr0 + 4001 ≤ g ∧ g ≤ pr0 + 4011 ∨ pr0 + 5001 ≤ g ∧ g ≤ pr0 + 5011 ∨ pr0 + 6001 ≤ g ∧ g ≤ pr0 + 6002 ∨ pr0 + 7001 ≤ g ∧ g ≤ pr0 + 7002 ∨ pr0 + 8004 ≤ g ∧ g ≤ pr0 + 8006 ∨ pr0 + 9001 ≤ g ∧ g ≤ pr0 + 9003 ∨ pr0 + 10001 ≤ g ∧ g ≤ pr0 + 10003 ∨ pr0 + 11001 ≤ g ∧ g ≤ pr0 + 11005) z0 (cb_X6_reach vl K (c_X6_reach vl K k) L x2 x3 r0 r1 z)
    unfold cb_X6_reach
    split
    · exact fb_X6_reach_0 (fq_X6_reach k) hz (h9_r0 (by decide)) (h9_r1 (by decide))
    · exact fb_X6_reach_1 (fq_X6_reach k) hz (h9_r0 (by decide)) (h9_r1 (by decide))
    · exact fo_none
theorem ff_X6_reach {vl : Nat → Nat} {K : Nat} {r0 : Nat} {r1 : Nat} {x2 : Int32} {z : ow_MS} : Fo id (fun g => r0 + 1001 ≤ g ∧ g ≤ r0 + 1005 ∨ r0 + 4001 ≤ g ∧ g ≤ r0 + 4011 ∨ r0 + 5001 ≤ g ∧ g ≤ r0 + 5011 ∨ r0 + 6001 ≤ g ∧ g ≤ r0 + 6002 ∨ r0 + 7001 ≤ g ∧ g ≤ r0 + 7002 ∨ r0 + 8004 ≤ g ∧ g ≤ r0 + 8006 ∨ r0 + 9001 ≤ g ∧ g ≤ r0 + 9003 ∨ r0 + 10001 ≤ g ∧ g ≤ r0 + 10003 ∨ r0 + 11001 ≤ g ∧ g ≤ r0 + 11005) z (ce_X6_reach vl K r0 r1 x2 z) := fq_X6_reach (pr0 := r0) (pr1 := r1) K 0 _ _ _ _ z fr_rf (fun _ => rfl) (fun _ => rfl)
theorem ff_X11_simplify {vl : Nat → Nat} {K : Nat} {r0 : Nat} {x1 : Int32} {z : ow_MS} : Fo (fun r => r.2.2) (fun g => r0 + 1001 ≤ g ∧ g ≤ r0 + 1003 ∨ r0 + 13001 ≤ g ∧ g ≤ r0 + 13005 ∨ r0 + 16001 ≤ g ∧ g ≤ r0 + 16011 ∨ r0 + 17001 ≤ g ∧ g ≤ r0 + 17011 ∨ r0 + 18001 ≤ g ∧ g ≤ r0 + 18002 ∨ r0 + 19001 ≤ g ∧ g ≤ r0 + 19002 ∨ r0 + 20004 ≤ g ∧ g ≤ r0 + 20006 ∨ r0 + 21001 ≤ g ∧ g ≤ r0 + 21003 ∨ r0 + 22001 ≤ g ∧ g ≤ r0 + 22003 ∨ r0 + 23001 ≤ g ∧ g ≤ r0 + 23005) z (ce_X11_simplify vl K r0 x1 z) := by
  unfold ce_X11_simplify cm_X11_simplify_0
  exact (fc_tc0 ff_X11_needDiagram (fun g hg => hg.elim) fr_rf (fun k z h_e => (fo_some h_e)) (fun z1 h_z1 => (fc_tc1 ff_X11_freeDiagram (fun g hg => hg.elim) h_z1 (fun k z h_e => (fo_some h_e)) (fun v5 z3 h_z3 => (fo_cs0 ff_X6_reach (fun g hg => by omega) h_z3 (fun z6 h_z6 => (fo_rdF (fun v7 => (fo_if (fc_crI (fun v8 => (fo_cs0 ff_X3_write (fun g hg => by omega) h_z6 (fun z9 h_z9 => (fo_some h_z9))))) (fo_some h_z6))))))))))
theorem fb_X6_surround_0 {K : Nat} {vl : Nat → Nat} {z0 z : ow_MS} {pr0 : Nat} {pr1 : Nat} {pr3 : Nat} {go : Nat → Int32 → Int32 → Nat → Nat → Nat → ow_MS → Option ow_MS} {x2 : Int32} {x4 : Int32} {r0 : Nat} {r1 : Nat} {r3 : Nat} (hgo : ∀ (L : Nat) (x2 : Int32) (x4 : Int32) (r0 : Nat) (r1 : Nat) (r3 : Nat) (z : ow_MS), fr (fun g => pr0 + 4001 ≤ g ∧ g ≤ pr0 + 4011 ∨ pr0 + 5001 ≤ g ∧ g ≤ pr0 + 5011 ∨ pr0 + 6001 ≤ g ∧ g ≤ pr0 + 6002 ∨ pr0 + 7001 ≤ g ∧ g ≤ pr0 + 7002 ∨ pr0 + 8004 ≤ g ∧ g ≤ pr0 + 8006 ∨ pr0 + 9001 ≤ g ∧ g ≤ pr0 + 9003 ∨ pr0 + 10001 ≤ g ∧ g ≤ pr0 + 10003 ∨ pr0 + 11001 ≤ g ∧ g ≤ pr0 + 11005 ∨ pr3 + 1 ≤ g ∧ g ≤ pr3 + 5) z0 z → (L = 0 ∨ L = 1 → r0 = pr0) → (L = 0 ∨ L = 1 → r1 = pr1) → (L = 0 ∨ L = 1 → r3 = pr3) → Fo id (fun g => pr0 + 4001 ≤ g ∧ g ≤ pr0 + 4011 ∨ pr0 + 5001 ≤ g ∧ g ≤ pr0 + 5011 ∨ pr0 + 6001 ≤ g ∧ g ≤ pr0 + 6002 ∨ pr0 + 7001 ≤ g ∧ g ≤ pr0 + 7002 ∨ pr0 + 8004 ≤ g ∧ g ≤ pr0 + 8006 ∨ pr0 + 9001 ≤ g ∧ g ≤ pr0 + 9003 ∨ pr0 + 10001 ≤ g ∧ g ≤ pr0 + 10003 ∨ pr0 + 11001 ≤ g ∧ g ≤ pr0 + 11005 ∨ pr3 + 1 ≤ g ∧ g ≤ pr3 + 5) z0 (go L x2 x4 r0 r1 r3 z)) (hz : fr (fun g => pr0 + 4001 ≤ g ∧ g ≤ pr0 + 4011 ∨ pr0 + 5001 ≤ g ∧ g ≤ pr0 + 5011 ∨ pr0 + 6001 ≤ g ∧ g ≤ pr0 + 6002 ∨ pr0 + 7001 ≤ g ∧ g ≤ pr0 + 7002 ∨ pr0 + 8004 ≤ g ∧ g ≤ pr0 + 8006 ∨ pr0 + 9001 ≤ g ∧ g ≤ pr0 + 9003 ∨ pr0 + 10001 ≤ g ∧ g ≤ pr0 + 10003 ∨ pr0 + 11001 ≤ g ∧ g ≤ pr0 + 11005 ∨ pr3 + 1 ≤ g ∧ g ≤ pr3 + 5) z0 z) (e_r0 : r0 = pr0) (e_r1 : r1 = pr1) (e_r3 : r3 = pr3) : Fo id (fun g => pr0 + 4001 ≤ g ∧ g ≤ pr0 + 4011 ∨ pr0 + 5001 ≤ g ∧ g ≤ pr0 + 5011 ∨ pr0 + 6001 ≤ g ∧ g ≤ pr0 + 6002 ∨ pr0 + 7001 ≤ g ∧ g ≤ pr0 + 7002 ∨ pr0 + 8004 ≤ g ∧ g ≤ pr0 + 8006 ∨ pr0 + 9001 ≤ g ∧ g ≤ pr0 + 9003 ∨ pr0 + 10001 ≤ g ∧ g ≤ pr0 + 10003 ∨ pr0 + 11001 ≤ g ∧ g ≤ pr0 + 11005 ∨ pr3 + 1 ≤ g ∧ g ≤ pr3 + 5) z0 (cm_X6_surround_0 vl K go x2 x4 r0 r1 r3 z) := by
  unfold cm_X6_surround_0
  exact (fo_wrF (by omega) hz (fun z1 h_z1 => (hgo 1 _ _ _ _ _ z1 h_z1 (fun _ => by omega) (fun _ => by omega) (fun _ => by omega))))
theorem fb_X6_surround_1 {K : Nat} {vl : Nat → Nat} {z0 z : ow_MS} {pr0 : Nat} {pr1 : Nat} {pr3 : Nat} {go : Nat → Int32 → Int32 → Nat → Nat → Nat → ow_MS → Option ow_MS} {x2 : Int32} {x4 : Int32} {r0 : Nat} {r1 : Nat} {r3 : Nat} (hgo : ∀ (L : Nat) (x2 : Int32) (x4 : Int32) (r0 : Nat) (r1 : Nat) (r3 : Nat) (z : ow_MS), fr (fun g => pr0 + 4001 ≤ g ∧ g ≤ pr0 + 4011 ∨ pr0 + 5001 ≤ g ∧ g ≤ pr0 + 5011 ∨ pr0 + 6001 ≤ g ∧ g ≤ pr0 + 6002 ∨ pr0 + 7001 ≤ g ∧ g ≤ pr0 + 7002 ∨ pr0 + 8004 ≤ g ∧ g ≤ pr0 + 8006 ∨ pr0 + 9001 ≤ g ∧ g ≤ pr0 + 9003 ∨ pr0 + 10001 ≤ g ∧ g ≤ pr0 + 10003 ∨ pr0 + 11001 ≤ g ∧ g ≤ pr0 + 11005 ∨ pr3 + 1 ≤ g ∧ g ≤ pr3 + 5) z0 z → (L = 0 ∨ L = 1 → r0 = pr0) → (L = 0 ∨ L = 1 → r1 = pr1) → (L = 0 ∨ L = 1 → r3 = pr3) → Fo id (fun g => pr0 + 4001 ≤ g ∧ g ≤ pr0 + 4011 ∨ pr0 + 5001 ≤ g ∧ g ≤ pr0 + 5011 ∨ pr0 + 6001 ≤ g ∧ g ≤ pr0 + 6002 ∨ pr0 + 7001 ≤ g ∧ g ≤ pr0 + 7002 ∨ pr0 + 8004 ≤ g ∧ g ≤ pr0 + 8006 ∨ pr0 + 9001 ≤ g ∧ g ≤ pr0 + 9003 ∨ pr0 + 10001 ≤ g ∧ g ≤ pr0 + 10003 ∨ pr0 + 11001 ≤ g ∧ g ≤ pr0 + 11005 ∨ pr3 + 1 ≤ g ∧ g ≤ pr3 + 5) z0 (go L x2 x4 r0 r1 r3 z)) (hz : fr (fun g => pr0 + 4001 ≤ g ∧ g ≤ pr0 + 4011 ∨ pr0 + 5001 ≤ g ∧ g ≤ pr0 + 5011 ∨ pr0 + 6001 ≤ g ∧ g ≤ pr0 + 6002 ∨ pr0 + 7001 ≤ g ∧ g ≤ pr0 + 7002 ∨ pr0 + 8004 ≤ g ∧ g ≤ pr0 + 8006 ∨ pr0 + 9001 ≤ g ∧ g ≤ pr0 + 9003 ∨ pr0 + 10001 ≤ g ∧ g ≤ pr0 + 10003 ∨ pr0 + 11001 ≤ g ∧ g ≤ pr0 + 11005 ∨ pr3 + 1 ≤ g ∧ g ≤ pr3 + 5) z0 z) (e_r0 : r0 = pr0) (e_r1 : r1 = pr1) (e_r3 : r3 = pr3) : Fo id (fun g => pr0 + 4001 ≤ g ∧ g ≤ pr0 + 4011 ∨ pr0 + 5001 ≤ g ∧ g ≤ pr0 + 5011 ∨ pr0 + 6001 ≤ g ∧ g ≤ pr0 + 6002 ∨ pr0 + 7001 ≤ g ∧ g ≤ pr0 + 7002 ∨ pr0 + 8004 ≤ g ∧ g ≤ pr0 + 8006 ∨ pr0 + 9001 ≤ g ∧ g ≤ pr0 + 9003 ∨ pr0 + 10001 ≤ g ∧ g ≤ pr0 + 10003 ∨ pr0 + 11001 ≤ g ∧ g ≤ pr0 + 11005 ∨ pr3 + 1 ≤ g ∧ g ≤ pr3 + 5) z0 (cm_X6_surround_1 vl K go x2 x4 r0 r1 r3 z) := by
  unfold cm_X6_surround_1
  exact (fo_if (fo_some hz) (fo_cs0 ff_X6_collect (fun g hg => by omega) hz (fun z2 h_z2 => (hgo 1 _ _ _ _ _ z2 h_z2 (fun _ => by omega) (fun _ => by omega) (fun _ => by omega)))))
theorem fq_X6_surround {K : Nat} {vl : Nat → Nat} {z0 : ow_MS} {pr0 : Nat} {pr1 : Nat} {pr3 : Nat} : ∀ (k L : Nat) (x2 : Int32) (x4 : Int32) (r0 : Nat) (r1 : Nat) (r3 : Nat) (z : ow_MS), fr (fun g => pr0 + 4001 ≤ g ∧ g ≤ pr0 + 4011 ∨ pr0 + 5001 ≤ g ∧ g ≤ pr0 + 5011 ∨ pr0 + 6001 ≤ g ∧ g ≤ pr0 + 6002 ∨ pr0 + 7001 ≤ g ∧ g ≤ pr0 + 7002 ∨ pr0 + 8004 ≤ g ∧ g ≤ pr0 + 8006 ∨ pr0 + 9001 ≤ g ∧ g ≤ pr0 + 9003 ∨ pr0 + 10001 ≤ g ∧ g ≤ pr0 + 10003 ∨ pr0 + 11001 ≤ g ∧ g ≤ pr0 + 11005 ∨ pr3 + 1 ≤ g ∧ g ≤ pr3 + 5) z0 z → (L = 0 ∨ L = 1 → r0 = pr0) → (L = 0 ∨ L = 1 → r1 = pr1) → (L = 0 ∨ L = 1 → r3 = pr3) → Fo id (fun g => pr0 + 4001 ≤ g ∧ g ≤ pr0 + 4011 ∨ pr0 + 5001 ≤ g ∧ g ≤ pr0 + 5011 ∨ pr0 + 6001 ≤ g ∧ g ≤ pr0 + 6002 ∨ pr0 + 7001 ≤ g ∧ g ≤ pr0 + 7002 ∨ pr0 + 8004 ≤ g ∧ g ≤ pr0 + 8006 ∨ pr0 + 9001 ≤ g ∧ g ≤ pr0 + 9003 ∨ pr0 + 10001 ≤ g ∧ g ≤ pr0 + 10003 ∨ pr0 + 11001 ≤ g ∧ g ≤ pr0 + 11005 ∨ pr3 + 1 ≤ g ∧ g ≤ pr3 + 5) z0 (c_X6_surround vl K k L x2 x4 r0 r1 r3 z)
  | 0 => by
    intros
    exact fo_none
  | k + 1 => by
    intro L x2 x4 r0 r1 r3 z hz h9_r0 h9_r1 h9_r3
    show Fo id (fun g => pr0 + 4001 ≤ g ∧ g ≤ pr0 + 4011 ∨ pr0 + 5001 ≤ g ∧ g ≤ pr0 + 5011 ∨ pr0 + 6001 ≤ g ∧ g ≤ pr0 + 6002 ∨ pr0 + 7001 ≤ g ∧ g ≤ pr0 + 7002 ∨ pr0 + 8004 ≤ g ∧ g ≤ pr0 + 8006 ∨ pr0 + 9001 ≤ g ∧ g ≤ pr0 + 9003 ∨ pr0 + 10001 ≤ g ∧ g ≤ pr0 + 10003 ∨ pr0 + 11001 ≤ g ∧ g ≤ pr0 + 11005 ∨ pr3 + 1 ≤ g ∧ g ≤ pr3 + 5) z0 (cb_X6_surround vl K (c_X6_surround vl K k) L x2 x4 r0 r1 r3 z)
    unfold cb_X6_surround
    split
    · exact fb_X6_surround_0 (fq_X6_surround k) hz (h9_r0 (by decide)) (h9_r1 (by decide)) (h9_r3 (by decide))
    · exact fb_X6_surround_1 (fq_X6_surround k) hz (h9_r0 (by decide)) (h9_r1 (by decide)) (h9_r3 (by decide))
    · exact fo_none
theorem ff_X6_surround {vl : Nat → Nat} {K : Nat} {r0 : Nat} {r1 : Nat} {x2 : Int32} {r3 : Nat} {z : ow_MS} : Fo id (fun g => r0 + 4001 ≤ g ∧ g ≤ r0 + 4011 ∨ r0 + 5001 ≤ g ∧ g ≤ r0 + 5011 ∨ r0 + 6001 ≤ g ∧ g ≤ r0 + 6002 ∨ r0 + 7001 ≤ g ∧ g ≤ r0 + 7002 ∨ r0 + 8004 ≤ g ∧ g ≤ r0 + 8006 ∨ r0 + 9001 ≤ g ∧ g ≤ r0 + 9003 ∨ r0 + 10001 ≤ g ∧ g ≤ r0 + 10003 ∨ r0 + 11001 ≤ g ∧ g ≤ r0 + 11005 ∨ r3 + 1 ≤ g ∧ g ≤ r3 + 5) z (ce_X6_surround vl K r0 r1 x2 r3 z) := fq_X6_surround (pr0 := r0) (pr1 := r1) (pr3 := r3) K 0 _ _ _ _ _ z fr_rf (fun _ => rfl) (fun _ => rfl) (fun _ => rfl)
theorem fb_X3_meets_0 {K : Nat} {vl : Nat → Nat} {z0 z : ow_MS} {pr0 : Nat} {pr1 : Nat} {go : Nat → Int32 → Nat → Nat → ow_MS → Option (Int32 × ow_MS)} {x2 : Int32} {r0 : Nat} {r1 : Nat} (hgo : ∀ (L : Nat) (x2 : Int32) (r0 : Nat) (r1 : Nat) (z : ow_MS), fr (fun _ => False) z0 z → (L = 0 ∨ L = 1 → r0 = pr0) → (L = 0 ∨ L = 1 → r1 = pr1) → Fo Prod.snd (fun _ => False) z0 (go L x2 r0 r1 z)) (hz : fr (fun _ => False) z0 z) (e_r0 : r0 = pr0) (e_r1 : r1 = pr1) : Fo Prod.snd (fun _ => False) z0 (cm_X3_meets_0 vl K go x2 r0 r1 z) := by
  unfold cm_X3_meets_0
  exact (hgo 1 _ _ _ z hz (fun _ => by omega) (fun _ => by omega))
theorem fb_X3_meets_1 {K : Nat} {vl : Nat → Nat} {z0 z : ow_MS} {pr0 : Nat} {pr1 : Nat} {go : Nat → Int32 → Nat → Nat → ow_MS → Option (Int32 × ow_MS)} {x2 : Int32} {r0 : Nat} {r1 : Nat} (hgo : ∀ (L : Nat) (x2 : Int32) (r0 : Nat) (r1 : Nat) (z : ow_MS), fr (fun _ => False) z0 z → (L = 0 ∨ L = 1 → r0 = pr0) → (L = 0 ∨ L = 1 → r1 = pr1) → Fo Prod.snd (fun _ => False) z0 (go L x2 r0 r1 z)) (hz : fr (fun _ => False) z0 z) (e_r0 : r0 = pr0) (e_r1 : r1 = pr1) : Fo Prod.snd (fun _ => False) z0 (cm_X3_meets_1 vl K go x2 r0 r1 z) := by
  unfold cm_X3_meets_1
  exact (fo_rdF (fun v1 => (fo_if (fo_okZ (fo_some hz)) (fo_cs1 ff_X3_find (fun g hg => hg.elim) hz (fun v3 z2 h_z2 => (fo_if (hgo 1 _ _ _ z2 h_z2 (fun _ => by omega) (fun _ => by omega)) (fo_okZ (fo_some h_z2))))))))
theorem fq_X3_meets {K : Nat} {vl : Nat → Nat} {z0 : ow_MS} {pr0 : Nat} {pr1 : Nat} : ∀ (k L : Nat) (x2 : Int32) (r0 : Nat) (r1 : Nat) (z : ow_MS), fr (fun _ => False) z0 z → (L = 0 ∨ L = 1 → r0 = pr0) → (L = 0 ∨ L = 1 → r1 = pr1) → Fo Prod.snd (fun _ => False) z0 (c_X3_meets vl K k L x2 r0 r1 z)
  | 0 => by
    intros
    exact fo_none
  | k + 1 => by
    intro L x2 r0 r1 z hz h9_r0 h9_r1
    show Fo Prod.snd (fun _ => False) z0 (cb_X3_meets vl K (c_X3_meets vl K k) L x2 r0 r1 z)
    unfold cb_X3_meets
    split
    · exact fb_X3_meets_0 (fq_X3_meets k) hz (h9_r0 (by decide)) (h9_r1 (by decide))
    · exact fb_X3_meets_1 (fq_X3_meets k) hz (h9_r0 (by decide)) (h9_r1 (by decide))
    · exact fo_none
theorem ff_X3_meets {vl : Nat → Nat} {K : Nat} {r0 : Nat} {r1 : Nat} {z : ow_MS} : Fo Prod.snd (fun _ => False) z (ce_X3_meets vl K r0 r1 z) := fq_X3_meets (pr0 := r0) (pr1 := r1) K 0 _ _ _ z fr_rf (fun _ => rfl) (fun _ => rfl)
theorem ff_X11_way {vl : Nat → Nat} {K : Nat} {r0 : Nat} {x1 : Int32} {x2 : Int32} {z : ow_MS} : Fo (fun r => r.2.2) (fun g => r0 + 14001 ≤ g ∧ g ≤ r0 + 14005 ∨ r0 + 15001 ≤ g ∧ g ≤ r0 + 15005 ∨ r0 + 16001 ≤ g ∧ g ≤ r0 + 16011 ∨ r0 + 17001 ≤ g ∧ g ≤ r0 + 17011 ∨ r0 + 18001 ≤ g ∧ g ≤ r0 + 18002 ∨ r0 + 19001 ≤ g ∧ g ≤ r0 + 19002 ∨ r0 + 20004 ≤ g ∧ g ≤ r0 + 20006 ∨ r0 + 21001 ≤ g ∧ g ≤ r0 + 21003 ∨ r0 + 22001 ≤ g ∧ g ≤ r0 + 22003 ∨ r0 + 23001 ≤ g ∧ g ≤ r0 + 23005) z (ce_X11_way vl K r0 x1 x2 z) := by
  unfold ce_X11_way cm_X11_way_0
  exact (fc_tc0 ff_X11_needDiagram (fun g hg => hg.elim) fr_rf (fun k z h_e => (fo_some h_e)) (fun z1 h_z1 => (fc_tc0 ff_X11_needDiagram (fun g hg => hg.elim) h_z1 (fun k z h_e => (fo_some h_e)) (fun z3 h_z3 => (fc_crI (fun v5 => (fo_if (fo_some h_z3) (fc_crI (fun v6 => (fo_if (fo_cs1 ff_X3_compare (fun g hg => hg.elim) h_z3 (fun v8 z7 h_z7 => (fo_if (fo_some h_z7) (fo_cs0 ff_X6_surround (fun g hg => by omega) h_z7 (fun z9 h_z9 => (fo_cs1 ff_X3_find (fun g hg => hg.elim) h_z9 (fun v11 z10 h_z10 => (fo_if (fo_cs0 ff_X6_surround (fun g hg => by omega) h_z10 (fun z12 h_z12 => (fo_cs1 ff_X3_meets (fun g hg => hg.elim) h_z12 (fun v14 z13 h_z13 => (fo_if (fo_some h_z13) (fo_some h_z13)))))) (fo_some h_z10))))))))) (fo_some h_z3)))))))))))
theorem fb_X7_partOnce_0 {K : Nat} {vl : Nat → Nat} {z0 z : ow_MS} {pr0 : Nat} {go : Nat → Int32 → Int32 → Int32 → Nat → ow_MS → Option (Int32 × ow_MS)} {x1 : Int32} {x2 : Int32} {x3 : Int32} {r0 : Nat} (hgo : ∀ (L : Nat) (x1 : Int32) (x2 : Int32) (x3 : Int32) (r0 : Nat) (z : ow_MS), fr (fun g => pr0 + 1 ≤ g ∧ g ≤ pr0 + 11) z0 z → (L = 0 ∨ L = 1 ∨ L = 2 ∨ L = 3 → r0 = pr0) → Fo Prod.snd (fun g => pr0 + 1 ≤ g ∧ g ≤ pr0 + 11) z0 (go L x1 x2 x3 r0 z)) (hz : fr (fun g => pr0 + 1 ≤ g ∧ g ≤ pr0 + 11) z0 z) (e_r0 : r0 = pr0) : Fo Prod.snd (fun g => pr0 + 1 ≤ g ∧ g ≤ pr0 + 11) z0 (cm_X7_partOnce_0 vl K go x1 x2 x3 r0 z) := by
  unfold cm_X7_partOnce_0
  exact (fo_cs0 ff_X7_markRings (fun g hg => by omega) hz (fun z1 h_z1 => (fo_cs0 ff_X7_markParts (fun g hg => by omega) h_z1 (fun z2 h_z2 => (fo_rdF (fun v3 => (hgo 1 _ _ _ _ z2 h_z2 (fun _ => by omega))))))))
theorem fb_X7_partOnce_1 {K : Nat} {vl : Nat → Nat} {z0 z : ow_MS} {pr0 : Nat} {go : Nat → Int32 → Int32 → Int32 → Nat → ow_MS → Option (Int32 × ow_MS)} {x1 : Int32} {x2 : Int32} {x3 : Int32} {r0 : Nat} (hgo : ∀ (L : Nat) (x1 : Int32) (x2 : Int32) (x3 : Int32) (r0 : Nat) (z : ow_MS), fr (fun g => pr0 + 1 ≤ g ∧ g ≤ pr0 + 11) z0 z → (L = 0 ∨ L = 1 ∨ L = 2 ∨ L = 3 → r0 = pr0) → Fo Prod.snd (fun g => pr0 + 1 ≤ g ∧ g ≤ pr0 + 11) z0 (go L x1 x2 x3 r0 z)) (hz : fr (fun g => pr0 + 1 ≤ g ∧ g ≤ pr0 + 11) z0 z) (e_r0 : r0 = pr0) : Fo Prod.snd (fun g => pr0 + 1 ≤ g ∧ g ≤ pr0 + 11) z0 (cm_X7_partOnce_1 vl K go x1 x2 x3 r0 z) := by
  unfold cm_X7_partOnce_1
  exact (fo_rdF (fun v4 => (fo_if (fo_okZ (fo_some hz)) (hgo 2 _ _ _ _ z hz (fun _ => by omega)))))
theorem fb_X7_partOnce_2 {K : Nat} {vl : Nat → Nat} {z0 z : ow_MS} {pr0 : Nat} {go : Nat → Int32 → Int32 → Int32 → Nat → ow_MS → Option (Int32 × ow_MS)} {x1 : Int32} {x2 : Int32} {x3 : Int32} {r0 : Nat} (hgo : ∀ (L : Nat) (x1 : Int32) (x2 : Int32) (x3 : Int32) (r0 : Nat) (z : ow_MS), fr (fun g => pr0 + 1 ≤ g ∧ g ≤ pr0 + 11) z0 z → (L = 0 ∨ L = 1 ∨ L = 2 ∨ L = 3 → r0 = pr0) → Fo Prod.snd (fun g => pr0 + 1 ≤ g ∧ g ≤ pr0 + 11) z0 (go L x1 x2 x3 r0 z)) (hz : fr (fun g => pr0 + 1 ≤ g ∧ g ≤ pr0 + 11) z0 z) (e_r0 : r0 = pr0) : Fo Prod.snd (fun g => pr0 + 1 ≤ g ∧ g ≤ pr0 + 11) z0 (cm_X7_partOnce_2 vl K go x1 x2 x3 r0 z) := by
  unfold cm_X7_partOnce_2
  exact (fo_rdF (fun v5 => (fo_if (hgo 1 _ _ _ _ z hz (fun _ => by omega)) (fc_crI (fun v6 => (fc_crI (fun v7 => (fo_if (fo_cs0 ff_X7_exchange (fun g hg => by omega) hz (fun z8 h_z8 => (fo_cs0 ff_X7_markParts (fun g hg => by omega) h_z8 (fun z9 h_z9 => (fo_rdF (fun v10 => (fo_if (fo_cs0 ff_X7_exchange (fun g hg => by omega) h_z9 (fun z11 h_z11 => (hgo 3 _ _ _ _ z11 h_z11 (fun _ => by omega)))) (fo_okZ (fo_some h_z9))))))))) (hgo 3 _ _ _ _ z hz (fun _ => by omega))))))))))
theorem fb_X7_partOnce_3 {K : Nat} {vl : Nat → Nat} {z0 z : ow_MS} {pr0 : Nat} {go : Nat → Int32 → Int32 → Int32 → Nat → ow_MS → Option (Int32 × ow_MS)} {x1 : Int32} {x2 : Int32} {x3 : Int32} {r0 : Nat} (hgo : ∀ (L : Nat) (x1 : Int32) (x2 : Int32) (x3 : Int32) (r0 : Nat) (z : ow_MS), fr (fun g => pr0 + 1 ≤ g ∧ g ≤ pr0 + 11) z0 z → (L = 0 ∨ L = 1 ∨ L = 2 ∨ L = 3 → r0 = pr0) → Fo Prod.snd (fun g => pr0 + 1 ≤ g ∧ g ≤ pr0 + 11) z0 (go L x1 x2 x3 r0 z)) (hz : fr (fun g => pr0 + 1 ≤ g ∧ g ≤ pr0 + 11) z0 z) (e_r0 : r0 = pr0) : Fo Prod.snd (fun g => pr0 + 1 ≤ g ∧ g ≤ pr0 + 11) z0 (cm_X7_partOnce_3 vl K go x1 x2 x3 r0 z) := by
  unfold cm_X7_partOnce_3
  exact (hgo 2 _ _ _ _ z hz (fun _ => by omega))
theorem fq_X7_partOnce {K : Nat} {vl : Nat → Nat} {z0 : ow_MS} {pr0 : Nat} : ∀ (k L : Nat) (x1 : Int32) (x2 : Int32) (x3 : Int32) (r0 : Nat) (z : ow_MS), fr (fun g => pr0 + 1 ≤ g ∧ g ≤ pr0 + 11) z0 z → (L = 0 ∨ L = 1 ∨ L = 2 ∨ L = 3 → r0 = pr0) → Fo Prod.snd (fun g => pr0 + 1 ≤ g ∧ g ≤ pr0 + 11) z0 (c_X7_partOnce vl K k L x1 x2 x3 r0 z)
  | 0 => by
    intros
    exact fo_none
  | k + 1 => by
    intro L x1 x2 x3 r0 z hz h9_r0
    show Fo Prod.snd (fun g => pr0 + 1 ≤ g ∧ g ≤ pr0 + 11) z0 (cb_X7_partOnce vl K (c_X7_partOnce vl K k) L x1 x2 x3 r0 z)
    unfold cb_X7_partOnce
    split
    · exact fb_X7_partOnce_0 (fq_X7_partOnce k) hz (h9_r0 (by decide))
    · exact fb_X7_partOnce_1 (fq_X7_partOnce k) hz (h9_r0 (by decide))
    · exact fb_X7_partOnce_2 (fq_X7_partOnce k) hz (h9_r0 (by decide))
    · exact fb_X7_partOnce_3 (fq_X7_partOnce k) hz (h9_r0 (by decide))
    · exact fo_none
theorem ff_X7_partOnce {vl : Nat → Nat} {K : Nat} {r0 : Nat} {z : ow_MS} : Fo Prod.snd (fun g => r0 + 1 ≤ g ∧ g ≤ r0 + 11) z (ce_X7_partOnce vl K r0 z) := fq_X7_partOnce (pr0 := r0) K 0 _ _ _ _ z fr_rf (fun _ => rfl)
theorem fb_X7_partAll_0 {K : Nat} {vl : Nat → Nat} {z0 z : ow_MS} {pr0 : Nat} {go : Nat → Int32 → Nat → ow_MS → Option ow_MS} {x1 : Int32} {r0 : Nat} (hgo : ∀ (L : Nat) (x1 : Int32) (r0 : Nat) (z : ow_MS), fr (fun g => pr0 + 1 ≤ g ∧ g ≤ pr0 + 11) z0 z → (L = 0 ∨ L = 1 → r0 = pr0) → Fo id (fun g => pr0 + 1 ≤ g ∧ g ≤ pr0 + 11) z0 (go L x1 r0 z)) (hz : fr (fun g => pr0 + 1 ≤ g ∧ g ≤ pr0 + 11) z0 z) (e_r0 : r0 = pr0) : Fo id (fun g => pr0 + 1 ≤ g ∧ g ≤ pr0 + 11) z0 (cm_X7_partAll_0 vl K go x1 r0 z) := by
  unfold cm_X7_partAll_0
  exact (hgo 1 _ _ z hz (fun _ => by omega))
theorem fb_X7_partAll_1 {K : Nat} {vl : Nat → Nat} {z0 z : ow_MS} {pr0 : Nat} {go : Nat → Int32 → Nat → ow_MS → Option ow_MS} {x1 : Int32} {r0 : Nat} (hgo : ∀ (L : Nat) (x1 : Int32) (r0 : Nat) (z : ow_MS), fr (fun g => pr0 + 1 ≤ g ∧ g ≤ pr0 + 11) z0 z → (L = 0 ∨ L = 1 → r0 = pr0) → Fo id (fun g => pr0 + 1 ≤ g ∧ g ≤ pr0 + 11) z0 (go L x1 r0 z)) (hz : fr (fun g => pr0 + 1 ≤ g ∧ g ≤ pr0 + 11) z0 z) (e_r0 : r0 = pr0) : Fo id (fun g => pr0 + 1 ≤ g ∧ g ≤ pr0 + 11) z0 (cm_X7_partAll_1 vl K go x1 r0 z) := by
  unfold cm_X7_partAll_1
  exact (fo_if (fo_some hz) (fo_cs1 ff_X7_partOnce (fun g hg => by omega) hz (fun v2 z1 h_z1 => (fo_if (fo_some h_z1) (hgo 1 _ _ z1 h_z1 (fun _ => by omega))))))
theorem fq_X7_partAll {K : Nat} {vl : Nat → Nat} {z0 : ow_MS} {pr0 : Nat} : ∀ (k L : Nat) (x1 : Int32) (r0 : Nat) (z : ow_MS), fr (fun g => pr0 + 1 ≤ g ∧ g ≤ pr0 + 11) z0 z → (L = 0 ∨ L = 1 → r0 = pr0) → Fo id (fun g => pr0 + 1 ≤ g ∧ g ≤ pr0 + 11) z0 (c_X7_partAll vl K k L x1 r0 z)
  | 0 => by
    intros
    exact fo_none
  | k + 1 => by
    intro L x1 r0 z hz h9_r0
    show Fo id (fun g => pr0 + 1 ≤ g ∧ g ≤ pr0 + 11) z0 (cb_X7_partAll vl K (c_X7_partAll vl K k) L x1 r0 z)
    unfold cb_X7_partAll
    split
    · exact fb_X7_partAll_0 (fq_X7_partAll k) hz (h9_r0 (by decide))
    · exact fb_X7_partAll_1 (fq_X7_partAll k) hz (h9_r0 (by decide))
    · exact fo_none
theorem ff_X7_partAll {vl : Nat → Nat} {K : Nat} {r0 : Nat} {z : ow_MS} : Fo id (fun g => r0 + 1 ≤ g ∧ g ≤ r0 + 11) z (ce_X7_partAll vl K r0 z) := fq_X7_partAll (pr0 := r0) K 0 _ _ z fr_rf (fun _ => rfl)
theorem ff_X11_summands {vl : Nat → Nat} {K : Nat} {r0 : Nat} {x1 : Int32} {z : ow_MS} : Fo (fun r => r.2.2) (fun g => r0 + 3001 ≤ g ∧ g ≤ r0 + 3005 ∨ r0 + 4001 ≤ g ∧ g ≤ r0 + 4011 ∨ r0 + 7004 ≤ g ∧ g ≤ r0 + 7006 ∨ r0 + 9001 ≤ g ∧ g ≤ r0 + 9003) z (ce_X11_summands vl K r0 x1 z) := by
  unfold ce_X11_summands cm_X11_summands_0
  exact (fc_tc0 ff_X11_needDiagram (fun g hg => hg.elim) fr_rf (fun k z h_e => (fo_some h_e)) (fun z1 h_z1 => (fo_cs0 ff_X7_load (fun g hg => by omega) h_z1 (fun z3 h_z3 => (fo_cs0 ff_X7_partAll (fun g hg => by omega) h_z3 (fun z4 h_z4 => (fo_cs0 ff_X2_collectParts (fun g hg => by omega) h_z4 (fun z5 h_z5 => (fo_rdF (fun v6 => (fo_some h_z5)))))))))))
theorem ff_X11_summand {vl : Nat → Nat} {K : Nat} {r0 : Nat} {x1 : Int32} {z : ow_MS} : Fo (fun r => r.2.2) (fun g => r0 + 1001 ≤ g ∧ g ≤ r0 + 1003) z (ce_X11_summand vl K r0 x1 z) := by
  unfold ce_X11_summand cm_X11_summand_0
  exact (fc_tc1 ff_X11_copyOut (fun g hg => by omega) fr_rf (fun k z h_e => (fo_some h_e)) (fun v3 z1 h_z1 => (fo_some h_z1)))
theorem ff_X11_needBraid {vl : Nat → Nat} {K : Nat} {r0 : Nat} {x1 : Int32} {z : ow_MS} : Fo Prod.snd (fun _ => False) z (ce_X11_needBraid vl K r0 x1 z) := by
  unfold ce_X11_needBraid cm_X11_needBraid_0
  exact (fo_cs1 ff_X11_hasBraid (fun g hg => hg.elim) fr_rf (fun v2 z1 h_z1 => (fo_if (fo_some h_z1) (fo_some h_z1))))
theorem ff_X7_extend {vl : Nat → Nat} {K : Nat} {r0 : Nat} {r1 : Nat} {r2 : Nat} {x3 : Int32} {x4 : Int32} {z : ow_MS} : Fo id (fun g => r0 + 1 ≤ g ∧ g ≤ r0 + 2 ∨ g = r1) z (ce_X7_extend vl K r0 r1 r2 x3 x4 z) := by
  unfold ce_X7_extend cm_X7_extend_0
  exact (fc_crI (fun v1 => (fo_if (fc_ctI (by omega) fr_rf (fun z4 h_z4 => (fo_some h_z4))) (fc_crI (fun v2 => (fo_cs0 ff_X7_link (fun g hg => by omega) fr_rf (fun z3 h_z3 => (fo_some h_z3))))))))
theorem fb_X7_close_0 {K : Nat} {vl : Nat → Nat} {z0 z : ow_MS} {pr0 : Nat} {pr1 : Nat} {go : Nat → Int32 → Int32 → Int32 → Int32 → Int32 → Int32 → Int32 → Int32 → Nat → Nat → Nat → Nat → Int32 → Int32 → ow_MS → Option ow_MS} {x2 : Int32} {x3 : Int32} {x4 : Int32} {x7 : Int32} {x8 : Int32} {x9 : Int32} {x10 : Int32} {x11 : Int32} {r0 : Nat} {r1 : Nat} {r5 : Nat} {r6 : Nat} {t0 : Int32} {t1 : Int32} (hgo : ∀ (L : Nat) (x2 : Int32) (x3 : Int32) (x4 : Int32) (x7 : Int32) (x8 : Int32) (x9 : Int32) (x10 : Int32) (x11 : Int32) (r0 : Nat) (r1 : Nat) (r5 : Nat) (r6 : Nat) (t0 : Int32) (t1 : Int32) (z : ow_MS), fr (fun g => pr0 + 1 ≤ g ∧ g ≤ pr0 + 9) z0 z → (L = 0 ∨ L = 1 ∨ L = 2 ∨ L = 3 ∨ L = 4 ∨ L = 5 ∨ L = 6 → r0 = pr0) → (L = 0 ∨ L = 1 ∨ L = 2 ∨ L = 3 ∨ L = 4 ∨ L = 5 ∨ L = 6 → r1 = pr1) → (L = 1 ∨ L = 2 ∨ L = 3 ∨ L = 4 ∨ L = 5 ∨ L = 6 → r5 = pr0 + 4) → (L = 1 ∨ L = 2 ∨ L = 3 ∨ L = 4 ∨ L = 5 ∨ L = 6 → r6 = pr0 + 7) → Fo id (fun g => pr0 + 1 ≤ g ∧ g ≤ pr0 + 9) z0 (go L x2 x3 x4 x7 x8 x9 x10 x11 r0 r1 r5 r6 t0 t1 z)) (hz : fr (fun g => pr0 + 1 ≤ g ∧ g ≤ pr0 + 9) z0 z) (e_r0 : r0 = pr0) (e_r1 : r1 = pr1) : Fo id (fun g => pr0 + 1 ≤ g ∧ g ≤ pr0 + 9) z0 (cm_X7_close_0 vl K go x2 x3 x4 x7 x8 x9 x10 x11 r0 r1 r5 r6 t0 t1 z) := by
  unfold cm_X7_close_0
  exact (fo_cs0 ff_J7_fill_fda19 (fun g hg => by omega) hz (fun z1 h_z1 => (fo_cs0 ff_J7_fill_fda19 (fun g hg => by omega) h_z1 (fun z2 h_z2 => (fo_cs0 ff_X7_empty (fun g hg => by omega) h_z2 (fun z3 h_z3 => (hgo 1 _ _ _ _ _ _ _ _ _ _ _ _ _ _ z3 h_z3 (fun _ => by omega) (fun _ => by omega) (fun _ => by omega) (fun _ => by omega))))))))
theorem fb_X7_close_1 {K : Nat} {vl : Nat → Nat} {z0 z : ow_MS} {pr0 : Nat} {pr1 : Nat} {go : Nat → Int32 → Int32 → Int32 → Int32 → Int32 → Int32 → Int32 → Int32 → Nat → Nat → Nat → Nat → Int32 → Int32 → ow_MS → Option ow_MS} {x2 : Int32} {x3 : Int32} {x4 : Int32} {x7 : Int32} {x8 : Int32} {x9 : Int32} {x10 : Int32} {x11 : Int32} {r0 : Nat} {r1 : Nat} {r5 : Nat} {r6 : Nat} {t0 : Int32} {t1 : Int32} (hgo : ∀ (L : Nat) (x2 : Int32) (x3 : Int32) (x4 : Int32) (x7 : Int32) (x8 : Int32) (x9 : Int32) (x10 : Int32) (x11 : Int32) (r0 : Nat) (r1 : Nat) (r5 : Nat) (r6 : Nat) (t0 : Int32) (t1 : Int32) (z : ow_MS), fr (fun g => pr0 + 1 ≤ g ∧ g ≤ pr0 + 9) z0 z → (L = 0 ∨ L = 1 ∨ L = 2 ∨ L = 3 ∨ L = 4 ∨ L = 5 ∨ L = 6 → r0 = pr0) → (L = 0 ∨ L = 1 ∨ L = 2 ∨ L = 3 ∨ L = 4 ∨ L = 5 ∨ L = 6 → r1 = pr1) → (L = 1 ∨ L = 2 ∨ L = 3 ∨ L = 4 ∨ L = 5 ∨ L = 6 → r5 = pr0 + 4) → (L = 1 ∨ L = 2 ∨ L = 3 ∨ L = 4 ∨ L = 5 ∨ L = 6 → r6 = pr0 + 7) → Fo id (fun g => pr0 + 1 ≤ g ∧ g ≤ pr0 + 9) z0 (go L x2 x3 x4 x7 x8 x9 x10 x11 r0 r1 r5 r6 t0 t1 z)) (hz : fr (fun g => pr0 + 1 ≤ g ∧ g ≤ pr0 + 9) z0 z) (e_r0 : r0 = pr0) (e_r1 : r1 = pr1) (e_r5 : r5 = pr0 + 4) (e_r6 : r6 = pr0 + 7) : Fo id (fun g => pr0 + 1 ≤ g ∧ g ≤ pr0 + 9) z0 (cm_X7_close_1 vl K go x2 x3 x4 x7 x8 x9 x10 x11 r0 r1 r5 r6 t0 t1 z) := by
  unfold cm_X7_close_1
  exact (fo_if (hgo 4 _ _ _ _ _ _ _ _ _ _ _ _ _ _ z hz (fun _ => by omega) (fun _ => by omega) (fun _ => by omega) (fun _ => by omega)) (fo_if (hgo 4 _ _ _ _ _ _ _ _ _ _ _ _ _ _ z hz (fun _ => by omega) (fun _ => by omega) (fun _ => by omega) (fun _ => by omega)) (fc_crI (fun v4 => (fo_if (hgo 2 _ _ _ _ _ _ _ _ _ _ _ _ _ _ z hz (fun _ => by omega) (fun _ => by omega) (fun _ => by omega) (fun _ => by omega)) (hgo 2 _ _ _ _ _ _ _ _ _ _ _ _ _ _ z hz (fun _ => by omega) (fun _ => by omega) (fun _ => by omega) (fun _ => by omega)))))))
theorem fb_X7_close_2 {K : Nat} {vl : Nat → Nat} {z0 z : ow_MS} {pr0 : Nat} {pr1 : Nat} {go : Nat → Int32 → Int32 → Int32 → Int32 → Int32 → Int32 → Int32 → Int32 → Nat → Nat → Nat → Nat → Int32 → Int32 → ow_MS → Option ow_MS} {x2 : Int32} {x3 : Int32} {x4 : Int32} {x7 : Int32} {x8 : Int32} {x9 : Int32} {x10 : Int32} {x11 : Int32} {r0 : Nat} {r1 : Nat} {r5 : Nat} {r6 : Nat} {t0 : Int32} {t1 : Int32} (hgo : ∀ (L : Nat) (x2 : Int32) (x3 : Int32) (x4 : Int32) (x7 : Int32) (x8 : Int32) (x9 : Int32) (x10 : Int32) (x11 : Int32) (r0 : Nat) (r1 : Nat) (r5 : Nat) (r6 : Nat) (t0 : Int32) (t1 : Int32) (z : ow_MS), fr (fun g => pr0 + 1 ≤ g ∧ g ≤ pr0 + 9) z0 z → (L = 0 ∨ L = 1 ∨ L = 2 ∨ L = 3 ∨ L = 4 ∨ L = 5 ∨ L = 6 → r0 = pr0) → (L = 0 ∨ L = 1 ∨ L = 2 ∨ L = 3 ∨ L = 4 ∨ L = 5 ∨ L = 6 → r1 = pr1) → (L = 1 ∨ L = 2 ∨ L = 3 ∨ L = 4 ∨ L = 5 ∨ L = 6 → r5 = pr0 + 4) → (L = 1 ∨ L = 2 ∨ L = 3 ∨ L = 4 ∨ L = 5 ∨ L = 6 → r6 = pr0 + 7) → Fo id (fun g => pr0 + 1 ≤ g ∧ g ≤ pr0 + 9) z0 (go L x2 x3 x4 x7 x8 x9 x10 x11 r0 r1 r5 r6 t0 t1 z)) (hz : fr (fun g => pr0 + 1 ≤ g ∧ g ≤ pr0 + 9) z0 z) (e_r0 : r0 = pr0) (e_r1 : r1 = pr1) (e_r5 : r5 = pr0 + 4) (e_r6 : r6 = pr0 + 7) : Fo id (fun g => pr0 + 1 ≤ g ∧ g ≤ pr0 + 9) z0 (cm_X7_close_2 vl K go x2 x3 x4 x7 x8 x9 x10 x11 r0 r1 r5 r6 t0 t1 z) := by
  unfold cm_X7_close_2
  exact (fo_cs0 ff_X7_extend (fun g hg => by omega) hz (fun z5 h_z5 => (fo_cs0 ff_X7_extend (fun g hg => by omega) h_z5 (fun z6 h_z6 => (fc_ctI (by omega) h_z6 (fun z7 h_z7 => (fc_ctI (by omega) h_z7 (fun z8 h_z8 => (fo_if (hgo 3 _ _ _ _ _ _ _ _ _ _ _ _ _ _ z8 h_z8 (fun _ => by omega) (fun _ => by omega) (fun _ => by omega) (fun _ => by omega)) (hgo 3 _ _ _ _ _ _ _ _ _ _ _ _ _ _ z8 h_z8 (fun _ => by omega) (fun _ => by omega) (fun _ => by omega) (fun _ => by omega)))))))))))
theorem fb_X7_close_3 {K : Nat} {vl : Nat → Nat} {z0 z : ow_MS} {pr0 : Nat} {pr1 : Nat} {go : Nat → Int32 → Int32 → Int32 → Int32 → Int32 → Int32 → Int32 → Int32 → Nat → Nat → Nat → Nat → Int32 → Int32 → ow_MS → Option ow_MS} {x2 : Int32} {x3 : Int32} {x4 : Int32} {x7 : Int32} {x8 : Int32} {x9 : Int32} {x10 : Int32} {x11 : Int32} {r0 : Nat} {r1 : Nat} {r5 : Nat} {r6 : Nat} {t0 : Int32} {t1 : Int32} (hgo : ∀ (L : Nat) (x2 : Int32) (x3 : Int32) (x4 : Int32) (x7 : Int32) (x8 : Int32) (x9 : Int32) (x10 : Int32) (x11 : Int32) (r0 : Nat) (r1 : Nat) (r5 : Nat) (r6 : Nat) (t0 : Int32) (t1 : Int32) (z : ow_MS), fr (fun g => pr0 + 1 ≤ g ∧ g ≤ pr0 + 9) z0 z → (L = 0 ∨ L = 1 ∨ L = 2 ∨ L = 3 ∨ L = 4 ∨ L = 5 ∨ L = 6 → r0 = pr0) → (L = 0 ∨ L = 1 ∨ L = 2 ∨ L = 3 ∨ L = 4 ∨ L = 5 ∨ L = 6 → r1 = pr1) → (L = 1 ∨ L = 2 ∨ L = 3 ∨ L = 4 ∨ L = 5 ∨ L = 6 → r5 = pr0 + 4) → (L = 1 ∨ L = 2 ∨ L = 3 ∨ L = 4 ∨ L = 5 ∨ L = 6 → r6 = pr0 + 7) → Fo id (fun g => pr0 + 1 ≤ g ∧ g ≤ pr0 + 9) z0 (go L x2 x3 x4 x7 x8 x9 x10 x11 r0 r1 r5 r6 t0 t1 z)) (hz : fr (fun g => pr0 + 1 ≤ g ∧ g ≤ pr0 + 9) z0 z) (e_r0 : r0 = pr0) (e_r1 : r1 = pr1) (e_r5 : r5 = pr0 + 4) (e_r6 : r6 = pr0 + 7) : Fo id (fun g => pr0 + 1 ≤ g ∧ g ≤ pr0 + 9) z0 (cm_X7_close_3 vl K go x2 x3 x4 x7 x8 x9 x10 x11 r0 r1 r5 r6 t0 t1 z) := by
  unfold cm_X7_close_3
  exact (fc_ctI (by omega) hz (fun z9 h_z9 => (fo_rdF (fun v10 => (fo_wrF (by omega) h_z9 (fun z11 h_z11 => (hgo 1 _ _ _ _ _ _ _ _ _ _ _ _ _ _ z11 h_z11 (fun _ => by omega) (fun _ => by omega) (fun _ => by omega) (fun _ => by omega))))))))
theorem fb_X7_close_4 {K : Nat} {vl : Nat → Nat} {z0 z : ow_MS} {pr0 : Nat} {pr1 : Nat} {go : Nat → Int32 → Int32 → Int32 → Int32 → Int32 → Int32 → Int32 → Int32 → Nat → Nat → Nat → Nat → Int32 → Int32 → ow_MS → Option ow_MS} {x2 : Int32} {x3 : Int32} {x4 : Int32} {x7 : Int32} {x8 : Int32} {x9 : Int32} {x10 : Int32} {x11 : Int32} {r0 : Nat} {r1 : Nat} {r5 : Nat} {r6 : Nat} {t0 : Int32} {t1 : Int32} (hgo : ∀ (L : Nat) (x2 : Int32) (x3 : Int32) (x4 : Int32) (x7 : Int32) (x8 : Int32) (x9 : Int32) (x10 : Int32) (x11 : Int32) (r0 : Nat) (r1 : Nat) (r5 : Nat) (r6 : Nat) (t0 : Int32) (t1 : Int32) (z : ow_MS), fr (fun g => pr0 + 1 ≤ g ∧ g ≤ pr0 + 9) z0 z → (L = 0 ∨ L = 1 ∨ L = 2 ∨ L = 3 ∨ L = 4 ∨ L = 5 ∨ L = 6 → r0 = pr0) → (L = 0 ∨ L = 1 ∨ L = 2 ∨ L = 3 ∨ L = 4 ∨ L = 5 ∨ L = 6 → r1 = pr1) → (L = 1 ∨ L = 2 ∨ L = 3 ∨ L = 4 ∨ L = 5 ∨ L = 6 → r5 = pr0 + 4) → (L = 1 ∨ L = 2 ∨ L = 3 ∨ L = 4 ∨ L = 5 ∨ L = 6 → r6 = pr0 + 7) → Fo id (fun g => pr0 + 1 ≤ g ∧ g ≤ pr0 + 9) z0 (go L x2 x3 x4 x7 x8 x9 x10 x11 r0 r1 r5 r6 t0 t1 z)) (hz : fr (fun g => pr0 + 1 ≤ g ∧ g ≤ pr0 + 9) z0 z) (e_r0 : r0 = pr0) (e_r1 : r1 = pr1) (e_r5 : r5 = pr0 + 4) (e_r6 : r6 = pr0 + 7) : Fo id (fun g => pr0 + 1 ≤ g ∧ g ≤ pr0 + 9) z0 (cm_X7_close_4 vl K go x2 x3 x4 x7 x8 x9 x10 x11 r0 r1 r5 r6 t0 t1 z) := by
  unfold cm_X7_close_4
  exact (hgo 5 _ _ _ _ _ _ _ _ _ _ _ _ _ _ z hz (fun _ => by omega) (fun _ => by omega) (fun _ => by omega) (fun _ => by omega))
theorem fb_X7_close_5 {K : Nat} {vl : Nat → Nat} {z0 z : ow_MS} {pr0 : Nat} {pr1 : Nat} {go : Nat → Int32 → Int32 → Int32 → Int32 → Int32 → Int32 → Int32 → Int32 → Nat → Nat → Nat → Nat → Int32 → Int32 → ow_MS → Option ow_MS} {x2 : Int32} {x3 : Int32} {x4 : Int32} {x7 : Int32} {x8 : Int32} {x9 : Int32} {x10 : Int32} {x11 : Int32} {r0 : Nat} {r1 : Nat} {r5 : Nat} {r6 : Nat} {t0 : Int32} {t1 : Int32} (hgo : ∀ (L : Nat) (x2 : Int32) (x3 : Int32) (x4 : Int32) (x7 : Int32) (x8 : Int32) (x9 : Int32) (x10 : Int32) (x11 : Int32) (r0 : Nat) (r1 : Nat) (r5 : Nat) (r6 : Nat) (t0 : Int32) (t1 : Int32) (z : ow_MS), fr (fun g => pr0 + 1 ≤ g ∧ g ≤ pr0 + 9) z0 z → (L = 0 ∨ L = 1 ∨ L = 2 ∨ L = 3 ∨ L = 4 ∨ L = 5 ∨ L = 6 → r0 = pr0) → (L = 0 ∨ L = 1 ∨ L = 2 ∨ L = 3 ∨ L = 4 ∨ L = 5 ∨ L = 6 → r1 = pr1) → (L = 1 ∨ L = 2 ∨ L = 3 ∨ L = 4 ∨ L = 5 ∨ L = 6 → r5 = pr0 + 4) → (L = 1 ∨ L = 2 ∨ L = 3 ∨ L = 4 ∨ L = 5 ∨ L = 6 → r6 = pr0 + 7) → Fo id (fun g => pr0 + 1 ≤ g ∧ g ≤ pr0 + 9) z0 (go L x2 x3 x4 x7 x8 x9 x10 x11 r0 r1 r5 r6 t0 t1 z)) (hz : fr (fun g => pr0 + 1 ≤ g ∧ g ≤ pr0 + 9) z0 z) (e_r0 : r0 = pr0) (e_r1 : r1 = pr1) (e_r5 : r5 = pr0 + 4) (e_r6 : r6 = pr0 + 7) : Fo id (fun g => pr0 + 1 ≤ g ∧ g ≤ pr0 + 9) z0 (cm_X7_close_5 vl K go x2 x3 x4 x7 x8 x9 x10 x11 r0 r1 r5 r6 t0 t1 z) := by
  unfold cm_X7_close_5
  exact (fo_if (fo_some hz) (fc_crI (fun v12 => (fo_if (fo_rdF (fun v16 => (fo_wrF (by omega) hz (fun z17 h_z17 => (hgo 6 _ _ _ _ _ _ _ _ _ _ _ _ _ _ z17 h_z17 (fun _ => by omega) (fun _ => by omega) (fun _ => by omega) (fun _ => by omega)))))) (fc_crI (fun v13 => (fc_crI (fun v14 => (fo_cs0 ff_X7_link (fun g hg => by omega) hz (fun z15 h_z15 => (hgo 6 _ _ _ _ _ _ _ _ _ _ _ _ _ _ z15 h_z15 (fun _ => by omega) (fun _ => by omega) (fun _ => by omega) (fun _ => by omega))))))))))))
theorem fb_X7_close_6 {K : Nat} {vl : Nat → Nat} {z0 z : ow_MS} {pr0 : Nat} {pr1 : Nat} {go : Nat → Int32 → Int32 → Int32 → Int32 → Int32 → Int32 → Int32 → Int32 → Nat → Nat → Nat → Nat → Int32 → Int32 → ow_MS → Option ow_MS} {x2 : Int32} {x3 : Int32} {x4 : Int32} {x7 : Int32} {x8 : Int32} {x9 : Int32} {x10 : Int32} {x11 : Int32} {r0 : Nat} {r1 : Nat} {r5 : Nat} {r6 : Nat} {t0 : Int32} {t1 : Int32} (hgo : ∀ (L : Nat) (x2 : Int32) (x3 : Int32) (x4 : Int32) (x7 : Int32) (x8 : Int32) (x9 : Int32) (x10 : Int32) (x11 : Int32) (r0 : Nat) (r1 : Nat) (r5 : Nat) (r6 : Nat) (t0 : Int32) (t1 : Int32) (z : ow_MS), fr (fun g => pr0 + 1 ≤ g ∧ g ≤ pr0 + 9) z0 z → (L = 0 ∨ L = 1 ∨ L = 2 ∨ L = 3 ∨ L = 4 ∨ L = 5 ∨ L = 6 → r0 = pr0) → (L = 0 ∨ L = 1 ∨ L = 2 ∨ L = 3 ∨ L = 4 ∨ L = 5 ∨ L = 6 → r1 = pr1) → (L = 1 ∨ L = 2 ∨ L = 3 ∨ L = 4 ∨ L = 5 ∨ L = 6 → r5 = pr0 + 4) → (L = 1 ∨ L = 2 ∨ L = 3 ∨ L = 4 ∨ L = 5 ∨ L = 6 → r6 = pr0 + 7) → Fo id (fun g => pr0 + 1 ≤ g ∧ g ≤ pr0 + 9) z0 (go L x2 x3 x4 x7 x8 x9 x10 x11 r0 r1 r5 r6 t0 t1 z)) (hz : fr (fun g => pr0 + 1 ≤ g ∧ g ≤ pr0 + 9) z0 z) (e_r0 : r0 = pr0) (e_r1 : r1 = pr1) (e_r5 : r5 = pr0 + 4) (e_r6 : r6 = pr0 + 7) : Fo id (fun g => pr0 + 1 ≤ g ∧ g ≤ pr0 + 9) z0 (cm_X7_close_6 vl K go x2 x3 x4 x7 x8 x9 x10 x11 r0 r1 r5 r6 t0 t1 z) := by
  unfold cm_X7_close_6
  exact (hgo 5 _ _ _ _ _ _ _ _ _ _ _ _ _ _ z hz (fun _ => by omega) (fun _ => by omega) (fun _ => by omega) (fun _ => by omega))
theorem fq_X7_close {K : Nat} {vl : Nat → Nat} {z0 : ow_MS} {pr0 : Nat} {pr1 : Nat} : ∀ (k L : Nat) (x2 : Int32) (x3 : Int32) (x4 : Int32) (x7 : Int32) (x8 : Int32) (x9 : Int32) (x10 : Int32) (x11 : Int32) (r0 : Nat) (r1 : Nat) (r5 : Nat) (r6 : Nat) (t0 : Int32) (t1 : Int32) (z : ow_MS), fr (fun g => pr0 + 1 ≤ g ∧ g ≤ pr0 + 9) z0 z → (L = 0 ∨ L = 1 ∨ L = 2 ∨ L = 3 ∨ L = 4 ∨ L = 5 ∨ L = 6 → r0 = pr0) → (L = 0 ∨ L = 1 ∨ L = 2 ∨ L = 3 ∨ L = 4 ∨ L = 5 ∨ L = 6 → r1 = pr1) → (L = 1 ∨ L = 2 ∨ L = 3 ∨ L = 4 ∨ L = 5 ∨ L = 6 → r5 = pr0 + 4) → (L = 1 ∨ L = 2 ∨ L = 3 ∨ L = 4 ∨ L = 5 ∨ L = 6 → r6 = pr0 + 7) → Fo id (fun g => pr0 + 1 ≤ g ∧ g ≤ pr0 + 9) z0 (c_X7_close vl K k L x2 x3 x4 x7 x8 x9 x10 x11 r0 r1 r5 r6 t0 t1 z)
  | 0 => by
    intros
    exact fo_none
  | k + 1 => by
    intro L x2 x3 x4 x7 x8 x9 x10 x11 r0 r1 r5 r6 t0 t1 z hz h9_r0 h9_r1 h9_r5 h9_r6
    show Fo id (fun g => pr0 + 1 ≤ g ∧ g ≤ pr0 + 9) z0 (cb_X7_close vl K (c_X7_close vl K k) L x2 x3 x4 x7 x8 x9 x10 x11 r0 r1 r5 r6 t0 t1 z)
    unfold cb_X7_close
    split
    · exact fb_X7_close_0 (fq_X7_close k) hz (h9_r0 (by decide)) (h9_r1 (by decide))
    · exact fb_X7_close_1 (fq_X7_close k) hz (h9_r0 (by decide)) (h9_r1 (by decide)) (h9_r5 (by decide)) (h9_r6 (by decide))
    · exact fb_X7_close_2 (fq_X7_close k) hz (h9_r0 (by decide)) (h9_r1 (by decide)) (h9_r5 (by decide)) (h9_r6 (by decide))
    · exact fb_X7_close_3 (fq_X7_close k) hz (h9_r0 (by decide)) (h9_r1 (by decide)) (h9_r5 (by decide)) (h9_r6 (by decide))
    · exact fb_X7_close_4 (fq_X7_close k) hz (h9_r0 (by decide)) (h9_r1 (by decide)) (h9_r5 (by decide)) (h9_r6 (by decide))
    · exact fb_X7_close_5 (fq_X7_close k) hz (h9_r0 (by decide)) (h9_r1 (by decide)) (h9_r5 (by decide)) (h9_r6 (by decide))
    · exact fb_X7_close_6 (fq_X7_close k) hz (h9_r0 (by decide)) (h9_r1 (by decide)) (h9_r5 (by decide)) (h9_r6 (by decide))
    · exact fo_none
theorem ff_X7_close {vl : Nat → Nat} {K : Nat} {r0 : Nat} {r1 : Nat} {x2 : Int32} {x3 : Int32} {x4 : Int32} {z : ow_MS} : Fo id (fun g => r0 + 1 ≤ g ∧ g ≤ r0 + 9) z (ce_X7_close vl K r0 r1 x2 x3 x4 z) := fq_X7_close (pr0 := r0) (pr1 := r1) K 0 _ _ _ _ _ _ _ _ _ _ _ _ _ _ z fr_rf (fun _ => rfl) (fun _ => rfl) (fun h9 => absurd h9 (by decide)) (fun h9 => absurd h9 (by decide))
theorem ff_X11_closure {vl : Nat → Nat} {K : Nat} {r0 : Nat} {x1 : Int32} {z : ow_MS} : Fo (fun r => r.2.2) (fun g => r0 + 1001 ≤ g ∧ g ≤ r0 + 1003 ∨ r0 + 4001 ≤ g ∧ g ≤ r0 + 4011 ∨ r0 + 7004 ≤ g ∧ g ≤ r0 + 7006 ∨ r0 + 8001 ≤ g ∧ g ≤ r0 + 8003 ∨ r0 + 9001 ≤ g ∧ g ≤ r0 + 9003 ∨ r0 + 10001 ≤ g ∧ g ≤ r0 + 10005) z (ce_X11_closure vl K r0 x1 z) := by
  unfold ce_X11_closure cm_X11_closure_0
  exact (fc_tc0 ff_X11_needBraid (fun g hg => hg.elim) fr_rf (fun k z h_e => (fo_some h_e)) (fun z1 h_z1 => (fc_crI (fun v3 => (fo_if (fc_tc1 ff_X11_freeDiagram (fun g hg => hg.elim) h_z1 (fun k z h_e => (fo_some h_e)) (fun v6 z4 h_z4 => (fc_crI (fun v7 => (fc_crI (fun v8 => (fo_cs0 ff_X7_close (fun g hg => by omega) h_z4 (fun z9 h_z9 => (fo_cs1 ff_X11_keep (fun g hg => by omega) h_z9 (fun v11 z10 h_z10 => (fo_some h_z10))))))))))) (fo_some h_z1))))))
theorem ff_X11_product {vl : Nat → Nat} {K : Nat} {r0 : Nat} {x1 : Int32} {x2 : Int32} {z : ow_MS} : Fo (fun r => r.2.2) (fun g => r0 + 13 ≤ g ∧ g ≤ r0 + 15) z (ce_X11_product vl K r0 x1 x2 z) := by
  unfold ce_X11_product cm_X11_product_0
  exact (fc_tc0 ff_X11_needBraid (fun g hg => hg.elim) fr_rf (fun k z h_e => (fo_some h_e)) (fun z1 h_z1 => (fc_tc0 ff_X11_needBraid (fun g hg => hg.elim) h_z1 (fun k z h_e => (fo_some h_e)) (fun z3 h_z3 => (fc_crI (fun v5 => (fc_crI (fun v6 => (fo_if (fc_crI (fun v7 => (fc_crI (fun v8 => (fo_if (fc_tc1 ff_X11_freeBraid (fun g hg => hg.elim) h_z3 (fun k z h_e => (fo_some h_e)) (fun v11 z9 h_z9 => (fc_crI (fun v12 => (fc_cpB (by omega) h_z9 (fun z13 h_z13 => (fc_crI (fun v14 => (fc_crI (fun v15 => (fc_cpB (by omega) h_z13 (fun z16 h_z16 => (fc_crI (fun v17 => (fc_crI (fun v18 => (fc_ctI (by omega) h_z16 (fun z19 h_z19 => (fc_crI (fun v20 => (fc_ctI (by omega) h_z19 (fun z21 h_z21 => (fo_some h_z21))))))))))))))))))))))) (fo_some h_z3)))))) (fo_some h_z3))))))))))
theorem fb_X11_inverse_0 {K : Nat} {vl : Nat → Nat} {z0 z : ow_MS} {pr0 : Nat} {go : Nat → Int32 → Int32 → Int32 → Int32 → Nat → ow_MS → Option (Nat × Int32 × ow_MS)} {x1 : Int32} {x2 : Int32} {x3 : Int32} {x4 : Int32} {r0 : Nat} (hgo : ∀ (L : Nat) (x1 : Int32) (x2 : Int32) (x3 : Int32) (x4 : Int32) (r0 : Nat) (z : ow_MS), fr (fun g => pr0 + 13 ≤ g ∧ g ≤ pr0 + 15) z0 z → (L = 0 ∨ L = 1 → r0 = pr0) → Fo (fun r => r.2.2) (fun g => pr0 + 13 ≤ g ∧ g ≤ pr0 + 15) z0 (go L x1 x2 x3 x4 r0 z)) (hz : fr (fun g => pr0 + 13 ≤ g ∧ g ≤ pr0 + 15) z0 z) (e_r0 : r0 = pr0) : Fo (fun r => r.2.2) (fun g => pr0 + 13 ≤ g ∧ g ≤ pr0 + 15) z0 (cm_X11_inverse_0 vl K go x1 x2 x3 x4 r0 z) := by
  unfold cm_X11_inverse_0
  exact (fc_tc0 ff_X11_needBraid (fun g hg => hg.elim) hz (fun k z h_e => (fo_some h_e)) (fun z1 h_z1 => (fc_tc1 ff_X11_freeBraid (fun g hg => hg.elim) h_z1 (fun k z h_e => (fo_some h_e)) (fun v5 z3 h_z3 => (fc_crI (fun v6 => (hgo 1 _ _ _ _ _ z3 h_z3 (fun _ => by omega))))))))
theorem fb_X11_inverse_1 {K : Nat} {vl : Nat → Nat} {z0 z : ow_MS} {pr0 : Nat} {go : Nat → Int32 → Int32 → Int32 → Int32 → Nat → ow_MS → Option (Nat × Int32 × ow_MS)} {x1 : Int32} {x2 : Int32} {x3 : Int32} {x4 : Int32} {r0 : Nat} (hgo : ∀ (L : Nat) (x1 : Int32) (x2 : Int32) (x3 : Int32) (x4 : Int32) (r0 : Nat) (z : ow_MS), fr (fun g => pr0 + 13 ≤ g ∧ g ≤ pr0 + 15) z0 z → (L = 0 ∨ L = 1 → r0 = pr0) → Fo (fun r => r.2.2) (fun g => pr0 + 13 ≤ g ∧ g ≤ pr0 + 15) z0 (go L x1 x2 x3 x4 r0 z)) (hz : fr (fun g => pr0 + 13 ≤ g ∧ g ≤ pr0 + 15) z0 z) (e_r0 : r0 = pr0) : Fo (fun r => r.2.2) (fun g => pr0 + 13 ≤ g ∧ g ≤ pr0 + 15) z0 (cm_X11_inverse_1 vl K go x1 x2 x3 x4 r0 z) := by
  unfold cm_X11_inverse_1
  exact (fo_if (fc_ctI (by omega) hz (fun z7 h_z7 => (fc_crI (fun v8 => (fc_ctI (by omega) h_z7 (fun z9 h_z9 => (fo_some h_z9))))))) (fc_crI (fun v10 => (fc_ctB (by omega) hz (fun z11 h_z11 => (hgo 1 _ _ _ _ _ z11 h_z11 (fun _ => by omega)))))))
theorem fq_X11_inverse {K : Nat} {vl : Nat → Nat} {z0 : ow_MS} {pr0 : Nat} : ∀ (k L : Nat) (x1 : Int32) (x2 : Int32) (x3 : Int32) (x4 : Int32) (r0 : Nat) (z : ow_MS), fr (fun g => pr0 + 13 ≤ g ∧ g ≤ pr0 + 15) z0 z → (L = 0 ∨ L = 1 → r0 = pr0) → Fo (fun r => r.2.2) (fun g => pr0 + 13 ≤ g ∧ g ≤ pr0 + 15) z0 (c_X11_inverse vl K k L x1 x2 x3 x4 r0 z)
  | 0 => by
    intros
    exact fo_none
  | k + 1 => by
    intro L x1 x2 x3 x4 r0 z hz h9_r0
    show Fo (fun r => r.2.2) (fun g => pr0 + 13 ≤ g ∧ g ≤ pr0 + 15) z0 (cb_X11_inverse vl K (c_X11_inverse vl K k) L x1 x2 x3 x4 r0 z)
    unfold cb_X11_inverse
    split
    · exact fb_X11_inverse_0 (fq_X11_inverse k) hz (h9_r0 (by decide))
    · exact fb_X11_inverse_1 (fq_X11_inverse k) hz (h9_r0 (by decide))
    · exact fo_none
theorem ff_X11_inverse {vl : Nat → Nat} {K : Nat} {r0 : Nat} {x1 : Int32} {z : ow_MS} : Fo (fun r => r.2.2) (fun g => r0 + 13 ≤ g ∧ g ≤ r0 + 15) z (ce_X11_inverse vl K r0 x1 z) := fq_X11_inverse (pr0 := r0) K 0 _ _ _ _ _ z fr_rf (fun _ => rfl)
theorem fb_X4_paint_0 {K : Nat} {vl : Nat → Nat} {z0 z : ow_MS} {pr0 : Nat} {pr1 : Nat} {go : Nat → Int32 → Int32 → Int32 → Int32 → Int32 → Int32 → Int32 → Nat → Nat → ow_MS → Option ow_MS} {x2 : Int32} {x3 : Int32} {x4 : Int32} {x5 : Int32} {x6 : Int32} {x7 : Int32} {x8 : Int32} {r0 : Nat} {r1 : Nat} (hgo : ∀ (L : Nat) (x2 : Int32) (x3 : Int32) (x4 : Int32) (x5 : Int32) (x6 : Int32) (x7 : Int32) (x8 : Int32) (r0 : Nat) (r1 : Nat) (z : ow_MS), fr (fun g => g = pr0 + 3) z0 z → (L = 0 ∨ L = 1 ∨ L = 2 ∨ L = 3 ∨ L = 4 ∨ L = 5 → r0 = pr0) → (L = 0 ∨ L = 1 ∨ L = 2 ∨ L = 3 ∨ L = 4 ∨ L = 5 → r1 = pr1) → Fo id (fun g => g = pr0 + 3) z0 (go L x2 x3 x4 x5 x6 x7 x8 r0 r1 z)) (hz : fr (fun g => g = pr0 + 3) z0 z) (e_r0 : r0 = pr0) (e_r1 : r1 = pr1) : Fo id (fun g => g = pr0 + 3) z0 (cm_X4_paint_0 vl K go x2 x3 x4 x5 x6 x7 x8 r0 r1 z) := by
  unfold cm_X4_paint_0
  exact (hgo 1 _ _ _ _ _ _ _ _ _ z hz (fun _ => by omega) (fun _ => by omega))
theorem fb_X4_paint_1 {K : Nat} {vl : Nat → Nat} {z0 z : ow_MS} {pr0 : Nat} {pr1 : Nat} {go : Nat → Int32 → Int32 → Int32 → Int32 → Int32 → Int32 → Int32 → Nat → Nat → ow_MS → Option ow_MS} {x2 : Int32} {x3 : Int32} {x4 : Int32} {x5 : Int32} {x6 : Int32} {x7 : Int32} {x8 : Int32} {r0 : Nat} {r1 : Nat} (hgo : ∀ (L : Nat) (x2 : Int32) (x3 : Int32) (x4 : Int32) (x5 : Int32) (x6 : Int32) (x7 : Int32) (x8 : Int32) (r0 : Nat) (r1 : Nat) (z : ow_MS), fr (fun g => g = pr0 + 3) z0 z → (L = 0 ∨ L = 1 ∨ L = 2 ∨ L = 3 ∨ L = 4 ∨ L = 5 → r0 = pr0) → (L = 0 ∨ L = 1 ∨ L = 2 ∨ L = 3 ∨ L = 4 ∨ L = 5 → r1 = pr1) → Fo id (fun g => g = pr0 + 3) z0 (go L x2 x3 x4 x5 x6 x7 x8 r0 r1 z)) (hz : fr (fun g => g = pr0 + 3) z0 z) (e_r0 : r0 = pr0) (e_r1 : r1 = pr1) : Fo id (fun g => g = pr0 + 3) z0 (cm_X4_paint_1 vl K go x2 x3 x4 x5 x6 x7 x8 r0 r1 z) := by
  unfold cm_X4_paint_1
  exact (fo_if (fo_some hz) (fo_if (fo_some hz) (hgo 2 _ _ _ _ _ _ _ _ _ z hz (fun _ => by omega) (fun _ => by omega))))
theorem fb_X4_paint_2 {K : Nat} {vl : Nat → Nat} {z0 z : ow_MS} {pr0 : Nat} {pr1 : Nat} {go : Nat → Int32 → Int32 → Int32 → Int32 → Int32 → Int32 → Int32 → Nat → Nat → ow_MS → Option ow_MS} {x2 : Int32} {x3 : Int32} {x4 : Int32} {x5 : Int32} {x6 : Int32} {x7 : Int32} {x8 : Int32} {r0 : Nat} {r1 : Nat} (hgo : ∀ (L : Nat) (x2 : Int32) (x3 : Int32) (x4 : Int32) (x5 : Int32) (x6 : Int32) (x7 : Int32) (x8 : Int32) (r0 : Nat) (r1 : Nat) (z : ow_MS), fr (fun g => g = pr0 + 3) z0 z → (L = 0 ∨ L = 1 ∨ L = 2 ∨ L = 3 ∨ L = 4 ∨ L = 5 → r0 = pr0) → (L = 0 ∨ L = 1 ∨ L = 2 ∨ L = 3 ∨ L = 4 ∨ L = 5 → r1 = pr1) → Fo id (fun g => g = pr0 + 3) z0 (go L x2 x3 x4 x5 x6 x7 x8 r0 r1 z)) (hz : fr (fun g => g = pr0 + 3) z0 z) (e_r0 : r0 = pr0) (e_r1 : r1 = pr1) : Fo id (fun g => g = pr0 + 3) z0 (cm_X4_paint_2 vl K go x2 x3 x4 x5 x6 x7 x8 r0 r1 z) := by
  unfold cm_X4_paint_2
  exact (fo_rdF (fun v1 => (fo_if (hgo 1 _ _ _ _ _ _ _ _ _ z hz (fun _ => by omega) (fun _ => by omega)) (fc_crI (fun v2 => (fo_if (fc_crI (fun v3 => (fc_crI (fun v4 => (fo_if (fc_ctI (by omega) hz (fun z5 h_z5 => (hgo 3 _ _ _ _ _ _ _ _ _ z5 h_z5 (fun _ => by omega) (fun _ => by omega)))) (hgo 3 _ _ _ _ _ _ _ _ _ z hz (fun _ => by omega) (fun _ => by omega))))))) (hgo 5 _ _ _ _ _ _ _ _ _ z hz (fun _ => by omega) (fun _ => by omega))))))))
theorem fb_X4_paint_3 {K : Nat} {vl : Nat → Nat} {z0 z : ow_MS} {pr0 : Nat} {pr1 : Nat} {go : Nat → Int32 → Int32 → Int32 → Int32 → Int32 → Int32 → Int32 → Nat → Nat → ow_MS → Option ow_MS} {x2 : Int32} {x3 : Int32} {x4 : Int32} {x5 : Int32} {x6 : Int32} {x7 : Int32} {x8 : Int32} {r0 : Nat} {r1 : Nat} (hgo : ∀ (L : Nat) (x2 : Int32) (x3 : Int32) (x4 : Int32) (x5 : Int32) (x6 : Int32) (x7 : Int32) (x8 : Int32) (r0 : Nat) (r1 : Nat) (z : ow_MS), fr (fun g => g = pr0 + 3) z0 z → (L = 0 ∨ L = 1 ∨ L = 2 ∨ L = 3 ∨ L = 4 ∨ L = 5 → r0 = pr0) → (L = 0 ∨ L = 1 ∨ L = 2 ∨ L = 3 ∨ L = 4 ∨ L = 5 → r1 = pr1) → Fo id (fun g => g = pr0 + 3) z0 (go L x2 x3 x4 x5 x6 x7 x8 r0 r1 z)) (hz : fr (fun g => g = pr0 + 3) z0 z) (e_r0 : r0 = pr0) (e_r1 : r1 = pr1) : Fo id (fun g => g = pr0 + 3) z0 (cm_X4_paint_3 vl K go x2 x3 x4 x5 x6 x7 x8 r0 r1 z) := by
  unfold cm_X4_paint_3
  exact (fc_crI (fun v6 => (fo_if (hgo 4 _ _ _ _ _ _ _ _ _ z hz (fun _ => by omega) (fun _ => by omega)) (fc_crI (fun v7 => (fo_if (fc_crI (fun v8 => (fc_ctI (by omega) hz (fun z9 h_z9 => (hgo 5 _ _ _ _ _ _ _ _ _ z9 h_z9 (fun _ => by omega) (fun _ => by omega)))))) (hgo 4 _ _ _ _ _ _ _ _ _ z hz (fun _ => by omega) (fun _ => by omega))))))))
theorem fb_X4_paint_4 {K : Nat} {vl : Nat → Nat} {z0 z : ow_MS} {pr0 : Nat} {pr1 : Nat} {go : Nat → Int32 → Int32 → Int32 → Int32 → Int32 → Int32 → Int32 → Nat → Nat → ow_MS → Option ow_MS} {x2 : Int32} {x3 : Int32} {x4 : Int32} {x5 : Int32} {x6 : Int32} {x7 : Int32} {x8 : Int32} {r0 : Nat} {r1 : Nat} (hgo : ∀ (L : Nat) (x2 : Int32) (x3 : Int32) (x4 : Int32) (x5 : Int32) (x6 : Int32) (x7 : Int32) (x8 : Int32) (r0 : Nat) (r1 : Nat) (z : ow_MS), fr (fun g => g = pr0 + 3) z0 z → (L = 0 ∨ L = 1 ∨ L = 2 ∨ L = 3 ∨ L = 4 ∨ L = 5 → r0 = pr0) → (L = 0 ∨ L = 1 ∨ L = 2 ∨ L = 3 ∨ L = 4 ∨ L = 5 → r1 = pr1) → Fo id (fun g => g = pr0 + 3) z0 (go L x2 x3 x4 x5 x6 x7 x8 r0 r1 z)) (hz : fr (fun g => g = pr0 + 3) z0 z) (e_r0 : r0 = pr0) (e_r1 : r1 = pr1) : Fo id (fun g => g = pr0 + 3) z0 (cm_X4_paint_4 vl K go x2 x3 x4 x5 x6 x7 x8 r0 r1 z) := by
  unfold cm_X4_paint_4
  exact (fc_crI (fun v10 => (fo_if (fc_crI (fun v11 => (fo_if (hgo 5 _ _ _ _ _ _ _ _ _ z hz (fun _ => by omega) (fun _ => by omega)) (fc_crI (fun v12 => (fc_ctI (by omega) hz (fun z13 h_z13 => (hgo 5 _ _ _ _ _ _ _ _ _ z13 h_z13 (fun _ => by omega) (fun _ => by omega))))))))) (hgo 5 _ _ _ _ _ _ _ _ _ z hz (fun _ => by omega) (fun _ => by omega)))))
theorem fb_X4_paint_5 {K : Nat} {vl : Nat → Nat} {z0 z : ow_MS} {pr0 : Nat} {pr1 : Nat} {go : Nat → Int32 → Int32 → Int32 → Int32 → Int32 → Int32 → Int32 → Nat → Nat → ow_MS → Option ow_MS} {x2 : Int32} {x3 : Int32} {x4 : Int32} {x5 : Int32} {x6 : Int32} {x7 : Int32} {x8 : Int32} {r0 : Nat} {r1 : Nat} (hgo : ∀ (L : Nat) (x2 : Int32) (x3 : Int32) (x4 : Int32) (x5 : Int32) (x6 : Int32) (x7 : Int32) (x8 : Int32) (r0 : Nat) (r1 : Nat) (z : ow_MS), fr (fun g => g = pr0 + 3) z0 z → (L = 0 ∨ L = 1 ∨ L = 2 ∨ L = 3 ∨ L = 4 ∨ L = 5 → r0 = pr0) → (L = 0 ∨ L = 1 ∨ L = 2 ∨ L = 3 ∨ L = 4 ∨ L = 5 → r1 = pr1) → Fo id (fun g => g = pr0 + 3) z0 (go L x2 x3 x4 x5 x6 x7 x8 r0 r1 z)) (hz : fr (fun g => g = pr0 + 3) z0 z) (e_r0 : r0 = pr0) (e_r1 : r1 = pr1) : Fo id (fun g => g = pr0 + 3) z0 (cm_X4_paint_5 vl K go x2 x3 x4 x5 x6 x7 x8 r0 r1 z) := by
  unfold cm_X4_paint_5
  exact (hgo 2 _ _ _ _ _ _ _ _ _ z hz (fun _ => by omega) (fun _ => by omega))
theorem fq_X4_paint {K : Nat} {vl : Nat → Nat} {z0 : ow_MS} {pr0 : Nat} {pr1 : Nat} : ∀ (k L : Nat) (x2 : Int32) (x3 : Int32) (x4 : Int32) (x5 : Int32) (x6 : Int32) (x7 : Int32) (x8 : Int32) (r0 : Nat) (r1 : Nat) (z : ow_MS), fr (fun g => g = pr0 + 3) z0 z → (L = 0 ∨ L = 1 ∨ L = 2 ∨ L = 3 ∨ L = 4 ∨ L = 5 → r0 = pr0) → (L = 0 ∨ L = 1 ∨ L = 2 ∨ L = 3 ∨ L = 4 ∨ L = 5 → r1 = pr1) → Fo id (fun g => g = pr0 + 3) z0 (c_X4_paint vl K k L x2 x3 x4 x5 x6 x7 x8 r0 r1 z)
  | 0 => by
    intros
    exact fo_none
  | k + 1 => by
    intro L x2 x3 x4 x5 x6 x7 x8 r0 r1 z hz h9_r0 h9_r1
    show Fo id (fun g => g = pr0 + 3) z0 (cb_X4_paint vl K (c_X4_paint vl K k) L x2 x3 x4 x5 x6 x7 x8 r0 r1 z)
    unfold cb_X4_paint
    split
    · exact fb_X4_paint_0 (fq_X4_paint k) hz (h9_r0 (by decide)) (h9_r1 (by decide))
    · exact fb_X4_paint_1 (fq_X4_paint k) hz (h9_r0 (by decide)) (h9_r1 (by decide))
    · exact fb_X4_paint_2 (fq_X4_paint k) hz (h9_r0 (by decide)) (h9_r1 (by decide))
    · exact fb_X4_paint_3 (fq_X4_paint k) hz (h9_r0 (by decide)) (h9_r1 (by decide))
    · exact fb_X4_paint_4 (fq_X4_paint k) hz (h9_r0 (by decide)) (h9_r1 (by decide))
    · exact fb_X4_paint_5 (fq_X4_paint k) hz (h9_r0 (by decide)) (h9_r1 (by decide))
    · exact fo_none
theorem ff_X4_paint {vl : Nat → Nat} {K : Nat} {r0 : Nat} {r1 : Nat} {x2 : Int32} {z : ow_MS} : Fo id (fun g => g = r0 + 3) z (ce_X4_paint vl K r0 r1 x2 z) := fq_X4_paint (pr0 := r0) (pr1 := r1) K 0 _ _ _ _ _ _ _ _ _ z fr_rf (fun _ => rfl) (fun _ => rfl)
theorem fb_X4_numberRows_0 {K : Nat} {vl : Nat → Nat} {z0 z : ow_MS} {pr0 : Nat} {pr1 : Nat} {go : Nat → Int32 → Int32 → Int32 → Int32 → Int32 → Nat → Nat → ow_MS → Option (Int32 × ow_MS)} {x2 : Int32} {x3 : Int32} {x4 : Int32} {x5 : Int32} {x6 : Int32} {r0 : Nat} {r1 : Nat} (hgo : ∀ (L : Nat) (x2 : Int32) (x3 : Int32) (x4 : Int32) (x5 : Int32) (x6 : Int32) (r0 : Nat) (r1 : Nat) (z : ow_MS), fr (fun g => g = pr0 + 4) z0 z → (L = 0 ∨ L = 1 ∨ L = 2 → r0 = pr0) → (L = 0 ∨ L = 1 ∨ L = 2 → r1 = pr1) → Fo Prod.snd (fun g => g = pr0 + 4) z0 (go L x2 x3 x4 x5 x6 r0 r1 z)) (hz : fr (fun g => g = pr0 + 4) z0 z) (e_r0 : r0 = pr0) (e_r1 : r1 = pr1) : Fo Prod.snd (fun g => g = pr0 + 4) z0 (cm_X4_numberRows_0 vl K go x2 x3 x4 x5 x6 r0 r1 z) := by
  unfold cm_X4_numberRows_0
  exact (fo_rdF (fun v1 => (fo_cs0 ff_J7_fill_fda19 (fun g hg => by omega) hz (fun z2 h_z2 => (hgo 1 _ _ _ _ _ _ _ z2 h_z2 (fun _ => by omega) (fun _ => by omega))))))
theorem fb_X4_numberRows_1 {K : Nat} {vl : Nat → Nat} {z0 z : ow_MS} {pr0 : Nat} {pr1 : Nat} {go : Nat → Int32 → Int32 → Int32 → Int32 → Int32 → Nat → Nat → ow_MS → Option (Int32 × ow_MS)} {x2 : Int32} {x3 : Int32} {x4 : Int32} {x5 : Int32} {x6 : Int32} {r0 : Nat} {r1 : Nat} (hgo : ∀ (L : Nat) (x2 : Int32) (x3 : Int32) (x4 : Int32) (x5 : Int32) (x6 : Int32) (r0 : Nat) (r1 : Nat) (z : ow_MS), fr (fun g => g = pr0 + 4) z0 z → (L = 0 ∨ L = 1 ∨ L = 2 → r0 = pr0) → (L = 0 ∨ L = 1 ∨ L = 2 → r1 = pr1) → Fo Prod.snd (fun g => g = pr0 + 4) z0 (go L x2 x3 x4 x5 x6 r0 r1 z)) (hz : fr (fun g => g = pr0 + 4) z0 z) (e_r0 : r0 = pr0) (e_r1 : r1 = pr1) : Fo Prod.snd (fun g => g = pr0 + 4) z0 (cm_X4_numberRows_1 vl K go x2 x3 x4 x5 x6 r0 r1 z) := by
  unfold cm_X4_numberRows_1
  exact (fo_rdF (fun v3 => (fo_if (fo_some hz) (fc_crI (fun v4 => (fc_crI (fun v5 => (fo_if (fc_crI (fun v6 => (fo_if (fc_crI (fun v7 => (fo_if (fc_ctI (by omega) hz (fun z8 h_z8 => (hgo 2 _ _ _ _ _ _ _ z8 h_z8 (fun _ => by omega) (fun _ => by omega)))) (hgo 2 _ _ _ _ _ _ _ z hz (fun _ => by omega) (fun _ => by omega))))) (hgo 2 _ _ _ _ _ _ _ z hz (fun _ => by omega) (fun _ => by omega))))) (hgo 2 _ _ _ _ _ _ _ z hz (fun _ => by omega) (fun _ => by omega))))))))))
theorem fb_X4_numberRows_2 {K : Nat} {vl : Nat → Nat} {z0 z : ow_MS} {pr0 : Nat} {pr1 : Nat} {go : Nat → Int32 → Int32 → Int32 → Int32 → Int32 → Nat → Nat → ow_MS → Option (Int32 × ow_MS)} {x2 : Int32} {x3 : Int32} {x4 : Int32} {x5 : Int32} {x6 : Int32} {r0 : Nat} {r1 : Nat} (hgo : ∀ (L : Nat) (x2 : Int32) (x3 : Int32) (x4 : Int32) (x5 : Int32) (x6 : Int32) (r0 : Nat) (r1 : Nat) (z : ow_MS), fr (fun g => g = pr0 + 4) z0 z → (L = 0 ∨ L = 1 ∨ L = 2 → r0 = pr0) → (L = 0 ∨ L = 1 ∨ L = 2 → r1 = pr1) → Fo Prod.snd (fun g => g = pr0 + 4) z0 (go L x2 x3 x4 x5 x6 r0 r1 z)) (hz : fr (fun g => g = pr0 + 4) z0 z) (e_r0 : r0 = pr0) (e_r1 : r1 = pr1) : Fo Prod.snd (fun g => g = pr0 + 4) z0 (cm_X4_numberRows_2 vl K go x2 x3 x4 x5 x6 r0 r1 z) := by
  unfold cm_X4_numberRows_2
  exact (hgo 1 _ _ _ _ _ _ _ z hz (fun _ => by omega) (fun _ => by omega))
theorem fq_X4_numberRows {K : Nat} {vl : Nat → Nat} {z0 : ow_MS} {pr0 : Nat} {pr1 : Nat} : ∀ (k L : Nat) (x2 : Int32) (x3 : Int32) (x4 : Int32) (x5 : Int32) (x6 : Int32) (r0 : Nat) (r1 : Nat) (z : ow_MS), fr (fun g => g = pr0 + 4) z0 z → (L = 0 ∨ L = 1 ∨ L = 2 → r0 = pr0) → (L = 0 ∨ L = 1 ∨ L = 2 → r1 = pr1) → Fo Prod.snd (fun g => g = pr0 + 4) z0 (c_X4_numberRows vl K k L x2 x3 x4 x5 x6 r0 r1 z)
  | 0 => by
    intros
    exact fo_none
  | k + 1 => by
    intro L x2 x3 x4 x5 x6 r0 r1 z hz h9_r0 h9_r1
    show Fo Prod.snd (fun g => g = pr0 + 4) z0 (cb_X4_numberRows vl K (c_X4_numberRows vl K k) L x2 x3 x4 x5 x6 r0 r1 z)
    unfold cb_X4_numberRows
    split
    · exact fb_X4_numberRows_0 (fq_X4_numberRows k) hz (h9_r0 (by decide)) (h9_r1 (by decide))
    · exact fb_X4_numberRows_1 (fq_X4_numberRows k) hz (h9_r0 (by decide)) (h9_r1 (by decide))
    · exact fb_X4_numberRows_2 (fq_X4_numberRows k) hz (h9_r0 (by decide)) (h9_r1 (by decide))
    · exact fo_none
theorem ff_X4_numberRows {vl : Nat → Nat} {K : Nat} {r0 : Nat} {r1 : Nat} {x2 : Int32} {x3 : Int32} {z : ow_MS} : Fo Prod.snd (fun g => g = r0 + 4) z (ce_X4_numberRows vl K r0 r1 x2 x3 z) := fq_X4_numberRows (pr0 := r0) (pr1 := r1) K 0 _ _ _ _ _ _ _ z fr_rf (fun _ => rfl) (fun _ => rfl)
theorem ff_X4_rarerColour {vl : Nat → Nat} {K : Nat} {r0 : Nat} {r1 : Nat} {x2 : Int32} {z : ow_MS} : Fo Prod.snd (fun g => g = r0 + 4) z (ce_X4_rarerColour vl K r0 r1 x2 z) := by
  unfold ce_X4_rarerColour cm_X4_rarerColour_0
  exact (fo_cs1 ff_X4_numberRows (fun g hg => by omega) fr_rf (fun v2 z1 h_z1 => (fo_cs1 ff_X4_numberRows (fun g hg => by omega) h_z1 (fun v4 z3 h_z3 => (fo_if (fo_some h_z3) (fo_some h_z3))))))
theorem fb_J7_fill_d0a16_0 {K : Nat} {vl : Nat → Nat} {z0 z : ow_MS} {pr0 : Nat} {go : Nat → Int32 → Int32 → Int64 → Nat → ow_MS → Option ow_MS} {x3 : Int32} {x4 : Int32} {w1 : Int64} {r0 : Nat} (hgo : ∀ (L : Nat) (x3 : Int32) (x4 : Int32) (w1 : Int64) (r0 : Nat) (z : ow_MS), fr (fun g => g = pr0) z0 z → (L = 0 ∨ L = 1 → r0 = pr0) → Fo id (fun g => g = pr0) z0 (go L x3 x4 w1 r0 z)) (hz : fr (fun g => g = pr0) z0 z) (e_r0 : r0 = pr0) : Fo id (fun g => g = pr0) z0 (cm_J7_fill_d0a16_0 vl K go x3 x4 w1 r0 z) := by
  unfold cm_J7_fill_d0a16_0
  exact (hgo 1 _ _ _ _ z hz (fun _ => by omega))
theorem fb_J7_fill_d0a16_1 {K : Nat} {vl : Nat → Nat} {z0 z : ow_MS} {pr0 : Nat} {go : Nat → Int32 → Int32 → Int64 → Nat → ow_MS → Option ow_MS} {x3 : Int32} {x4 : Int32} {w1 : Int64} {r0 : Nat} (hgo : ∀ (L : Nat) (x3 : Int32) (x4 : Int32) (w1 : Int64) (r0 : Nat) (z : ow_MS), fr (fun g => g = pr0) z0 z → (L = 0 ∨ L = 1 → r0 = pr0) → Fo id (fun g => g = pr0) z0 (go L x3 x4 w1 r0 z)) (hz : fr (fun g => g = pr0) z0 z) (e_r0 : r0 = pr0) : Fo id (fun g => g = pr0) z0 (cm_J7_fill_d0a16_1 vl K go x3 x4 w1 r0 z) := by
  unfold cm_J7_fill_d0a16_1
  exact (fo_if (fo_some hz) (fc_ctJ (by omega) hz (fun z1 h_z1 => (hgo 1 _ _ _ _ z1 h_z1 (fun _ => by omega)))))
theorem fq_J7_fill_d0a16 {K : Nat} {vl : Nat → Nat} {z0 : ow_MS} {pr0 : Nat} : ∀ (k L : Nat) (x3 : Int32) (x4 : Int32) (w1 : Int64) (r0 : Nat) (z : ow_MS), fr (fun g => g = pr0) z0 z → (L = 0 ∨ L = 1 → r0 = pr0) → Fo id (fun g => g = pr0) z0 (c_J7_fill_d0a16 vl K k L x3 x4 w1 r0 z)
  | 0 => by
    intros
    exact fo_none
  | k + 1 => by
    intro L x3 x4 w1 r0 z hz h9_r0
    show Fo id (fun g => g = pr0) z0 (cb_J7_fill_d0a16 vl K (c_J7_fill_d0a16 vl K k) L x3 x4 w1 r0 z)
    unfold cb_J7_fill_d0a16
    split
    · exact fb_J7_fill_d0a16_0 (fq_J7_fill_d0a16 k) hz (h9_r0 (by decide))
    · exact fb_J7_fill_d0a16_1 (fq_J7_fill_d0a16 k) hz (h9_r0 (by decide))
    · exact fo_none
theorem ff_J7_fill_d0a16 {vl : Nat → Nat} {K : Nat} {r0 : Nat} {w1 : Int64} {z : ow_MS} : Fo id (fun g => g = r0) z (ce_J7_fill_d0a16 vl K r0 w1 z) := fq_J7_fill_d0a16 (pr0 := r0) K 0 _ _ _ _ z fr_rf (fun _ => rfl)
theorem fb_X4_findCharacteristic_0 {K : Nat} {vl : Nat → Nat} {z0 z : ow_MS} {pr0 : Nat} {go : Nat → Int32 → Int32 → Int32 → Int32 → Int32 → Int32 → Int64 → Int64 → Nat → ow_MS → Option ow_MS} {x1 : Int32} {x2 : Int32} {x3 : Int32} {x5 : Int32} {x6 : Int32} {x9 : Int32} {w3 : Int64} {w7 : Int64} {r0 : Nat} (hgo : ∀ (L : Nat) (x1 : Int32) (x2 : Int32) (x3 : Int32) (x5 : Int32) (x6 : Int32) (x9 : Int32) (w3 : Int64) (w7 : Int64) (r0 : Nat) (z : ow_MS), fr (fun g => pr0 + 6 ≤ g ∧ g ≤ pr0 + 8) z0 z → (L = 0 ∨ L = 1 ∨ L = 2 ∨ L = 3 ∨ L = 4 ∨ L = 5 → r0 = pr0) → Fo id (fun g => pr0 + 6 ≤ g ∧ g ≤ pr0 + 8) z0 (go L x1 x2 x3 x5 x6 x9 w3 w7 r0 z)) (hz : fr (fun g => pr0 + 6 ≤ g ∧ g ≤ pr0 + 8) z0 z) (e_r0 : r0 = pr0) : Fo id (fun g => pr0 + 6 ≤ g ∧ g ≤ pr0 + 8) z0 (cm_X4_findCharacteristic_0 vl K go x1 x2 x3 x5 x6 x9 w3 w7 r0 z) := by
  unfold cm_X4_findCharacteristic_0
  exact (fo_cs0 ff_J7_fill_d0a16 (fun g hg => by omega) hz (fun z1 h_z1 => (fo_cs0 ff_J7_fill_d0a16 (fun g hg => by omega) h_z1 (fun z2 h_z2 => (fc_ctJ (by omega) h_z2 (fun z3 h_z3 => (hgo 1 _ _ _ _ _ _ _ _ _ z3 h_z3 (fun _ => by omega))))))))
theorem fb_X4_findCharacteristic_1 {K : Nat} {vl : Nat → Nat} {z0 z : ow_MS} {pr0 : Nat} {go : Nat → Int32 → Int32 → Int32 → Int32 → Int32 → Int32 → Int64 → Int64 → Nat → ow_MS → Option ow_MS} {x1 : Int32} {x2 : Int32} {x3 : Int32} {x5 : Int32} {x6 : Int32} {x9 : Int32} {w3 : Int64} {w7 : Int64} {r0 : Nat} (hgo : ∀ (L : Nat) (x1 : Int32) (x2 : Int32) (x3 : Int32) (x5 : Int32) (x6 : Int32) (x9 : Int32) (w3 : Int64) (w7 : Int64) (r0 : Nat) (z : ow_MS), fr (fun g => pr0 + 6 ≤ g ∧ g ≤ pr0 + 8) z0 z → (L = 0 ∨ L = 1 ∨ L = 2 ∨ L = 3 ∨ L = 4 ∨ L = 5 → r0 = pr0) → Fo id (fun g => pr0 + 6 ≤ g ∧ g ≤ pr0 + 8) z0 (go L x1 x2 x3 x5 x6 x9 w3 w7 r0 z)) (hz : fr (fun g => pr0 + 6 ≤ g ∧ g ≤ pr0 + 8) z0 z) (e_r0 : r0 = pr0) : Fo id (fun g => pr0 + 6 ≤ g ∧ g ≤ pr0 + 8) z0 (cm_X4_findCharacteristic_1 vl K go x1 x2 x3 x5 x6 x9 w3 w7 r0 z) := by
  unfold cm_X4_findCharacteristic_1
  exact (fo_if (fo_some hz) (hgo 2 _ _ _ _ _ _ _ _ _ z hz (fun _ => by omega)))
theorem fb_X4_findCharacteristic_2 {K : Nat} {vl : Nat → Nat} {z0 z : ow_MS} {pr0 : Nat} {go : Nat → Int32 → Int32 → Int32 → Int32 → Int32 → Int32 → Int64 → Int64 → Nat → ow_MS → Option ow_MS} {x1 : Int32} {x2 : Int32} {x3 : Int32} {x5 : Int32} {x6 : Int32} {x9 : Int32} {w3 : Int64} {w7 : Int64} {r0 : Nat} (hgo : ∀ (L : Nat) (x1 : Int32) (x2 : Int32) (x3 : Int32) (x5 : Int32) (x6 : Int32) (x9 : Int32) (w3 : Int64) (w7 : Int64) (r0 : Nat) (z : ow_MS), fr (fun g => pr0 + 6 ≤ g ∧ g ≤ pr0 + 8) z0 z → (L = 0 ∨ L = 1 ∨ L = 2 ∨ L = 3 ∨ L = 4 ∨ L = 5 → r0 = pr0) → Fo id (fun g => pr0 + 6 ≤ g ∧ g ≤ pr0 + 8) z0 (go L x1 x2 x3 x5 x6 x9 w3 w7 r0 z)) (hz : fr (fun g => pr0 + 6 ≤ g ∧ g ≤ pr0 + 8) z0 z) (e_r0 : r0 = pr0) : Fo id (fun g => pr0 + 6 ≤ g ∧ g ≤ pr0 + 8) z0 (cm_X4_findCharacteristic_2 vl K go x1 x2 x3 x5 x6 x9 w3 w7 r0 z) := by
  unfold cm_X4_findCharacteristic_2
  exact (fo_if (hgo 3 _ _ _ _ _ _ _ _ _ z hz (fun _ => by omega)) (fc_crJ (fun v4 => (fc_crJ (fun v5 => (fc_ctJ (by omega) hz (fun z6 h_z6 => (hgo 2 _ _ _ _ _ _ _ _ _ z6 h_z6 (fun _ => by omega)))))))))
theorem fb_X4_findCharacteristic_3 {K : Nat} {vl : Nat → Nat} {z0 z : ow_MS} {pr0 : Nat} {go : Nat → Int32 → Int32 → Int32 → Int32 → Int32 → Int32 → Int64 → Int64 → Nat → ow_MS → Option ow_MS} {x1 : Int32} {x2 : Int32} {x3 : Int32} {x5 : Int32} {x6 : Int32} {x9 : Int32} {w3 : Int64} {w7 : Int64} {r0 : Nat} (hgo : ∀ (L : Nat) (x1 : Int32) (x2 : Int32) (x3 : Int32) (x5 : Int32) (x6 : Int32) (x9 : Int32) (w3 : Int64) (w7 : Int64) (r0 : Nat) (z : ow_MS), fr (fun g => pr0 + 6 ≤ g ∧ g ≤ pr0 + 8) z0 z → (L = 0 ∨ L = 1 ∨ L = 2 ∨ L = 3 ∨ L = 4 ∨ L = 5 → r0 = pr0) → Fo id (fun g => pr0 + 6 ≤ g ∧ g ≤ pr0 + 8) z0 (go L x1 x2 x3 x5 x6 x9 w3 w7 r0 z)) (hz : fr (fun g => pr0 + 6 ≤ g ∧ g ≤ pr0 + 8) z0 z) (e_r0 : r0 = pr0) : Fo id (fun g => pr0 + 6 ≤ g ∧ g ≤ pr0 + 8) z0 (cm_X4_findCharacteristic_3 vl K go x1 x2 x3 x5 x6 x9 w3 w7 r0 z) := by
  unfold cm_X4_findCharacteristic_3
  exact (fo_if (fo_nzJ (fc_ctJ (by omega) hz (fun z7 h_z7 => (fc_cpJ (by omega) h_z7 (fun z8 h_z8 => (hgo 1 _ _ _ _ _ _ _ _ _ z8 h_z8 (fun _ => by omega))))))) (hgo 4 _ _ _ _ _ _ _ _ _ z hz (fun _ => by omega)))
theorem fb_X4_findCharacteristic_4 {K : Nat} {vl : Nat → Nat} {z0 z : ow_MS} {pr0 : Nat} {go : Nat → Int32 → Int32 → Int32 → Int32 → Int32 → Int32 → Int64 → Int64 → Nat → ow_MS → Option ow_MS} {x1 : Int32} {x2 : Int32} {x3 : Int32} {x5 : Int32} {x6 : Int32} {x9 : Int32} {w3 : Int64} {w7 : Int64} {r0 : Nat} (hgo : ∀ (L : Nat) (x1 : Int32) (x2 : Int32) (x3 : Int32) (x5 : Int32) (x6 : Int32) (x9 : Int32) (w3 : Int64) (w7 : Int64) (r0 : Nat) (z : ow_MS), fr (fun g => pr0 + 6 ≤ g ∧ g ≤ pr0 + 8) z0 z → (L = 0 ∨ L = 1 ∨ L = 2 ∨ L = 3 ∨ L = 4 ∨ L = 5 → r0 = pr0) → Fo id (fun g => pr0 + 6 ≤ g ∧ g ≤ pr0 + 8) z0 (go L x1 x2 x3 x5 x6 x9 w3 w7 r0 z)) (hz : fr (fun g => pr0 + 6 ≤ g ∧ g ≤ pr0 + 8) z0 z) (e_r0 : r0 = pr0) : Fo id (fun g => pr0 + 6 ≤ g ∧ g ≤ pr0 + 8) z0 (cm_X4_findCharacteristic_4 vl K go x1 x2 x3 x5 x6 x9 w3 w7 r0 z) := by
  unfold cm_X4_findCharacteristic_4
  exact (fo_if (fc_crJ (fun v9 => (hgo 3 _ _ _ _ _ _ _ _ _ z hz (fun _ => by omega)))) (hgo 5 _ _ _ _ _ _ _ _ _ z hz (fun _ => by omega)))
theorem fb_X4_findCharacteristic_5 {K : Nat} {vl : Nat → Nat} {z0 z : ow_MS} {pr0 : Nat} {go : Nat → Int32 → Int32 → Int32 → Int32 → Int32 → Int32 → Int64 → Int64 → Nat → ow_MS → Option ow_MS} {x1 : Int32} {x2 : Int32} {x3 : Int32} {x5 : Int32} {x6 : Int32} {x9 : Int32} {w3 : Int64} {w7 : Int64} {r0 : Nat} (hgo : ∀ (L : Nat) (x1 : Int32) (x2 : Int32) (x3 : Int32) (x5 : Int32) (x6 : Int32) (x9 : Int32) (w3 : Int64) (w7 : Int64) (r0 : Nat) (z : ow_MS), fr (fun g => pr0 + 6 ≤ g ∧ g ≤ pr0 + 8) z0 z → (L = 0 ∨ L = 1 ∨ L = 2 ∨ L = 3 ∨ L = 4 ∨ L = 5 → r0 = pr0) → Fo id (fun g => pr0 + 6 ≤ g ∧ g ≤ pr0 + 8) z0 (go L x1 x2 x3 x5 x6 x9 w3 w7 r0 z)) (hz : fr (fun g => pr0 + 6 ≤ g ∧ g ≤ pr0 + 8) z0 z) (e_r0 : r0 = pr0) : Fo id (fun g => pr0 + 6 ≤ g ∧ g ≤ pr0 + 8) z0 (cm_X4_findCharacteristic_5 vl K go x1 x2 x3 x5 x6 x9 w3 w7 r0 z) := by
  unfold cm_X4_findCharacteristic_5
  exact (fo_if (fc_ctJ (by omega) hz (fun z10 h_z10 => (hgo 4 _ _ _ _ _ _ _ _ _ z10 h_z10 (fun _ => by omega)))) (fc_crJ (fun v11 => (fc_crJ (fun v12 => (hgo 5 _ _ _ _ _ _ _ _ _ z hz (fun _ => by omega)))))))
theorem fq_X4_findCharacteristic {K : Nat} {vl : Nat → Nat} {z0 : ow_MS} {pr0 : Nat} : ∀ (k L : Nat) (x1 : Int32) (x2 : Int32) (x3 : Int32) (x5 : Int32) (x6 : Int32) (x9 : Int32) (w3 : Int64) (w7 : Int64) (r0 : Nat) (z : ow_MS), fr (fun g => pr0 + 6 ≤ g ∧ g ≤ pr0 + 8) z0 z → (L = 0 ∨ L = 1 ∨ L = 2 ∨ L = 3 ∨ L = 4 ∨ L = 5 → r0 = pr0) → Fo id (fun g => pr0 + 6 ≤ g ∧ g ≤ pr0 + 8) z0 (c_X4_findCharacteristic vl K k L x1 x2 x3 x5 x6 x9 w3 w7 r0 z)
  | 0 => by
    intros
    exact fo_none
  | k + 1 => by
    intro L x1 x2 x3 x5 x6 x9 w3 w7 r0 z hz h9_r0
    show Fo id (fun g => pr0 + 6 ≤ g ∧ g ≤ pr0 + 8) z0 (cb_X4_findCharacteristic vl K (c_X4_findCharacteristic vl K k) L x1 x2 x3 x5 x6 x9 w3 w7 r0 z)
    unfold cb_X4_findCharacteristic
    split
    · exact fb_X4_findCharacteristic_0 (fq_X4_findCharacteristic k) hz (h9_r0 (by decide))
    · exact fb_X4_findCharacteristic_1 (fq_X4_findCharacteristic k) hz (h9_r0 (by decide))
    · exact fb_X4_findCharacteristic_2 (fq_X4_findCharacteristic k) hz (h9_r0 (by decide))
    · exact fb_X4_findCharacteristic_3 (fq_X4_findCharacteristic k) hz (h9_r0 (by decide))
    · exact fb_X4_findCharacteristic_4 (fq_X4_findCharacteristic k) hz (h9_r0 (by decide))
    · exact fb_X4_findCharacteristic_5 (fq_X4_findCharacteristic k) hz (h9_r0 (by decide))
    · exact fo_none
theorem ff_X4_findCharacteristic {vl : Nat → Nat} {K : Nat} {r0 : Nat} {x1 : Int32} {z : ow_MS} : Fo id (fun g => r0 + 6 ≤ g ∧ g ≤ r0 + 8) z (ce_X4_findCharacteristic vl K r0 x1 z) := fq_X4_findCharacteristic (pr0 := r0) K 0 _ _ _ _ _ _ _ _ _ z fr_rf (fun _ => rfl)
theorem fb_X4_signChanges_0 {K : Nat} {vl : Nat → Nat} {z0 z : ow_MS} {pr0 : Nat} {go : Nat → Int32 → Int32 → Int32 → Int32 → Int64 → Int64 → Nat → Int32 → Int64 → Int64 → ow_MS → Option (Int32 × ow_MS)} {x1 : Int32} {x2 : Int32} {x3 : Int32} {x6 : Int32} {w4 : Int64} {w7 : Int64} {r0 : Nat} {t0 : Int32} {y0 : Int64} {y1 : Int64} (hgo : ∀ (L : Nat) (x1 : Int32) (x2 : Int32) (x3 : Int32) (x6 : Int32) (w4 : Int64) (w7 : Int64) (r0 : Nat) (t0 : Int32) (y0 : Int64) (y1 : Int64) (z : ow_MS), fr (fun _ => False) z0 z → (L = 0 ∨ L = 1 ∨ L = 2 ∨ L = 3 ∨ L = 4 ∨ L = 5 ∨ L = 6 ∨ L = 7 → r0 = pr0) → Fo Prod.snd (fun _ => False) z0 (go L x1 x2 x3 x6 w4 w7 r0 t0 y0 y1 z)) (hz : fr (fun _ => False) z0 z) (e_r0 : r0 = pr0) : Fo Prod.snd (fun _ => False) z0 (cm_X4_signChanges_0 vl K go x1 x2 x3 x6 w4 w7 r0 t0 y0 y1 z) := by
  unfold cm_X4_signChanges_0
  exact (hgo 1 _ _ _ _ _ _ _ _ _ _ z hz (fun _ => by omega))
theorem fb_X4_signChanges_1 {K : Nat} {vl : Nat → Nat} {z0 z : ow_MS} {pr0 : Nat} {go : Nat → Int32 → Int32 → Int32 → Int32 → Int64 → Int64 → Nat → Int32 → Int64 → Int64 → ow_MS → Option (Int32 × ow_MS)} {x1 : Int32} {x2 : Int32} {x3 : Int32} {x6 : Int32} {w4 : Int64} {w7 : Int64} {r0 : Nat} {t0 : Int32} {y0 : Int64} {y1 : Int64} (hgo : ∀ (L : Nat) (x1 : Int32) (x2 : Int32) (x3 : Int32) (x6 : Int32) (w4 : Int64) (w7 : Int64) (r0 : Nat) (t0 : Int32) (y0 : Int64) (y1 : Int64) (z : ow_MS), fr (fun _ => False) z0 z → (L = 0 ∨ L = 1 ∨ L = 2 ∨ L = 3 ∨ L = 4 ∨ L = 5 ∨ L = 6 ∨ L = 7 → r0 = pr0) → Fo Prod.snd (fun _ => False) z0 (go L x1 x2 x3 x6 w4 w7 r0 t0 y0 y1 z)) (hz : fr (fun _ => False) z0 z) (e_r0 : r0 = pr0) : Fo Prod.snd (fun _ => False) z0 (cm_X4_signChanges_1 vl K go x1 x2 x3 x6 w4 w7 r0 t0 y0 y1 z) := by
  unfold cm_X4_signChanges_1
  exact (fo_if (fo_some hz) (fc_crJ (fun v1 => (fo_if (hgo 2 _ _ _ _ _ _ _ _ _ _ z hz (fun _ => by omega)) (fo_if (hgo 3 _ _ _ _ _ _ _ _ _ _ z hz (fun _ => by omega)) (hgo 2 _ _ _ _ _ _ _ _ _ _ z hz (fun _ => by omega)))))))
theorem fb_X4_signChanges_2 {K : Nat} {vl : Nat → Nat} {z0 z : ow_MS} {pr0 : Nat} {go : Nat → Int32 → Int32 → Int32 → Int32 → Int64 → Int64 → Nat → Int32 → Int64 → Int64 → ow_MS → Option (Int32 × ow_MS)} {x1 : Int32} {x2 : Int32} {x3 : Int32} {x6 : Int32} {w4 : Int64} {w7 : Int64} {r0 : Nat} {t0 : Int32} {y0 : Int64} {y1 : Int64} (hgo : ∀ (L : Nat) (x1 : Int32) (x2 : Int32) (x3 : Int32) (x6 : Int32) (w4 : Int64) (w7 : Int64) (r0 : Nat) (t0 : Int32) (y0 : Int64) (y1 : Int64) (z : ow_MS), fr (fun _ => False) z0 z → (L = 0 ∨ L = 1 ∨ L = 2 ∨ L = 3 ∨ L = 4 ∨ L = 5 ∨ L = 6 ∨ L = 7 → r0 = pr0) → Fo Prod.snd (fun _ => False) z0 (go L x1 x2 x3 x6 w4 w7 r0 t0 y0 y1 z)) (hz : fr (fun _ => False) z0 z) (e_r0 : r0 = pr0) : Fo Prod.snd (fun _ => False) z0 (cm_X4_signChanges_2 vl K go x1 x2 x3 x6 w4 w7 r0 t0 y0 y1 z) := by
  unfold cm_X4_signChanges_2
  exact (hgo 3 _ _ _ _ _ _ _ _ _ _ z hz (fun _ => by omega))
theorem fb_X4_signChanges_3 {K : Nat} {vl : Nat → Nat} {z0 z : ow_MS} {pr0 : Nat} {go : Nat → Int32 → Int32 → Int32 → Int32 → Int64 → Int64 → Nat → Int32 → Int64 → Int64 → ow_MS → Option (Int32 × ow_MS)} {x1 : Int32} {x2 : Int32} {x3 : Int32} {x6 : Int32} {w4 : Int64} {w7 : Int64} {r0 : Nat} {t0 : Int32} {y0 : Int64} {y1 : Int64} (hgo : ∀ (L : Nat) (x1 : Int32) (x2 : Int32) (x3 : Int32) (x6 : Int32) (w4 : Int64) (w7 : Int64) (r0 : Nat) (t0 : Int32) (y0 : Int64) (y1 : Int64) (z : ow_MS), fr (fun _ => False) z0 z → (L = 0 ∨ L = 1 ∨ L = 2 ∨ L = 3 ∨ L = 4 ∨ L = 5 ∨ L = 6 ∨ L = 7 → r0 = pr0) → Fo Prod.snd (fun _ => False) z0 (go L x1 x2 x3 x6 w4 w7 r0 t0 y0 y1 z)) (hz : fr (fun _ => False) z0 z) (e_r0 : r0 = pr0) : Fo Prod.snd (fun _ => False) z0 (cm_X4_signChanges_3 vl K go x1 x2 x3 x6 w4 w7 r0 t0 y0 y1 z) := by
  unfold cm_X4_signChanges_3
  exact (fo_if (hgo 7 _ _ _ _ _ _ _ _ _ _ z hz (fun _ => by omega)) (fo_if (hgo 4 _ _ _ _ _ _ _ _ _ _ z hz (fun _ => by omega)) (fo_if (hgo 5 _ _ _ _ _ _ _ _ _ _ z hz (fun _ => by omega)) (hgo 4 _ _ _ _ _ _ _ _ _ _ z hz (fun _ => by omega)))))
theorem fb_X4_signChanges_4 {K : Nat} {vl : Nat → Nat} {z0 z : ow_MS} {pr0 : Nat} {go : Nat → Int32 → Int32 → Int32 → Int32 → Int64 → Int64 → Nat → Int32 → Int64 → Int64 → ow_MS → Option (Int32 × ow_MS)} {x1 : Int32} {x2 : Int32} {x3 : Int32} {x6 : Int32} {w4 : Int64} {w7 : Int64} {r0 : Nat} {t0 : Int32} {y0 : Int64} {y1 : Int64} (hgo : ∀ (L : Nat) (x1 : Int32) (x2 : Int32) (x3 : Int32) (x6 : Int32) (w4 : Int64) (w7 : Int64) (r0 : Nat) (t0 : Int32) (y0 : Int64) (y1 : Int64) (z : ow_MS), fr (fun _ => False) z0 z → (L = 0 ∨ L = 1 ∨ L = 2 ∨ L = 3 ∨ L = 4 ∨ L = 5 ∨ L = 6 ∨ L = 7 → r0 = pr0) → Fo Prod.snd (fun _ => False) z0 (go L x1 x2 x3 x6 w4 w7 r0 t0 y0 y1 z)) (hz : fr (fun _ => False) z0 z) (e_r0 : r0 = pr0) : Fo Prod.snd (fun _ => False) z0 (cm_X4_signChanges_4 vl K go x1 x2 x3 x6 w4 w7 r0 t0 y0 y1 z) := by
  unfold cm_X4_signChanges_4
  exact (fo_if (hgo 6 _ _ _ _ _ _ _ _ _ _ z hz (fun _ => by omega)) (fo_if (hgo 6 _ _ _ _ _ _ _ _ _ _ z hz (fun _ => by omega)) (hgo 5 _ _ _ _ _ _ _ _ _ _ z hz (fun _ => by omega))))
theorem fb_X4_signChanges_5 {K : Nat} {vl : Nat → Nat} {z0 z : ow_MS} {pr0 : Nat} {go : Nat → Int32 → Int32 → Int32 → Int32 → Int64 → Int64 → Nat → Int32 → Int64 → Int64 → ow_MS → Option (Int32 × ow_MS)} {x1 : Int32} {x2 : Int32} {x3 : Int32} {x6 : Int32} {w4 : Int64} {w7 : Int64} {r0 : Nat} {t0 : Int32} {y0 : Int64} {y1 : Int64} (hgo : ∀ (L : Nat) (x1 : Int32) (x2 : Int32) (x3 : Int32) (x6 : Int32) (w4 : Int64) (w7 : Int64) (r0 : Nat) (t0 : Int32) (y0 : Int64) (y1 : Int64) (z : ow_MS), fr (fun _ => False) z0 z → (L = 0 ∨ L = 1 ∨ L = 2 ∨ L = 3 ∨ L = 4 ∨ L = 5 ∨ L = 6 ∨ L = 7 → r0 = pr0) → Fo Prod.snd (fun _ => False) z0 (go L x1 x2 x3 x6 w4 w7 r0 t0 y0 y1 z)) (hz : fr (fun _ => False) z0 z) (e_r0 : r0 = pr0) : Fo Prod.snd (fun _ => False) z0 (cm_X4_signChanges_5 vl K go x1 x2 x3 x6 w4 w7 r0 t0 y0 y1 z) := by
  unfold cm_X4_signChanges_5
  exact (hgo 6 _ _ _ _ _ _ _ _ _ _ z hz (fun _ => by omega))
theorem fb_X4_signChanges_6 {K : Nat} {vl : Nat → Nat} {z0 z : ow_MS} {pr0 : Nat} {go : Nat → Int32 → Int32 → Int32 → Int32 → Int64 → Int64 → Nat → Int32 → Int64 → Int64 → ow_MS → Option (Int32 × ow_MS)} {x1 : Int32} {x2 : Int32} {x3 : Int32} {x6 : Int32} {w4 : Int64} {w7 : Int64} {r0 : Nat} {t0 : Int32} {y0 : Int64} {y1 : Int64} (hgo : ∀ (L : Nat) (x1 : Int32) (x2 : Int32) (x3 : Int32) (x6 : Int32) (w4 : Int64) (w7 : Int64) (r0 : Nat) (t0 : Int32) (y0 : Int64) (y1 : Int64) (z : ow_MS), fr (fun _ => False) z0 z → (L = 0 ∨ L = 1 ∨ L = 2 ∨ L = 3 ∨ L = 4 ∨ L = 5 ∨ L = 6 ∨ L = 7 → r0 = pr0) → Fo Prod.snd (fun _ => False) z0 (go L x1 x2 x3 x6 w4 w7 r0 t0 y0 y1 z)) (hz : fr (fun _ => False) z0 z) (e_r0 : r0 = pr0) : Fo Prod.snd (fun _ => False) z0 (cm_X4_signChanges_6 vl K go x1 x2 x3 x6 w4 w7 r0 t0 y0 y1 z) := by
  unfold cm_X4_signChanges_6
  exact (hgo 7 _ _ _ _ _ _ _ _ _ _ z hz (fun _ => by omega))
theorem fb_X4_signChanges_7 {K : Nat} {vl : Nat → Nat} {z0 z : ow_MS} {pr0 : Nat} {go : Nat → Int32 → Int32 → Int32 → Int32 → Int64 → Int64 → Nat → Int32 → Int64 → Int64 → ow_MS → Option (Int32 × ow_MS)} {x1 : Int32} {x2 : Int32} {x3 : Int32} {x6 : Int32} {w4 : Int64} {w7 : Int64} {r0 : Nat} {t0 : Int32} {y0 : Int64} {y1 : Int64} (hgo : ∀ (L : Nat) (x1 : Int32) (x2 : Int32) (x3 : Int32) (x6 : Int32) (w4 : Int64) (w7 : Int64) (r0 : Nat) (t0 : Int32) (y0 : Int64) (y1 : Int64) (z : ow_MS), fr (fun _ => False) z0 z → (L = 0 ∨ L = 1 ∨ L = 2 ∨ L = 3 ∨ L = 4 ∨ L = 5 ∨ L = 6 ∨ L = 7 → r0 = pr0) → Fo Prod.snd (fun _ => False) z0 (go L x1 x2 x3 x6 w4 w7 r0 t0 y0 y1 z)) (hz : fr (fun _ => False) z0 z) (e_r0 : r0 = pr0) : Fo Prod.snd (fun _ => False) z0 (cm_X4_signChanges_7 vl K go x1 x2 x3 x6 w4 w7 r0 t0 y0 y1 z) := by
  unfold cm_X4_signChanges_7
  exact (hgo 1 _ _ _ _ _ _ _ _ _ _ z hz (fun _ => by omega))
theorem fq_X4_signChanges {K : Nat} {vl : Nat → Nat} {z0 : ow_MS} {pr0 : Nat} : ∀ (k L : Nat) (x1 : Int32) (x2 : Int32) (x3 : Int32) (x6 : Int32) (w4 : Int64) (w7 : Int64) (r0 : Nat) (t0 : Int32) (y0 : Int64) (y1 : Int64) (z : ow_MS), fr (fun _ => False) z0 z → (L = 0 ∨ L = 1 ∨ L = 2 ∨ L = 3 ∨ L = 4 ∨ L = 5 ∨ L = 6 ∨ L = 7 → r0 = pr0) → Fo Prod.snd (fun _ => False) z0 (c_X4_signChanges vl K k L x1 x2 x3 x6 w4 w7 r0 t0 y0 y1 z)
  | 0 => by
    intros
    exact fo_none
  | k + 1 => by
    intro L x1 x2 x3 x6 w4 w7 r0 t0 y0 y1 z hz h9_r0
    show Fo Prod.snd (fun _ => False) z0 (cb_X4_signChanges vl K (c_X4_signChanges vl K k) L x1 x2 x3 x6 w4 w7 r0 t0 y0 y1 z)
    unfold cb_X4_signChanges
    split
    · exact fb_X4_signChanges_0 (fq_X4_signChanges k) hz (h9_r0 (by decide))
    · exact fb_X4_signChanges_1 (fq_X4_signChanges k) hz (h9_r0 (by decide))
    · exact fb_X4_signChanges_2 (fq_X4_signChanges k) hz (h9_r0 (by decide))
    · exact fb_X4_signChanges_3 (fq_X4_signChanges k) hz (h9_r0 (by decide))
    · exact fb_X4_signChanges_4 (fq_X4_signChanges k) hz (h9_r0 (by decide))
    · exact fb_X4_signChanges_5 (fq_X4_signChanges k) hz (h9_r0 (by decide))
    · exact fb_X4_signChanges_6 (fq_X4_signChanges k) hz (h9_r0 (by decide))
    · exact fb_X4_signChanges_7 (fq_X4_signChanges k) hz (h9_r0 (by decide))
    · exact fo_none
theorem ff_X4_signChanges {vl : Nat → Nat} {K : Nat} {r0 : Nat} {x1 : Int32} {x2 : Int32} {z : ow_MS} : Fo Prod.snd (fun _ => False) z (ce_X4_signChanges vl K r0 x1 x2 z) := fq_X4_signChanges (pr0 := r0) K 0 _ _ _ _ _ _ _ _ _ _ z fr_rf (fun _ => rfl)
theorem ff_X4_eigenvalueSigns {vl : Nat → Nat} {K : Nat} {r0 : Nat} {x1 : Int32} {z : ow_MS} : Fo Prod.snd (fun g => r0 + 6 ≤ g ∧ g ≤ r0 + 8) z (ce_X4_eigenvalueSigns vl K r0 x1 z) := by
  unfold ce_X4_eigenvalueSigns cm_X4_eigenvalueSigns_0
  exact (fo_cs0 ff_X4_findCharacteristic (fun g hg => by omega) fr_rf (fun z1 h_z1 => (fo_cs1 ff_X4_signChanges (fun g hg => hg.elim) h_z1 (fun v3 z2 h_z2 => (fo_cs1 ff_X4_signChanges (fun g hg => hg.elim) h_z2 (fun v5 z4 h_z4 => (fo_some h_z4)))))))
theorem fb_X4_addAt_0 {K : Nat} {vl : Nat → Nat} {z0 z : ow_MS} {pr0 : Nat} {go : Nat → Int32 → Int32 → Int32 → Int32 → Nat → ow_MS → Option ow_MS} {x1 : Int32} {x2 : Int32} {x3 : Int32} {x4 : Int32} {r0 : Nat} (hgo : ∀ (L : Nat) (x1 : Int32) (x2 : Int32) (x3 : Int32) (x4 : Int32) (r0 : Nat) (z : ow_MS), fr (fun g => g = pr0 + 5) z0 z → (L = 0 ∨ L = 1 ∨ L = 2 → r0 = pr0) → Fo id (fun g => g = pr0 + 5) z0 (go L x1 x2 x3 x4 r0 z)) (hz : fr (fun g => g = pr0 + 5) z0 z) (e_r0 : r0 = pr0) : Fo id (fun g => g = pr0 + 5) z0 (cm_X4_addAt_0 vl K go x1 x2 x3 x4 r0 z) := by
  unfold cm_X4_addAt_0
  exact (fo_if (hgo 1 _ _ _ _ _ z hz (fun _ => by omega)) (fo_if (hgo 1 _ _ _ _ _ z hz (fun _ => by omega)) (fc_crJ (fun v1 => (fc_ctJ (by omega) hz (fun z2 h_z2 => (hgo 1 _ _ _ _ _ z2 h_z2 (fun _ => by omega))))))))
theorem fb_X4_addAt_1 {K : Nat} {vl : Nat → Nat} {z0 z : ow_MS} {pr0 : Nat} {go : Nat → Int32 → Int32 → Int32 → Int32 → Nat → ow_MS → Option ow_MS} {x1 : Int32} {x2 : Int32} {x3 : Int32} {x4 : Int32} {r0 : Nat} (hgo : ∀ (L : Nat) (x1 : Int32) (x2 : Int32) (x3 : Int32) (x4 : Int32) (r0 : Nat) (z : ow_MS), fr (fun g => g = pr0 + 5) z0 z → (L = 0 ∨ L = 1 ∨ L = 2 → r0 = pr0) → Fo id (fun g => g = pr0 + 5) z0 (go L x1 x2 x3 x4 r0 z)) (hz : fr (fun g => g = pr0 + 5) z0 z) (e_r0 : r0 = pr0) : Fo id (fun g => g = pr0 + 5) z0 (cm_X4_addAt_1 vl K go x1 x2 x3 x4 r0 z) := by
  unfold cm_X4_addAt_1
  exact (fo_if (hgo 2 _ _ _ _ _ z hz (fun _ => by omega)) (fo_if (hgo 2 _ _ _ _ _ z hz (fun _ => by omega)) (fc_crJ (fun v3 => (fc_ctJ (by omega) hz (fun z4 h_z4 => (hgo 2 _ _ _ _ _ z4 h_z4 (fun _ => by omega))))))))
theorem fb_X4_addAt_2 {K : Nat} {vl : Nat → Nat} {z0 z : ow_MS} {pr0 : Nat} {go : Nat → Int32 → Int32 → Int32 → Int32 → Nat → ow_MS → Option ow_MS} {x1 : Int32} {x2 : Int32} {x3 : Int32} {x4 : Int32} {r0 : Nat} (hgo : ∀ (L : Nat) (x1 : Int32) (x2 : Int32) (x3 : Int32) (x4 : Int32) (r0 : Nat) (z : ow_MS), fr (fun g => g = pr0 + 5) z0 z → (L = 0 ∨ L = 1 ∨ L = 2 → r0 = pr0) → Fo id (fun g => g = pr0 + 5) z0 (go L x1 x2 x3 x4 r0 z)) (hz : fr (fun g => g = pr0 + 5) z0 z) (e_r0 : r0 = pr0) : Fo id (fun g => g = pr0 + 5) z0 (cm_X4_addAt_2 vl K go x1 x2 x3 x4 r0 z) := by
  unfold cm_X4_addAt_2
  exact (fo_if (fo_some hz) (fo_if (fo_some hz) (fo_if (fo_some hz) (fo_if (fo_some hz) (fc_crJ (fun v5 => (fc_ctJ (by omega) hz (fun z6 h_z6 => (fc_crJ (fun v7 => (fc_ctJ (by omega) h_z6 (fun z8 h_z8 => (fo_some h_z8)))))))))))))
theorem fq_X4_addAt {K : Nat} {vl : Nat → Nat} {z0 : ow_MS} {pr0 : Nat} : ∀ (k L : Nat) (x1 : Int32) (x2 : Int32) (x3 : Int32) (x4 : Int32) (r0 : Nat) (z : ow_MS), fr (fun g => g = pr0 + 5) z0 z → (L = 0 ∨ L = 1 ∨ L = 2 → r0 = pr0) → Fo id (fun g => g = pr0 + 5) z0 (c_X4_addAt vl K k L x1 x2 x3 x4 r0 z)
  | 0 => by
    intros
    exact fo_none
  | k + 1 => by
    intro L x1 x2 x3 x4 r0 z hz h9_r0
    show Fo id (fun g => g = pr0 + 5) z0 (cb_X4_addAt vl K (c_X4_addAt vl K k) L x1 x2 x3 x4 r0 z)
    unfold cb_X4_addAt
    split
    · exact fb_X4_addAt_0 (fq_X4_addAt k) hz (h9_r0 (by decide))
    · exact fb_X4_addAt_1 (fq_X4_addAt k) hz (h9_r0 (by decide))
    · exact fb_X4_addAt_2 (fq_X4_addAt k) hz (h9_r0 (by decide))
    · exact fo_none
theorem ff_X4_addAt {vl : Nat → Nat} {K : Nat} {r0 : Nat} {x1 : Int32} {x2 : Int32} {x3 : Int32} {x4 : Int32} {z : ow_MS} : Fo id (fun g => g = r0 + 5) z (ce_X4_addAt vl K r0 x1 x2 x3 x4 z) := fq_X4_addAt (pr0 := r0) K 0 _ _ _ _ _ z fr_rf (fun _ => rfl)
theorem fb_X4_signatureOfPart_0 {K : Nat} {vl : Nat → Nat} {z0 z : ow_MS} {pr0 : Nat} {pr1 : Nat} {go : Nat → Int32 → Int32 → Int32 → Int32 → Int32 → Nat → Nat → Int32 → ow_MS → Option (Int32 × ow_MS)} {x2 : Int32} {x3 : Int32} {x4 : Int32} {x5 : Int32} {x6 : Int32} {r0 : Nat} {r1 : Nat} {t0 : Int32} (hgo : ∀ (L : Nat) (x2 : Int32) (x3 : Int32) (x4 : Int32) (x5 : Int32) (x6 : Int32) (r0 : Nat) (r1 : Nat) (t0 : Int32) (z : ow_MS), fr (fun g => pr0 + 4 ≤ g ∧ g ≤ pr0 + 8) z0 z → (L = 0 ∨ L = 1 ∨ L = 2 ∨ L = 3 → r0 = pr0) → (L = 0 ∨ L = 1 ∨ L = 2 ∨ L = 3 → r1 = pr1) → Fo Prod.snd (fun g => pr0 + 4 ≤ g ∧ g ≤ pr0 + 8) z0 (go L x2 x3 x4 x5 x6 r0 r1 t0 z)) (hz : fr (fun g => pr0 + 4 ≤ g ∧ g ≤ pr0 + 8) z0 z) (e_r0 : r0 = pr0) (e_r1 : r1 = pr1) : Fo Prod.snd (fun g => pr0 + 4 ≤ g ∧ g ≤ pr0 + 8) z0 (cm_X4_signatureOfPart_0 vl K go x2 x3 x4 x5 x6 r0 r1 t0 z) := by
  unfold cm_X4_signatureOfPart_0
  exact (fo_cs1 ff_X4_numberRows (fun g hg => by omega) hz (fun v2 z1 h_z1 => (fo_cs0 ff_J7_fill_d0a16 (fun g hg => by omega) h_z1 (fun z3 h_z3 => (hgo 1 _ _ _ _ _ _ _ _ z3 h_z3 (fun _ => by omega) (fun _ => by omega))))))
theorem fb_X4_signatureOfPart_1 {K : Nat} {vl : Nat → Nat} {z0 z : ow_MS} {pr0 : Nat} {pr1 : Nat} {go : Nat → Int32 → Int32 → Int32 → Int32 → Int32 → Nat → Nat → Int32 → ow_MS → Option (Int32 × ow_MS)} {x2 : Int32} {x3 : Int32} {x4 : Int32} {x5 : Int32} {x6 : Int32} {r0 : Nat} {r1 : Nat} {t0 : Int32} (hgo : ∀ (L : Nat) (x2 : Int32) (x3 : Int32) (x4 : Int32) (x5 : Int32) (x6 : Int32) (r0 : Nat) (r1 : Nat) (t0 : Int32) (z : ow_MS), fr (fun g => pr0 + 4 ≤ g ∧ g ≤ pr0 + 8) z0 z → (L = 0 ∨ L = 1 ∨ L = 2 ∨ L = 3 → r0 = pr0) → (L = 0 ∨ L = 1 ∨ L = 2 ∨ L = 3 → r1 = pr1) → Fo Prod.snd (fun g => pr0 + 4 ≤ g ∧ g ≤ pr0 + 8) z0 (go L x2 x3 x4 x5 x6 r0 r1 t0 z)) (hz : fr (fun g => pr0 + 4 ≤ g ∧ g ≤ pr0 + 8) z0 z) (e_r0 : r0 = pr0) (e_r1 : r1 = pr1) : Fo Prod.snd (fun g => pr0 + 4 ≤ g ∧ g ≤ pr0 + 8) z0 (cm_X4_signatureOfPart_1 vl K go x2 x3 x4 x5 x6 r0 r1 t0 z) := by
  unfold cm_X4_signatureOfPart_1
  exact (fo_rdF (fun v4 => (fo_if (fo_cs1 ff_X4_eigenvalueSigns (fun g hg => by omega) hz (fun v6 z5 h_z5 => (fo_some h_z5))) (fc_crI (fun v7 => (fo_if (fc_crI (fun v8 => (fo_if (hgo 2 _ _ _ _ _ _ _ _ z hz (fun _ => by omega) (fun _ => by omega)) (hgo 2 _ _ _ _ _ _ _ _ z hz (fun _ => by omega) (fun _ => by omega))))) (hgo 3 _ _ _ _ _ _ _ _ z hz (fun _ => by omega) (fun _ => by omega))))))))
theorem fb_X4_signatureOfPart_2 {K : Nat} {vl : Nat → Nat} {z0 z : ow_MS} {pr0 : Nat} {pr1 : Nat} {go : Nat → Int32 → Int32 → Int32 → Int32 → Int32 → Nat → Nat → Int32 → ow_MS → Option (Int32 × ow_MS)} {x2 : Int32} {x3 : Int32} {x4 : Int32} {x5 : Int32} {x6 : Int32} {r0 : Nat} {r1 : Nat} {t0 : Int32} (hgo : ∀ (L : Nat) (x2 : Int32) (x3 : Int32) (x4 : Int32) (x5 : Int32) (x6 : Int32) (r0 : Nat) (r1 : Nat) (t0 : Int32) (z : ow_MS), fr (fun g => pr0 + 4 ≤ g ∧ g ≤ pr0 + 8) z0 z → (L = 0 ∨ L = 1 ∨ L = 2 ∨ L = 3 → r0 = pr0) → (L = 0 ∨ L = 1 ∨ L = 2 ∨ L = 3 → r1 = pr1) → Fo Prod.snd (fun g => pr0 + 4 ≤ g ∧ g ≤ pr0 + 8) z0 (go L x2 x3 x4 x5 x6 r0 r1 t0 z)) (hz : fr (fun g => pr0 + 4 ≤ g ∧ g ≤ pr0 + 8) z0 z) (e_r0 : r0 = pr0) (e_r1 : r1 = pr1) : Fo Prod.snd (fun g => pr0 + 4 ≤ g ∧ g ≤ pr0 + 8) z0 (cm_X4_signatureOfPart_2 vl K go x2 x3 x4 x5 x6 r0 r1 t0 z) := by
  unfold cm_X4_signatureOfPart_2
  exact (fc_crI (fun v9 => (fc_crI (fun v10 => (fo_if (fc_crI (fun v19 => (fc_crI (fun v20 => (fc_crI (fun v21 => (fc_crI (fun v22 => (fc_crI (fun v23 => (fo_cs0 ff_X4_addAt (fun g hg => by omega) hz (fun z24 h_z24 => (hgo 3 _ _ _ _ _ _ _ _ z24 h_z24 (fun _ => by omega) (fun _ => by omega)))))))))))))) (fc_crI (fun v11 => (fc_crI (fun v12 => (fc_crI (fun v13 => (fc_crI (fun v14 => (fc_crI (fun v15 => (fc_crI (fun v16 => (fo_cs0 ff_X4_addAt (fun g hg => by omega) hz (fun z17 h_z17 => (fc_crI (fun v18 => (hgo 3 _ _ _ _ _ _ _ _ z17 h_z17 (fun _ => by omega) (fun _ => by omega)))))))))))))))))))))))
theorem fb_X4_signatureOfPart_3 {K : Nat} {vl : Nat → Nat} {z0 z : ow_MS} {pr0 : Nat} {pr1 : Nat} {go : Nat → Int32 → Int32 → Int32 → Int32 → Int32 → Nat → Nat → Int32 → ow_MS → Option (Int32 × ow_MS)} {x2 : Int32} {x3 : Int32} {x4 : Int32} {x5 : Int32} {x6 : Int32} {r0 : Nat} {r1 : Nat} {t0 : Int32} (hgo : ∀ (L : Nat) (x2 : Int32) (x3 : Int32) (x4 : Int32) (x5 : Int32) (x6 : Int32) (r0 : Nat) (r1 : Nat) (t0 : Int32) (z : ow_MS), fr (fun g => pr0 + 4 ≤ g ∧ g ≤ pr0 + 8) z0 z → (L = 0 ∨ L = 1 ∨ L = 2 ∨ L = 3 → r0 = pr0) → (L = 0 ∨ L = 1 ∨ L = 2 ∨ L = 3 → r1 = pr1) → Fo Prod.snd (fun g => pr0 + 4 ≤ g ∧ g ≤ pr0 + 8) z0 (go L x2 x3 x4 x5 x6 r0 r1 t0 z)) (hz : fr (fun g => pr0 + 4 ≤ g ∧ g ≤ pr0 + 8) z0 z) (e_r0 : r0 = pr0) (e_r1 : r1 = pr1) : Fo Prod.snd (fun g => pr0 + 4 ≤ g ∧ g ≤ pr0 + 8) z0 (cm_X4_signatureOfPart_3 vl K go x2 x3 x4 x5 x6 r0 r1 t0 z) := by
  unfold cm_X4_signatureOfPart_3
  exact (hgo 1 _ _ _ _ _ _ _ _ z hz (fun _ => by omega) (fun _ => by omega))
theorem fq_X4_signatureOfPart {K : Nat} {vl : Nat → Nat} {z0 : ow_MS} {pr0 : Nat} {pr1 : Nat} : ∀ (k L : Nat) (x2 : Int32) (x3 : Int32) (x4 : Int32) (x5 : Int32) (x6 : Int32) (r0 : Nat) (r1 : Nat) (t0 : Int32) (z : ow_MS), fr (fun g => pr0 + 4 ≤ g ∧ g ≤ pr0 + 8) z0 z → (L = 0 ∨ L = 1 ∨ L = 2 ∨ L = 3 → r0 = pr0) → (L = 0 ∨ L = 1 ∨ L = 2 ∨ L = 3 → r1 = pr1) → Fo Prod.snd (fun g => pr0 + 4 ≤ g ∧ g ≤ pr0 + 8) z0 (c_X4_signatureOfPart vl K k L x2 x3 x4 x5 x6 r0 r1 t0 z)
  | 0 => by
    intros
    exact fo_none
  | k + 1 => by
    intro L x2 x3 x4 x5 x6 r0 r1 t0 z hz h9_r0 h9_r1
    show Fo Prod.snd (fun g => pr0 + 4 ≤ g ∧ g ≤ pr0 + 8) z0 (cb_X4_signatureOfPart vl K (c_X4_signatureOfPart vl K k) L x2 x3 x4 x5 x6 r0 r1 t0 z)
    unfold cb_X4_signatureOfPart
    split
    · exact fb_X4_signatureOfPart_0 (fq_X4_signatureOfPart k) hz (h9_r0 (by decide)) (h9_r1 (by decide))
    · exact fb_X4_signatureOfPart_1 (fq_X4_signatureOfPart k) hz (h9_r0 (by decide)) (h9_r1 (by decide))
    · exact fb_X4_signatureOfPart_2 (fq_X4_signatureOfPart k) hz (h9_r0 (by decide)) (h9_r1 (by decide))
    · exact fb_X4_signatureOfPart_3 (fq_X4_signatureOfPart k) hz (h9_r0 (by decide)) (h9_r1 (by decide))
    · exact fo_none
theorem ff_X4_signatureOfPart {vl : Nat → Nat} {K : Nat} {r0 : Nat} {r1 : Nat} {x2 : Int32} {x3 : Int32} {z : ow_MS} : Fo Prod.snd (fun g => r0 + 4 ≤ g ∧ g ≤ r0 + 8) z (ce_X4_signatureOfPart vl K r0 r1 x2 x3 z) := fq_X4_signatureOfPart (pr0 := r0) (pr1 := r1) K 0 _ _ _ _ _ _ _ _ z fr_rf (fun _ => rfl) (fun _ => rfl)
theorem fb_X4_signatureOf_0 {K : Nat} {vl : Nat → Nat} {z0 z : ow_MS} {pr0 : Nat} {pr1 : Nat} {go : Nat → Int32 → Int32 → Nat → Nat → ow_MS → Option (Int32 × ow_MS)} {x2 : Int32} {x3 : Int32} {r0 : Nat} {r1 : Nat} (hgo : ∀ (L : Nat) (x2 : Int32) (x3 : Int32) (r0 : Nat) (r1 : Nat) (z : ow_MS), fr (fun g => pr0 + 1 ≤ g ∧ g ≤ pr0 + 8 ∨ pr1 + 6 ≤ g ∧ g ≤ pr1 + 11) z0 z → (L = 0 ∨ L = 1 → r0 = pr0) → (L = 0 ∨ L = 1 → r1 = pr1) → Fo Prod.snd (fun g => pr0 + 1 ≤ g ∧ g ≤ pr0 + 8 ∨ pr1 + 6 ≤ g ∧ g ≤ pr1 + 11) z0 (go L x2 x3 r0 r1 z)) (hz : fr (fun g => pr0 + 1 ≤ g ∧ g ≤ pr0 + 8 ∨ pr1 + 6 ≤ g ∧ g ≤ pr1 + 11) z0 z) (e_r0 : r0 = pr0) (e_r1 : r1 = pr1) : Fo Prod.snd (fun g => pr0 + 1 ≤ g ∧ g ≤ pr0 + 8 ∨ pr1 + 6 ≤ g ∧ g ≤ pr1 + 11) z0 (cm_X4_signatureOf_0 vl K go x2 x3 r0 r1 z) := by
  unfold cm_X4_signatureOf_0
  exact (fo_cs0 ff_X7_markParts (fun g hg => by omega) hz (fun z1 h_z1 => (fo_cs0 ff_X4_mark (fun g hg => by omega) h_z1 (fun z2 h_z2 => (fo_rdF (fun v3 => (fo_cs0 ff_J7_fill_fda19 (fun g hg => by omega) h_z2 (fun z4 h_z4 => (hgo 1 _ _ _ _ z4 h_z4 (fun _ => by omega) (fun _ => by omega))))))))))
theorem fb_X4_signatureOf_1 {K : Nat} {vl : Nat → Nat} {z0 z : ow_MS} {pr0 : Nat} {pr1 : Nat} {go : Nat → Int32 → Int32 → Nat → Nat → ow_MS → Option (Int32 × ow_MS)} {x2 : Int32} {x3 : Int32} {r0 : Nat} {r1 : Nat} (hgo : ∀ (L : Nat) (x2 : Int32) (x3 : Int32) (r0 : Nat) (r1 : Nat) (z : ow_MS), fr (fun g => pr0 + 1 ≤ g ∧ g ≤ pr0 + 8 ∨ pr1 + 6 ≤ g ∧ g ≤ pr1 + 11) z0 z → (L = 0 ∨ L = 1 → r0 = pr0) → (L = 0 ∨ L = 1 → r1 = pr1) → Fo Prod.snd (fun g => pr0 + 1 ≤ g ∧ g ≤ pr0 + 8 ∨ pr1 + 6 ≤ g ∧ g ≤ pr1 + 11) z0 (go L x2 x3 r0 r1 z)) (hz : fr (fun g => pr0 + 1 ≤ g ∧ g ≤ pr0 + 8 ∨ pr1 + 6 ≤ g ∧ g ≤ pr1 + 11) z0 z) (e_r0 : r0 = pr0) (e_r1 : r1 = pr1) : Fo Prod.snd (fun g => pr0 + 1 ≤ g ∧ g ≤ pr0 + 8 ∨ pr1 + 6 ≤ g ∧ g ≤ pr1 + 11) z0 (cm_X4_signatureOf_1 vl K go x2 x3 r0 r1 z) := by
  unfold cm_X4_signatureOf_1
  exact (fo_rdF (fun v5 => (fo_if (fo_some hz) (fo_cs0 ff_X4_paint (fun g hg => by omega) hz (fun z6 h_z6 => (fo_cs1 ff_X4_rarerColour (fun g hg => by omega) h_z6 (fun v8 z7 h_z7 => (fo_cs1 ff_X4_signatureOfPart (fun g hg => by omega) h_z7 (fun v10 z9 h_z9 => (hgo 1 _ _ _ _ z9 h_z9 (fun _ => by omega) (fun _ => by omega)))))))))))
theorem fq_X4_signatureOf {K : Nat} {vl : Nat → Nat} {z0 : ow_MS} {pr0 : Nat} {pr1 : Nat} : ∀ (k L : Nat) (x2 : Int32) (x3 : Int32) (r0 : Nat) (r1 : Nat) (z : ow_MS), fr (fun g => pr0 + 1 ≤ g ∧ g ≤ pr0 + 8 ∨ pr1 + 6 ≤ g ∧ g ≤ pr1 + 11) z0 z → (L = 0 ∨ L = 1 → r0 = pr0) → (L = 0 ∨ L = 1 → r1 = pr1) → Fo Prod.snd (fun g => pr0 + 1 ≤ g ∧ g ≤ pr0 + 8 ∨ pr1 + 6 ≤ g ∧ g ≤ pr1 + 11) z0 (c_X4_signatureOf vl K k L x2 x3 r0 r1 z)
  | 0 => by
    intros
    exact fo_none
  | k + 1 => by
    intro L x2 x3 r0 r1 z hz h9_r0 h9_r1
    show Fo Prod.snd (fun g => pr0 + 1 ≤ g ∧ g ≤ pr0 + 8 ∨ pr1 + 6 ≤ g ∧ g ≤ pr1 + 11) z0 (cb_X4_signatureOf vl K (c_X4_signatureOf vl K k) L x2 x3 r0 r1 z)
    unfold cb_X4_signatureOf
    split
    · exact fb_X4_signatureOf_0 (fq_X4_signatureOf k) hz (h9_r0 (by decide)) (h9_r1 (by decide))
    · exact fb_X4_signatureOf_1 (fq_X4_signatureOf k) hz (h9_r0 (by decide)) (h9_r1 (by decide))
    · exact fo_none
theorem ff_X4_signatureOf {vl : Nat → Nat} {K : Nat} {r0 : Nat} {r1 : Nat} {z : ow_MS} : Fo Prod.snd (fun g => r0 + 1 ≤ g ∧ g ≤ r0 + 8 ∨ r1 + 6 ≤ g ∧ g ≤ r1 + 11) z (ce_X4_signatureOf vl K r0 r1 z) := fq_X4_signatureOf (pr0 := r0) (pr1 := r1) K 0 _ _ _ _ z fr_rf (fun _ => rfl) (fun _ => rfl)
theorem ff_X11_signature {vl : Nat → Nat} {K : Nat} {r0 : Nat} {x1 : Int32} {z : ow_MS} : Fo (fun r => r.2.2) (fun g => r0 + 4001 ≤ g ∧ g ≤ r0 + 4011 ∨ r0 + 6001 ≤ g ∧ g ≤ r0 + 6008) z (ce_X11_signature vl K r0 x1 z) := by
  unfold ce_X11_signature cm_X11_signature_0
  exact (fc_tc0 ff_X11_needDiagram (fun g hg => hg.elim) fr_rf (fun k z h_e => (fo_some h_e)) (fun z1 h_z1 => (fo_cs0 ff_X7_load (fun g hg => by omega) h_z1 (fun z3 h_z3 => (fo_cs1 ff_X4_signatureOf (fun g hg => by omega) h_z3 (fun v5 z4 h_z4 => (fo_some h_z4)))))))
end
