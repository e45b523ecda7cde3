/-! conway: the reference's skein, exactly -/
def cwA (z : ow_MS) (n : Nat → Int) : Prop := ∀ t, t < 40 → z.2.2 42 t = Int64.ofInt (n t)
def shf (j : Nat) (V : Nat → Int) (t : Nat) : Int := if j ≤ t then V (t - j) else 0
theorem cwA_fr {P : Nat → Prop} {z z1 : ow_MS} {n : Nat → Int} (hf : fr P z z1) (hP : ¬ P 42) (h : cwA z n) : cwA z1 n := fun t ht => by
  rw [(hf 42 hP).2.2]
  exact h t ht
theorem cwA_cg {z : ow_MS} {n n' : Nat → Int} (h : cwA z n) (e : ∀ t, t < 40 → n t = n' t) : cwA z n' := fun t ht => by
  rw [← e t ht]
  exact h t ht
theorem smV_n {A : rn_L} {v w : Nat} (hvw : v < w) (hw : w < A.flatten.length) : (smV A v w).length ≤ A.length + 1 := by
  obtain ⟨c1, c2, c3⟩ := rn_c_in A v (by omega)
  obtain ⟨j1, j2, j3⟩ := rn_c_in A w hw
  unfold smV smC
  by_cases hone : w < rn_b A (rn_c A v + 1)
  · rw [if_pos hone, List.length_map, List.length_append, List.length_append, List.length_append, cps_n, cps_n]
    show rn_c A v - 0 + 1 + (A.length - (rn_c A v + 1)) + 1 ≤ A.length + 1
    omega
  · rw [if_neg hone]
    have hcJ : rn_c A v < rn_c A w := by
      rcases Nat.lt_or_ge (rn_c A v) (rn_c A w) with h9 | h9
      · exact h9
      · have := rn_b_mono2 (A := A) (show rn_c A w + 1 ≤ rn_c A v + 1 by omega)
        omega
    rw [List.length_map, List.length_append, List.length_append, List.length_append, cps_n, cps_n, cps_n]
    show rn_c A v - 0 + 1 + (rn_c A w - (rn_c A v + 1)) + (A.length - (rn_c A w + 1)) ≤ A.length + 1
    omega
theorem xr_leaf {c j : Nat} {σ : Int} {a : Int32} {z : ow_MS} {n : Nat → Int} (hc : c < 100) (hj : j ≤ 12) (h46 : z.1 46 = 0) (hn : cwA z n) : Te (fun K => qe_X13_leaf K (nI c) (Int64.ofInt σ) a (nI j) z) (fun z1 => fr (fun g => g = 42) z z1 ∧ cwA z1 (fun t => n t + σ * (if c = 1 ∧ t = j then 1 else 0))) := by
  have out : ∀ x : Int64, x = (if c = 1 then Int64.ofInt σ else 0) → cwA (usJ z 42 j (Int64.ofInt (n j) + x)) (fun t => n t + σ * (if c = 1 ∧ t = j then 1 else 0)) := fun x hx t ht => by
    show (usJ z 42 j (Int64.ofInt (n j) + x)).2.2 42 t = Int64.ofInt (n t + σ * (if c = 1 ∧ t = j then 1 else 0))
    by_cases e : t = j
    · rw [e, usJ_at, hx]
      by_cases e1 : c = 1
      · rw [if_pos e1, if_pos ⟨e1, rfl⟩, Int.mul_one, Int64.ofInt_add]
      · rw [if_neg e1, if_neg (fun h => e1 h.1), Int.mul_zero, Int.add_zero, Int64.add_zero]
    · rw [usJ_ne e, if_neg (fun h => e h.2), Int.mul_zero, Int.add_zero]
      exact hn t ht
  refine e_X13_leaf ?_
  refine u_X13_leaf_0 ?_; unfold qm_X13_leaf_0
  refine w_rdF h46 (w_ifT rfl (w_rdJ ml42 rfl (by omega) (hn j (by omega)) ?_))
  refine w_eqN (b := 1) (by omega) (by omega) (fun e1 => w_wrJ ml42 rfl (by omega) (w_some ⟨fr_J rfl, out _ (by rw [if_pos e1])⟩)) (fun e1 => w_wrJ ml42 rfl (by omega) (w_some ⟨fr_J rfl, out _ (by rw [if_neg e1])⟩))
theorem sg_sm {z z1 : ow_MS} {o n v w : Nat} {A : rn_L} {sg : Nat → Bool} (hF : wkF A.flatten) (hvw : v < w) (hw : w < A.flatten.length) (h : rn_sg z o A.flatten sg) (e : ∀ x, x < 40 → z1.2.1 (n + 6) x = z.2.1 (o + 6) x) : rn_sg z1 n (smV A v w).flatten sg := fun p hp => by
  have hp' := (sm_perm hvw hw).mem_iff.mpr (List.mem_cons_of_mem _ (List.mem_cons_of_mem _ hp))
  rw [e _ (hF.2 p hp').1]
  exact h p hp'
theorem sg_ch {z z1 z2 : ow_MS} {o n x : Nat} {A : rn_L} {sg : Nat → Bool} (hF : wkF A.flatten) (h : rn_sg z o A.flatten sg) (e : ∀ x, x < 40 → z1.2.1 (n + 6) x = z.2.1 (o + 6) x) (e1 : z2.2.1 (n + 6) x = 0 - z1.2.1 (n + 6) x) (e2 : ∀ y, y ≠ x → z2.2.1 (n + 6) y = z1.2.1 (n + 6) y) : rn_sg z2 n (chA A x).flatten (chS sg x) := fun p hp => by
  unfold chA at hp
  rw [fl_map2] at hp
  obtain ⟨q, hq, e9⟩ := List.mem_map.mp hp
  have ep : p.1 = q.1 := by rw [← e9, flp_1]
  have h4 := (hF.2 q hq).1
  rw [ep]
  unfold chS
  by_cases hx : q.1 = x
  · rw [hx, e1, if_pos rfl, e x (by omega), ← hx, h q hq]
    cases sg q.1 <;> rfl
  · rw [e2 _ hx, if_neg hx, e _ h4]
    exact h q hq
theorem xr_skein : ∀ (f depth dd k j : Nat) (A : rn_L) (sg : Nat → Bool) (σ : Int) (n : Nat → Int) (z : ow_MS), f < dd → depth + f ≤ 12 → j ≤ depth → wkF A.flatten → A.flatten.length ≤ 24 → A.length ≤ 6 + j → rn_At z (1000 * (depth + 4)) A [] → rn_sg z (1000 * (depth + 4)) A.flatten sg → gPre A k → ouT A k f → z.1 46 = 0 → cwA z n → Te (fun K => qd_X13_skein K dd (nI depth) (Int64.ofInt σ) 0 (nI j) z) (fun z1 => fr (skH depth) z z1 ∧ cwA z1 (fun t => n t + σ * shf j (skV 13 A sg) t)) := by
  intro f
  induction f using Nat.strongRecOn with
  | ind f ih =>
  intro depth dd k j A sg σ n z hdd hdf hj hF hl hC hA hS hg ho h46 hcw
  obtain ⟨dd, rfl⟩ : ∃ d', dd = d' + 1 := ⟨dd - 1, by omega⟩
  have hd := wkF_ok hF
  have hn : mw_net (1000 * (depth + 4)) := pnL (by omega)
  have hn2 : mw_net (1000 * (depth + 1 + 4)) := pnL (by omega)
  have cx : ∀ {i}, i < A.flatten.length → crs A i < 40 ∧ uns A i < 2 := fun hi => by
    obtain ⟨g1, g2, -⟩ := hF.2 _ (List.mem_of_getElem? (vAt_of hi))
    exact ⟨g1, g2⟩
  let Q : ow_MS → Prop := fun z1 => fr (skH depth) z z1 ∧ cwA z1 (fun t => n t + σ * shf j (skV 13 A sg) t)
  have mono41 : ∀ {y : ow_MS}, fr (fun g => g = 41) z y → fr (skH depth) z y := fun hf => fr_mono (fun g hg => Or.inr (Or.inl hg)) hf
  have aA : ∀ {y : ow_MS}, fr (fun g => g = 41) z y → rn_At y (1000 * (depth + 4)) A [] := fun hf => fr_At hf (fun g hg => by omega) hA
  have aV : ∀ {y : ow_MS}, fr (fun g => g = 41) z y → y.1 (1000 * (depth + 4) + 1) = nI A.flatten.length := fun hf => by rw [(aA hf).1, List.append_nil]
  have c5 : (∀ v, ¬ bdF A v) → ∀ (x8 : Int32) (y : ow_MS), fr (fun g => g = 41) z y → Tt (fun K i => q_X13_skein K (qd_X13_skein K dd) i 5 (nI depth) 0 (nI j) (-1) x8 0 0 0 (Int64.ofInt σ) (1000 * (depth + 4)) 0 0 0 0 0 0 0 0 y) Q := by
    intro hno x8 y hf
    refine u_X13_skein_5 ?_; unfold qm_X13_skein_5
    refine w_ifT rfl (w_rdF (aA hf).2.1 (w_cs0 (xr_leaf (n := n) (by omega) (by omega) (by rw [(hf 46 (by decide)).1]; exact h46) (cwA_fr hf (by decide) hcw)) (fun z1 ⟨h9, h8⟩ => w_some ⟨?_, cwA_cg h8 (fun t ht => ?_)⟩)))
    · exact fr_tr (mono41 hf) (fr_mono (fun g hg => Or.inr (Or.inr (Or.inl hg))) h9)
    · unfold shf
      rw [sk_none (F := 12) hno]
      by_cases e1 : A.length = 1 ∧ t = j
      · rw [if_pos e1, if_pos (by omega), if_pos ⟨e1.1, by omega⟩]
      · rw [if_neg e1]
        by_cases e2 : j ≤ t
        · rw [if_pos e2, if_neg (fun h => e1 ⟨h.1, by omega⟩)]
        · rw [if_neg e2]
  have bad : ∀ (v : Nat) (x8 : Int32) (y : ow_MS), fr (fun g => g = 41) z y → v < A.flatten.length → (∀ u, u < v → crs A u ≠ crs A v) → uns A v ≠ 0 → (∀ u, u < v → (∀ t, t < u → crs A t ≠ crs A u) → uns A u = 0) → Tt (fun K i => q_X13_skein K (qd_X13_skein K dd) i 5 (nI depth) 0 (nI j) (nI v) x8 0 0 0 (Int64.ofInt σ) (1000 * (depth + 4)) 0 0 0 0 0 0 0 0 y) Q := by
    intro v x8 y hf hv hfst hb hgood
    have hAy := aA hf
    obtain ⟨g1, g2, g3⟩ := rn_c_in A v hv
    have hml := mtf_lt hd hv
    have hmc := crs_mtf hd hv
    have hmn := mtf_ne hd hv
    have hvm : v < mtf A v := by
      rcases Nat.lt_or_ge (mtf A v) v with h8 | h8
      · exact absurd hmc (hfst _ h8)
      · omega
    obtain ⟨fc, hfc, kF, kg, ko⟩ := sk_ch (x := crs A v) hF hg ho hv rfl hfst hb hgood
    have hbd : bdF A v := ⟨hv, hfst, hb, hgood⟩
    obtain ⟨q1, q2, q3⟩ := smC_ok hF hvm hml
    obtain ⟨fs, hfs, mF, mg, mo, ml⟩ := sk_sm hF hg ho hv hml hvm hmc hfst hb hgood q1 q2 q3
    obtain ⟨σ1, hσ1⟩ : ∃ σ1 : Int, σ1 = if sg (crs A v) then 0 - σ else σ := ⟨_, rfl⟩
    have c13 : ∀ (x11 : Int32) (y5 : ow_MS), fr (skH depth) z y5 → rn_At y5 (1000 * (depth + 1 + 4)) (chA A (crs A v)) [] → rn_sg y5 (1000 * (depth + 1 + 4)) (chA A (crs A v)).flatten (chS sg (crs A v)) → cwA y5 (fun t => n t + σ1 * shf (j + 1) (skV 13 (smV A v (mtf A v)) sg) t) → Tt (fun K i => q_X13_skein K (qd_X13_skein K dd) i 13 (nI depth) 0 (nI j) (nI v) (nI (rn_c A v)) (nI (crs A v)) (nI (mtf A v)) x11 (Int64.ofInt σ) (1000 * (depth + 4)) (1000 * (depth + 1 + 4)) 0 0 (nI (depth + 1)) 0 0 (Int64.ofInt σ) 0 y5) Q := by
      intro x11 y5 hf5 hA5 hS5 hc5
      refine u_X13_skein_13 ?_; unfold qm_X13_skein_13
      refine w_cs0 (ih fc (by omega) (depth + 1) dd (v + 1) j (chA A (crs A v)) (chS sg (crs A v)) σ _ y5 (by omega) (by omega) (by omega) kF (by rw [ch_len]; exact hl) (by unfold chA; rw [List.length_map]; exact hC) hA5 hS5 kg ko (by rw [(hf5 46 (by unfold skH; omega)).1]; exact h46) hc5) (fun z6 ⟨h6, h7⟩ => w_some ⟨fr_tr hf5 (fr_mono (fun g hg => by unfold skH at hg ⊢; omega) h6), cwA_cg h7 (fun t ht => ?_)⟩)
      unfold shf
      by_cases e2 : j ≤ t
      · rw [if_pos e2, if_pos e2, sk_st hF hl hbd, hσ1]
        by_cases e3 : j + 1 ≤ t
        · rw [if_pos e3, if_neg (show ¬ t - j = 0 by omega), show t - (j + 1) = t - j - 1 by omega]
          cases sg (crs A v)
          · rw [if_neg (by decide), if_neg (by decide), Int.one_mul, Int.mul_add, Int.add_assoc]
          · rw [if_pos rfl, if_pos rfl, Int.mul_add, Int.add_assoc, show σ * (-1 * skV 13 (smV A v (mtf A v)) sg (t - j - 1)) = (0 - σ) * skV 13 (smV A v (mtf A v)) sg (t - j - 1) by rw [Int.neg_one_mul, Int.mul_neg, Int.zero_sub, Int.neg_mul]]
        · rw [if_neg e3, if_pos (show t - j = 0 by omega), Int.mul_zero, Int.mul_zero, Int.add_zero, Int.zero_add]
      · rw [if_neg e2, if_neg e2, if_neg (by omega), Int.mul_zero, Int.mul_zero, Int.add_zero, Int.add_zero]
    have c8 : ∀ (t0 : Int32), t0 = (if sg (crs A v) then 0 else 1) → Tt (fun K i => q_X13_skein K (qd_X13_skein K dd) i 8 (nI depth) 0 (nI j) (nI v) (nI (rn_c A v)) (nI (crs A v)) (nI (mtf A v)) 0 (Int64.ofInt σ) (1000 * (depth + 4)) 0 t0 0 0 0 0 0 0 y) Q := by
      intro t0 ht0
      have hSy : rn_sg y (1000 * (depth + 4)) A.flatten sg := fun p hp => by
        rw [(hf _ (by omega)).2.1]
        exact hS p hp
      refine u_X13_skein_8 ?_; unfold qm_X13_skein_8
      rw [show nI depth + 1 = nI (depth + 1) from nI_1 _]
      refine w_rdN rfl (by omega) (w_cs0 (xr_smoothIn hn hn2 (by omega) hl (by omega) hAy g1 g2 g3 hvm hml) (fun z2 ⟨b2, s2, f2⟩ => ?_))
      have b2 : rn_At z2 (1000 * (depth + 1 + 4)) (smV A v (mtf A v)) [] := b2
      have hz2 : fr (skH depth) z z2 := fr_tr (mono41 hf) (fr_mono (fun g hg => Or.inl (by omega)) f2)
      have hA2 : rn_At z2 (1000 * (depth + 4)) A [] := fr_At f2 (fun g hg => by omega) hAy
      have hS2 : rn_sg z2 (1000 * (depth + 4)) A.flatten sg := fun p hp => by
        rw [(f2 _ (by omega)).2.1]
        exact hSy p hp
      have hs1 : (if t0 = 0 then (0 - Int64.ofInt σ) else Int64.ofInt σ) = Int64.ofInt σ1 := by
        rw [ht0, hσ1]
        cases sg (crs A v)
        · rw [if_neg (by decide), if_neg (by decide)]
        · rw [if_pos rfl, if_pos rfl, if_pos rfl, Int64.ofInt_sub]
          rfl
      have c11 : Tt (fun K i => q_X13_skein K (qd_X13_skein K dd) i 11 (nI depth) 0 (nI j) (nI v) (nI (rn_c A v)) (nI (crs A v)) (nI (mtf A v)) t0 (Int64.ofInt σ) (1000 * (depth + 4)) (1000 * (depth + 1 + 4)) 0 0 (nI (depth + 1)) 0 0 (Int64.ofInt σ1) 0 z2) Q := by
        refine u_X13_skein_11 ?_; unfold qm_X13_skein_11
        rw [show nI depth + 1 = nI (depth + 1) from nI_1 _, show nI j + 1 = nI (j + 1) from nI_1 _]
        refine w_cs0 (ih fs (by omega) (depth + 1) dd v (j + 1) (smV A v (mtf A v)) sg σ1 n z2 (by omega) (by omega) (by omega) mF (Nat.le_trans ml hl) (by have := smV_n hvm hml; omega) b2 (sg_sm hF hvm hml hSy s2) mg mo (by rw [(hz2 46 (by unfold skH; omega)).1]; exact h46) (cwA_fr f2 (by omega) (cwA_fr hf (by decide) hcw))) (fun z3 ⟨h3, h3c⟩ => ?_)
        have hA3 : rn_At z3 (1000 * (depth + 4)) A [] := fr_At h3 (fun g hg => by unfold skH at hg; omega) hA2
        have hS3 : rn_sg z3 (1000 * (depth + 4)) A.flatten sg := fun p hp => by
          rw [(h3 _ (by unfold skH; omega)).2.1]
          exact hS2 p hp
        refine w_cs0 (tn_copy hn2 hn (by omega) (by omega) (by omega) hA3) (fun z4 ⟨hA4, f4, s4⟩ => w_cs0 (tp_changeIn hn2 (by omega) (cx hv).1 (fun u hu => ⟨(cx hu).2, (cx hu).1⟩) hA4) (fun z5 ⟨hA5, f5, e5, e6⟩ => ?_))
        have hz5 : fr (skH depth) z z5 := fr_tr hz2 (fr_tr (fr_mono (fun g hg => by unfold skH at hg ⊢; omega) h3) (fr_tr (fr_mono (fun g hg => Or.inl (by omega)) f4) (fr_mono (fun g hg => Or.inl (by omega)) f5)))
        exact w_rdF (by rw [(hz5 46 (by unfold skH; omega)).1]; exact h46) (w_ifT rfl (c13 _ z5 hz5 hA5 (sg_ch hF hS3 s4 e5 e6) (cwA_fr f5 (by omega) (cwA_fr f4 (by omega) h3c))))
      have c9 : Tt (fun K i => q_X13_skein K (qd_X13_skein K dd) i 9 (nI depth) 0 (nI j) (nI v) (nI (rn_c A v)) (nI (crs A v)) (nI (mtf A v)) t0 (Int64.ofInt σ) (1000 * (depth + 4)) (1000 * (depth + 1 + 4)) 0 (nI (depth + 1)) 0 0 (Int64.ofInt σ1) 0 0 z2) Q := by
        refine u_X13_skein_9 ?_; unfold qm_X13_skein_9
        exact w_rdF (by rw [(hz2 46 (by unfold skH; omega)).1]; exact h46) (w_ifT rfl c11)
      refine w_if (fun h0 => ?_) (fun h0 => ?_)
      · rw [if_pos h0] at hs1
        rw [hs1]
        exact c9
      · rw [if_neg h0] at hs1
        rw [← hs1] at c9
        exact c9
    have c7 : ∀ (d w : Nat), w + d = mtf A v → v < w → Tt (fun K i => q_X13_skein K (qd_X13_skein K dd) i 7 (nI depth) 0 (nI j) (nI v) (nI (rn_c A v)) (nI (crs A v)) (nI w) 0 (Int64.ofInt σ) (1000 * (depth + 4)) 0 0 0 0 0 0 0 0 y) Q := by
      intro d
      induction d with
      | zero =>
        intro w hw hvw
        have hw : w = mtf A v := by omega
        subst hw
        refine u_X13_skein_7 ?_; unfold qm_X13_skein_7
        refine w_rdI (pl4 hn) rfl (by omega) (at_cu hAy hml).1 (w_ifT (by rw [hmc]) (w_rdI (pl6 hn) rfl (cx hv).1 (x := if sg (crs A v) then -1 else 1) (by rw [(hf _ (by omega)).2.1]; exact hS _ (vAt_mem hv)) ?_))
        cases e9 : sg (crs A v)
        · exact w_ifF (by decide) (c8 1 (by rw [e9]; rfl))
        · exact w_ifT (by decide) (c8 0 (by rw [e9]; rfl))
      | succ d ih7 =>
        intro w hw hvw
        have hwl : w < A.flatten.length := by omega
        refine u_X13_skein_7 ?_; unfold qm_X13_skein_7
        rw [show nI w + 1 = nI (w + 1) from nI_1 _]
        refine w_rdI (pl4 hn) rfl (by omega) (at_cu hAy hwl).1 (w_ifF (fun e9 => ?_) (ih7 (w + 1) (by omega) (by omega)))
        have e8 := (nI_eq (by have := (cx hwl).1; omega) (by have := (cx hv).1; omega)).mp e9
        exact sk_two hd hv hml hwl (by omega) hmc (by omega) (by omega) e8
    have c6 : ∀ (d c : Nat), c + d = rn_c A v → Tt (fun K i => q_X13_skein K (qd_X13_skein K dd) i 6 (nI depth) 0 (nI j) (nI v) (nI c) 0 0 0 (Int64.ofInt σ) (1000 * (depth + 4)) 0 0 0 0 0 0 0 0 y) Q := by
      intro d
      induction d with
      | zero =>
        intro c hc
        have hc : c = rn_c A v := by omega
        subst hc
        refine u_X13_skein_6 ?_; unfold qm_X13_skein_6
        rw [show nI (rn_c A v) + 1 = nI (rn_c A v + 1) from nI_1 _, show nI v + 1 = nI (v + 1) from nI_1 _]
        exact w_rdI (pl3 hn) rfl (by omega) (hAy.2.2.1 _ (by omega)) (w_ltT (by have := rn_b_le A (rn_c A v + 1); unfold rn_b at this; omega) g3 (w_rdI (pl4 hn) rfl (by omega) (at_cu hAy hv).1 (c7 (mtf A v - (v + 1)) (v + 1) (by omega) (by omega))))
      | succ d ih6 =>
        intro c hc
        refine u_X13_skein_6 ?_; unfold qm_X13_skein_6
        rw [show nI c + 1 = nI (c + 1) from nI_1 _]
        have hle : rn_b A (c + 1) ≤ rn_b A (rn_c A v) := rn_b_mono2 (by omega)
        exact w_rdI (pl3 hn) rfl (by omega) (hAy.2.2.1 _ (by omega)) (w_ltF (by omega) (show rn_b A (c + 1) ≤ v by omega) (ih6 (c + 1) (by omega)))
    refine u_X13_skein_5 ?_; unfold qm_X13_skein_5
    exact w_ifF (rn_neg1 (by omega)) (c6 (rn_c A v) 0 (by omega))
  have scan : ∀ (d v : Nat) (y : ow_MS), v + d = A.flatten.length → fr (fun g => g = 41) z y → metR A v y → (∀ u, u < v → (∀ t, t < u → crs A t ≠ crs A u) → uns A u = 0) → Tt (fun K i => q_X13_skein K (qd_X13_skein K dd) i 2 (nI depth) 0 (nI j) (-1) (nI v) 0 0 0 (Int64.ofInt σ) (1000 * (depth + 4)) 0 0 0 0 0 0 0 0 y) Q := by
    intro d
    induction d with
    | zero =>
      intro v y hv hf hm hgd
      refine u_X13_skein_2 ?_; unfold qm_X13_skein_2
      exact w_rdF (aV hf) (w_leT (by omega) (by omega) (c5 (fun u hu => hu.2.2.1 (hgd u (by have := hu.1; omega) hu.2.1)) _ y hf))
    | succ d ihs =>
      intro v y hv hf hm hgd
      have hvl : v < A.flatten.length := by omega
      have hcv := cx hvl
      have next : ∀ (y2 : ow_MS), fr (fun g => g = 41) z y2 → metR A (v + 1) y2 → (∀ u, u < v + 1 → (∀ t, t < u → crs A t ≠ crs A u) → uns A u = 0) → Tt (fun K i => q_X13_skein K (qd_X13_skein K dd) i 4 (nI depth) 0 (nI j) (-1) (nI v) (nI (crs A v)) 0 0 (Int64.ofInt σ) (1000 * (depth + 4)) 0 0 0 0 0 0 0 0 y2) Q := by
        intro y2 hf2 hm2 hg2
        refine u_X13_skein_4 ?_; unfold qm_X13_skein_4
        rw [show nI v + 1 = nI (v + 1) from nI_1 _]
        exact ihs (v + 1) y2 (by omega) hf2 hm2 hg2
      refine u_X13_skein_2 ?_; unfold qm_X13_skein_2
      refine w_rdF (aV hf) (w_leF (by omega) hvl (w_ifT rfl (w_rdI (pl4 hn) rfl (by omega) (at_cu (aA hf) hvl).1 (w_rdI ml41 rfl hcv.1 rfl ?_))))
      rcases hm _ hcv.1 with ⟨e0, hno⟩ | ⟨e1, u, hu, hue⟩
      · rw [e0]
        have hf2 : fr (fun g => g = 41) z (usI y 41 (crs A v) (vp_nar .boolean 1)) := fr_I2 hf rfl
        refine w_ifT rfl (w_wrZ ml41 rfl hcv.1 (w_rdI (pl5 hn) rfl (by omega) (at_cu (aA hf2) hvl).2 (w_if (fun h9 => ?_) (fun h9 => ?_))))
        · have hb : uns A v ≠ 0 := fun e => by rw [e] at h9; exact absurd h9 (by decide)
          refine u_X13_skein_3 ?_; unfold qm_X13_skein_3
          refine u_X13_skein_4 ?_; unfold qm_X13_skein_4
          rw [show nI v + 1 = nI (v + 1) from nI_1 _]
          refine u_X13_skein_2 ?_; unfold qm_X13_skein_2
          exact w_rdF (aV hf2) (w_le (by omega) (by omega) (fun _ => bad v _ _ hf2 hvl hno hb hgd) (fun _ => w_ifF (rn_neg1 (by omega)) (bad v _ _ hf2 hvl hno hb hgd)))
        · have hb : uns A v = 0 := by
            rcases Nat.eq_zero_or_pos (uns A v) with h8 | h8
            · exact h8
            · exact absurd (show nI (uns A v) = 1 by rw [show uns A v = 1 by omega]; rfl) h9
          refine u_X13_skein_3 ?_; unfold qm_X13_skein_3
          refine next _ hf2 (fun x hx => ?_) (fun u hu hfu => ?_)
          · by_cases hxv : x = crs A v
            · rw [hxv]
              exact Or.inr ⟨po_usI_at.trans (by decide), v, by omega, rfl⟩
            · rcases hm x hx with ⟨a1, a2⟩ | ⟨a1, u, hu, a2⟩
              · refine Or.inl ⟨rd_ne hxv a1, fun u hu e => ?_⟩
                by_cases huv : u = v
                · rw [huv] at e
                  exact hxv e.symm
                · exact a2 u (by omega) e
              · exact Or.inr ⟨rd_ne hxv a1, u, by omega, a2⟩
          · by_cases huv : u = v
            · rw [huv]; exact hb
            · exact hgd u (by omega) hfu
      · rw [e1]
        refine w_ifF (by decide) (next y hf (fun x hx => ?_) (fun t ht hft => ?_))
        · rcases hm x hx with ⟨a1, a2⟩ | ⟨a1, t, ht, a2⟩
          · refine Or.inl ⟨a1, fun t ht e => ?_⟩
            by_cases htv : t = v
            · rw [htv] at e
              exact a2 u hu (hue.trans e)
            · exact a2 t (by omega) e
          · exact Or.inr ⟨a1, t, by omega, a2⟩
        · by_cases htv : t = v
          · rw [htv] at hft
            exact absurd hue (hft u hu)
          · exact hgd t (by omega) hft
  have clr : ∀ (d i : Nat) (y : ow_MS), i + d = 40 → fr (fun g => g = 41) z y → (∀ x, x < i → y.2.1 41 x = 0) → Tt (fun K t => q_X13_skein K (qd_X13_skein K dd) t 1 (nI depth) 0 (nI j) (nI i) 0 0 0 0 (Int64.ofInt σ) (1000 * (depth + 4)) 0 0 0 0 0 0 0 0 y) Q := by
    intro d
    induction d with
    | zero =>
      intro i y hi hf hx
      refine u_X13_skein_1 ?_; unfold qm_X13_skein_1
      exact w_leT (a := 40) (by omega) (by omega) (scan A.flatten.length 0 y (by omega) hf (fun x h9 => Or.inl ⟨hx x (by omega), fun u hu => absurd hu (by omega)⟩) (fun u hu => absurd hu (by omega)))
    | succ d ihc =>
      intro i y hi hf hx
      refine u_X13_skein_1 ?_; unfold qm_X13_skein_1
      rw [show nI i + 1 = nI (i + 1) from nI_1 _]
      refine w_leF (a := 40) (by omega) (by omega) (w_wrZ ml41 rfl (by omega) (ihc (i + 1) _ (by omega) (fr_I2 hf rfl) (fun x h9 => ?_)))
      by_cases hxi : x = i
      · rw [hxi]
        exact po_usI_at.trans (by decide)
      · exact rd_ne hxi (hx x (by omega))
  refine w_qd ?_
  refine u_X13_skein_0 ?_; unfold qm_X13_skein_0
  exact w_rdN rfl (by omega) (clr 40 0 z (by omega) fr_rf (fun x hx => absurd hx (by omega)))
