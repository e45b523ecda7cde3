/-! exact calls: braid, of the reference -/
/-- a letter of the tape, as a generator -/
def lwd (n : Nat) (v w : Int32) : Prop := (∃ a, a < n - 1 ∧ v - 97 = nI a ∧ w = nI (a + 1)) ∨ ¬ in9 (v - 97) (n - 1) ∧ ∃ a, a < n - 1 ∧ v - 65 = nI a ∧ w = -1 - nI a
def lbad (n : Nat) (v : Int32) : Prop := ¬ in9 (v - 97) (n - 1) ∧ ¬ in9 (v - 65) (n - 1)
/-- nothing kept was written but at the free place c -/
def sbB (g : Nat) (z z1 : ow_MS) (c : Nat) : Prop := z1.2.1 (g + 2) = z.2.1 (g + 2) ∧ z1.2.1 (g + 1) = z.2.1 (g + 1) ∧ ∀ d, d ≠ c → ∀ i, i < 16 → z1.2.1 g (16 * d + i) = z.2.1 g (16 * d + i)
section XBD
variable {X : (Nat → Nat → Int32) → Prop} {z : ow_MS}
theorem xq_braid {x : Int32} {t : Nat} (h : gI X z) (ht : t ≤ 400) (h11 : z.1 11 = nI t) : Te (fun K => qe_X13_braid K x z) (fun r => (rFl X z 1 r ∧ ¬ (∃ n, 2 ≤ n ∧ n ≤ 5 ∧ x = nI n) ∨ ∃ n, 2 ≤ n ∧ n ≤ 5 ∧ x = nI n ∧ (rFl X z 2 r ∧ (∀ c, c < 20 → z.2.1 96 c ≠ 0) ∨ ∃ c, lfB (z.2.1 96) c ∧ (gI X r.2 ∧ r.2.1 1 = 0 ∧ r.2.1 11 = 0 ∧ fr (fun g => g = 1 ∨ g = 11 ∨ 94 ≤ g ∧ g ≤ 96) z r.2 ∧ (t ≤ 16 ∧ r.1 = nI c ∧ (∃ w, (∀ i, i < t → lwd n (z.2.1 10 i) (w i)) ∧ nwB 94 z r.2 c n t w) ∨ ∃ i, i < t ∧ i ≤ 16 ∧ (∀ j, j < i → ∃ w, lwd n (z.2.1 10 j) w) ∧ (i = 16 ∨ lbad n (z.2.1 10 i)) ∧ r.1 = -1 - nI i ∧ sbB 94 z r.2 c))))) := by
  let Q : Int32 × ow_MS → Prop := fun r => (rFl X z 1 r ∧ ¬ (∃ n, 2 ≤ n ∧ n ≤ 5 ∧ x = nI n) ∨ ∃ n, 2 ≤ n ∧ n ≤ 5 ∧ x = nI n ∧ (rFl X z 2 r ∧ (∀ c, c < 20 → z.2.1 96 c ≠ 0) ∨ ∃ c, lfB (z.2.1 96) c ∧ (gI X r.2 ∧ r.2.1 1 = 0 ∧ r.2.1 11 = 0 ∧ fr (fun g => g = 1 ∨ g = 11 ∨ 94 ≤ g ∧ g ≤ 96) z r.2 ∧ (t ≤ 16 ∧ r.1 = nI c ∧ (∃ w, (∀ i, i < t → lwd n (z.2.1 10 i) (w i)) ∧ nwB 94 z r.2 c n t w) ∨ ∃ i, i < t ∧ i ≤ 16 ∧ (∀ j, j < i → ∃ w, lwd n (z.2.1 10 j) w) ∧ (i = 16 ∨ lbad n (z.2.1 10 i)) ∧ r.1 = -1 - nI i ∧ sbB 94 z r.2 c))))
  have h1 := gI_1 (c := 0) h
  have c1 : ¬ (∃ n, 2 ≤ n ∧ n ≤ 5 ∧ x = nI n) → Tt (fun K k => q_X13_braid K k 1 x 0 0 0 0 0 0 0 0 (usF z 1 0)) Q := by
    intro hno
    refine u_X13_braid_1 ?_; unfold qm_X13_braid_1
    exact w_mono (w_failX (k := 1) h1 fr_1) (fun r hr => Or.inl ⟨hr, hno⟩)
  have no2 : x < 2 → ¬ (∃ n, 2 ≤ n ∧ n ≤ 5 ∧ x = nI n) := fun h9 ⟨n, n2, n5, e⟩ => by
    rw [e] at h9
    have := (nI_ltI (a := n) (b := 2) (by omega) (by omega)).mp h9
    omega
  have no5 : ¬ x ≤ 5 → ¬ (∃ n, 2 ≤ n ∧ n ≤ 5 ∧ x = nI n) := fun h9 ⟨n, n2, n5, e⟩ => by
    rw [e] at h9
    exact h9 ((nI_leI (a := n) (b := 5) (by omega) (by omega)).mpr n5)
  refine e_X13_braid ?_
  refine u_X13_braid_0 ?_; unfold qm_X13_braid_0
  refine w_wrF (w_if (fun h9 => c1 (no2 h9)) (fun h2 => w_if (fun h5 => ?_) (fun h9 => c1 (no5 h9))))
  obtain ⟨n, hn, rfl⟩ : ∃ n, n ≤ 5 ∧ x = nI n := by
    have h0 : ¬ x < 0 := fun h9 => h2 (Int32.lt_trans h9 (by decide))
    exact nI_of2 (M := 5) (n := 5) (by decide) h0 h5
  have hn2 : 2 ≤ n := by
    rcases Nat.lt_or_ge n 2 with h9 | h9
    · exact absurd (nI_lt h9 (by omega)) h2
    · exact h9
  refine w_freeBX h1.2.2.2.2.2.1 (fun h0 => w_ifT rfl (w_mono (w_failX (k := 2) h1 fr_1) (fun r hr => Or.inr ⟨n, hn2, hn, rfl, Or.inl ⟨hr, h0⟩⟩))) (fun c hlf => w_ifF (rn_neg1 (by have := hlf.1; omega)) ?_)
  have hc := hlf.1
  have hc0 := hlf.2.1
  have fin : ∀ {r}, (gI X r.2 ∧ r.2.1 1 = 0 ∧ r.2.1 11 = 0 ∧ fr (fun g => g = 1 ∨ g = 11 ∨ 94 ≤ g ∧ g ≤ 96) z r.2 ∧ (t ≤ 16 ∧ r.1 = nI c ∧ (∃ w, (∀ i, i < t → lwd n (z.2.1 10 i) (w i)) ∧ nwB 94 z r.2 c n t w) ∨ ∃ i, i < t ∧ i ≤ 16 ∧ (∀ j, j < i → ∃ w, lwd n (z.2.1 10 j) w) ∧ (i = 16 ∨ lbad n (z.2.1 10 i)) ∧ r.1 = -1 - nI i ∧ sbB 94 z r.2 c)) → Q r := fun hr => Or.inr ⟨n, hn2, hn, rfl, Or.inr ⟨c, hlf, hr⟩⟩
  have en1 : nI n - 1 = nI (n - 1) := pk_sub (b := 1) (by omega)
  let W : Nat → ow_MS → Prop := fun i y => fr (fun g => g = 94) (usF z 1 0) y ∧ (∀ d, d ≠ c → ∀ j, j < 16 → y.2.1 94 (16 * d + j) = (usF z 1 0).2.1 94 (16 * d + j)) ∧ ∀ j, j < i → ltr n (y.2.1 94 (16 * c + j)) ∧ lwd n (z.2.1 10 j) (y.2.1 94 (16 * c + j))
  have wI : ∀ {i : Nat} {y : ow_MS}, W i y → gI X y := fun hW => gI_br hW.1 (fun g hg => Or.inl (by omega)) (gBrs_wr h1.2.2.2.2.2.1 hc0 (hW.1 96 (by omega)).2.1 (hW.1 95 (by omega)).2.1 hW.2.1) h1
  have y11 : ∀ {i : Nat} {y : ow_MS}, W i y → y.1 11 = nI t := fun hW => by rw [(hW.1 11 (by omega)).1]; exact (show (usF z 1 0).1 11 = nI t from (usF_n9 (by decide)).trans h11)
  -- the end
  have fall : ∀ {i : Nat} {y y1 : ow_MS}, W i y → fr (fun g => g = 11 ∨ g = 95 ∨ g = 96) y y1 → fr (fun g => g = 1 ∨ g = 11 ∨ 94 ≤ g ∧ g ≤ 96) z y1 ∧ y1.1 1 = 0 := fun hW hf => ⟨fr_tr (fr_F (Or.inl rfl)) (fr_tr (fr_mono (fun g hg => by omega) hW.1) (fr_mono (fun g hg => by omega) hf)), by
    rw [(hf 1 (by omega)).1, (hW.1 1 (by omega)).1]
    exact po_usF_at⟩
  have l10 : ∀ (x4 : Int32) (i : Nat) (y : ow_MS), W i y → t ≤ i → i ≤ 16 → Tt (fun K k => q_X13_braid K k 10 (nI n) (nI c) (-1) x4 0 0 0 0 0 y) Q := by
    intro x4 i y hW t1 t2
    have hI := gI_t (t := 0) (x := 0) rfl (by omega) (wI hW)
    refine u_X13_braid_10 ?_; unfold qm_X13_braid_10
    refine w_rdF (y11 hW) (w_wrF (w_ifT rfl ?_))
    refine w_wrI ml95 rfl (by omega) (w_wrI ml96 rfl (by omega) (w_some ?_))
    have f3 : fr (fun g => g = 95 ∨ g = 96) (usF y 11 0) (usI (usI (usF y 11 0) 95 c (nI t)) 96 c (nI n)) := fr_I2 (fr_I (Or.inl rfl)) (Or.inr rfl)
    have f4 : fr (fun g => g = 11 ∨ g = 95 ∨ g = 96) y (usI (usI (usF y 11 0) 95 c (nI t)) 96 c (nI n)) := fr_tr (fr_F (Or.inl rfl)) (fr_mono (fun g hg => Or.inr hg) f3)
    have e4 : (usI (usI (usF y 11 0) 95 c (nI t)) 96 c (nI n)).2.1 94 = y.2.1 94 := by
      rw [po_usI_ot (by decide), po_usI_ot (by decide)]
      rfl
    have e11 : (usI (usI (usF y 11 0) 95 c (nI t)) 96 c (nI n)).1 11 = 0 := (show (usF y 11 0).1 11 = 0 from po_usF_at)
    have e5 := (hW.1 95 (by omega)).2.1
    have e6 := (hW.1 96 (by omega)).2.1
    refine fin ⟨gI_br f3 (fun g hg => Or.inl (by omega)) (gBrs_new hI.2.2.2.2.2.1 (c := c) (n := n) (l := t) ⟨hn2, hn, by omega, po_usI_at, rd_ot (by decide) po_usI_at, fun j hj => ?_⟩ (fun d hd => po_usI_ne hd) (fun d hd => ?_) (fun d hd j hj => ?_)) hI, (fall hW f4).2, e11, (fall hW f4).1, Or.inl ⟨by omega, rfl, fun j => y.2.1 94 (16 * c + j), fun j hj => (hW.2.2 j (by omega)).2, po_usI_at, rd_ot (by decide) po_usI_at, fun j hj => congrFun e4 _, fun d hd => ⟨?_, ?_, fun j hj => ?_⟩⟩⟩
    · rw [e4]
      exact (hW.2.2 j (by omega)).1
    · rw [po_usI_ot (by decide), po_usI_ne hd]
    · rw [po_usI_ot (by decide), po_usI_ot (by decide)]
    · show (usI (usI (usF y 11 0) 95 c (nI t)) 96 c (nI n)).2.1 96 d = _
      rw [po_usI_ne hd, po_usI_ot (by decide)]
      exact congrFun e6 d
    · show (usI (usI (usF y 11 0) 95 c (nI t)) 96 c (nI n)).2.1 95 d = _
      rw [po_usI_ot (by decide), po_usI_ne hd]
      exact congrFun e5 d
    · show (usI (usI (usF y 11 0) 95 c (nI t)) 96 c (nI n)).2.1 94 (16 * d + j) = _
      rw [e4]
      exact hW.2.1 d hd j hj
  have l10b : ∀ (x4 : Int32) (a : Nat) (y : ow_MS), W a y → a < t → a ≤ 16 → (a = 16 ∨ lbad n (z.2.1 10 a)) → Tt (fun K k => q_X13_braid K k 10 (nI n) (nI c) (nI a) x4 0 0 0 0 0 y) Q := by
    intro x4 a y hW t1 t2 hbad
    have hI := gI_t (t := 0) (x := 0) rfl (by omega) (wI hW)
    have f4 : fr (fun g => g = 11 ∨ g = 95 ∨ g = 96) y (usF y 11 0) := fr_F (Or.inl rfl)
    refine u_X13_braid_10 ?_; unfold qm_X13_braid_10
    refine w_rdF (y11 hW) (w_wrF (w_ifF (rn_neg1 (by omega)) (w_some (fin ⟨hI, (fall hW f4).2, po_usF_at, (fall hW f4).1, Or.inr ⟨a, t1, t2, fun j hj => ⟨_, (hW.2.2 j hj).2⟩, hbad, rfl, ?_⟩⟩))))
    exact ⟨(hW.1 96 (by omega)).2.1, (hW.1 95 (by omega)).2.1, fun d hd j hj => hW.2.1 d hd j hj⟩
  have bad : ∀ (i a : Nat) (y : ow_MS), W a y → a < t → a ≤ 16 → (a = 16 ∨ lbad n (z.2.1 10 a)) → Tt (fun K k9 => q_X13_braid K k9 2 (nI n) (nI c) (nI a) (nI i) 0 0 0 0 0 y) Q := by
    intro i a y hW t1 t2 hb
    have e10 := l10b (nI i) a y hW t1 t2 hb
    refine u_X13_braid_2 ?_; unfold qm_X13_braid_2
    exact w_rdF (y11 hW) (w_if (fun _ => e10) (fun _ => w_ifF (rn_neg1 (by omega)) e10))
  have main : ∀ (k i : Nat) (y : ow_MS), i + k = 16 → W i y → Tt (fun K k9 => q_X13_braid K k9 2 (nI n) (nI c) (-1) (nI i) 0 0 0 0 0 y) Q := by
    intro k
    induction k using Nat.strongRecOn with
    | ind k ih =>
      intro i y hi hW
      refine u_X13_braid_2 ?_; unfold qm_X13_braid_2
      refine w_rdF (y11 hW) (w_le (by omega) (by omega) (fun hti => l10 (nI i) i y hW hti (by omega)) (fun hti => w_ifT rfl (w_rdI ml10 rfl (by omega) rfl (w_rdI ml10 rfl (by omega) rfl ?_))))
      obtain ⟨v, hv⟩ : ∃ v, v = y.2.1 10 i := ⟨_, rfl⟩
      rw [← hv]
      have hvz : v = z.2.1 10 i := by rw [hv, (hW.1 10 (by omega)).2.1]; rfl
      have c7 : ∀ x5 x6 x7 : Int32, (i = 16 ∨ lbad n (z.2.1 10 i)) → Tt (fun K k9 => q_X13_braid K k9 7 (nI n) (nI c) (-1) (nI i) x5 x6 x7 0 0 y) Q := by
        intro x5 x6 x7 hb
        refine u_X13_braid_7 ?_; unfold qm_X13_braid_7
        refine u_X13_braid_9 ?_; unfold qm_X13_braid_9
        rw [nI_1]
        exact bad (i + 1) i y hW (by omega) (by omega) hb
      have c8 : ∀ (x5 x6 x7 t0 : Int32), i < 16 → ltr n t0 → lwd n (z.2.1 10 i) t0 → Tt (fun K k9 => q_X13_braid K k9 8 (nI n) (nI c) (-1) (nI i) x5 x6 x7 t0 (nI (16 * c + i)) y) Q := by
        intro x5 x6 x7 t0 hi16 hl hlw
        refine u_X13_braid_8 ?_; unfold qm_X13_braid_8
        refine w_wrI ml94 rfl (by omega) ?_
        refine u_X13_braid_9 ?_; unfold qm_X13_braid_9
        rw [nI_1]
        refine ih (k - 1) (by omega) (i + 1) _ (by omega) ⟨fr_I2 hW.1 rfl, fun d hd j hj => rd_ne (by omega) (hW.2.1 d hd j hj), fun j hj => ?_⟩
        by_cases hji : j = i
        · rw [hji, po_usI_at]
          exact ⟨hl, hlw⟩
        · rw [po_usI_ne (by omega)]
          exact hW.2.2 j (by omega)
      have c5 : ∀ x5 x6 : Int32, lbad n (z.2.1 10 i) → Tt (fun K k9 => q_X13_braid K k9 5 (nI n) (nI c) (-1) (nI i) x5 x6 0 0 0 y) Q := by
        intro x5 x6 hb
        refine u_X13_braid_5 ?_; unfold qm_X13_braid_5
        refine u_X13_braid_6 ?_; unfold qm_X13_braid_6
        exact w_if (fun _ => c7 _ _ _ (Or.inr hb)) (fun _ => w_ifT rfl (c7 _ _ _ (Or.inr hb)))
      have c4 : ∀ x5 x6 : Int32, x5 = v - 97 → x6 = v - 65 → ((∃ a, a < n - 1 ∧ x5 = nI a) ∨ x5 < 0 ∧ ∃ a, a < n - 1 ∧ x6 = nI a) → Tt (fun K k9 => q_X13_braid K k9 4 (nI n) (nI c) (-1) (nI i) x5 x6 0 0 0 y) Q := by
        intro x5 x6 hx5 hx6 hok
        refine u_X13_braid_4 ?_; unfold qm_X13_braid_4
        refine u_X13_braid_6 ?_; unfold qm_X13_braid_6
        rw [show (16 : Int32) * nI c = nI (16 * c) from pk_mul 16 c, nI_add]
        refine w_eqN (b := 16) (by omega) (by omega) (fun e16 => c7 _ _ _ (Or.inl e16)) (fun h16 => w_ifF (by decide) ?_)
        rcases hok with ⟨a, ha, e⟩ | ⟨h0, a, ha, e⟩
        · rw [e, nI_1]
          exact w_ifF (nI_pos (by omega)) (c8 _ _ _ _ (by omega) ⟨a, by omega, Or.inl rfl⟩ (Or.inl ⟨a, ha, by rw [← hvz, ← hx5, e], rfl⟩))
        · rw [e]
          exact w_ifT h0 (c8 _ _ _ _ (by omega) ⟨a, by omega, Or.inr rfl⟩ (Or.inr ⟨fun ⟨a', q1, q2⟩ => by rw [← hvz, ← hx5] at q2; rw [q2] at h0; exact nI_pos (by omega) h0, a, ha, by rw [← hvz, ← hx6, e], rfl⟩))
      rw [en1]
      have c3 : ¬ in9 (v - 97) (n - 1) → Tt (fun K k9 => q_X13_braid K k9 3 (nI n) (nI c) (-1) (nI i) (v - 97) (v - 65) 0 0 0 y) Q := by
        intro hna
        refine u_X13_braid_3 ?_; unfold qm_X13_braid_3
        rw [en1]
        refine w_if (fun h9 => c5 _ _ (by rw [← hvz]; exact ⟨hna, fun h8 => ((in9_iff (by omega)).mp h8).1 h9⟩)) (fun h0 => w_if (fun h9 => c5 _ _ (by rw [← hvz]; exact ⟨hna, fun h8 => absurd ((in9_iff (by omega)).mp h8).2 (Int32.not_lt.mpr h9)⟩)) (fun h1 => c4 _ _ rfl rfl (Or.inr ?_)))
        obtain ⟨a, ha, e⟩ : ∃ a, a < n - 1 ∧ v - 65 = nI a := by
          rcases pk_ix (v - 65) (n := n - 1) (by omega) with h9 | h9 | h9
          · exact absurd h9 h0
          · exact absurd h9 h1
          · exact h9
        refine ⟨?_, a, ha, e⟩
        have ev : v = nI (a + 65) := by
          have : v = v - 65 + 65 := (Int32.sub_add_cancel v 65).symm
          rw [this, e]
          exact nI_add a 65
        rw [ev]
        exact pk_sneg (b := 97) (by omega) (by omega)
      refine w_if (fun h9 => c3 (fun h8 => ((in9_iff (by omega)).mp h8).1 h9)) (fun h0 => w_if (fun h1 => c4 _ _ rfl rfl (Or.inl ?_)) (fun h9 => c3 (fun h8 => h9 ((in9_iff (by omega)).mp h8).2)))
      exact (in9_iff (by omega)).mpr ⟨h0, h1⟩
  exact main 16 0 (usF z 1 0) (by omega) ⟨fr_rf, fun d hd j hj => rfl, fun j hj => by omega⟩
end XBD
