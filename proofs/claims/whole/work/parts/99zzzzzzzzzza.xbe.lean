/-! exact calls: braid, of the class -/
section XBE
variable {vl : Nat → Nat} {y : ow_MS} {x x' : Int32}
theorem xc_readBraid {t n d : Nat} (ht : y.1 11001 = nI t) (h400 : t ≤ 400) (hn : 2 ≤ n) (hn5 : n ≤ 5) (hd : d < 20) : Te (fun K => ce_X9_readBraid vl K 11000 (nI n) 13 (nI (16 * d)) y) (fun r => fr (fun g => g = 13) y r.2 ∧ (∀ k, k < 16 * d ∨ 16 * d + 16 ≤ k → r.2.2.1 13 k = y.2.1 13 k) ∧ (r.1 = -1 ∧ t ≤ 16 ∧ wdB r.2 d n t ∧ (∀ j, j < t → lwd n (y.2.1 11002 j) (r.2.2.1 13 (16 * d + j))) ∨ ∃ b, b < t ∧ b ≤ 16 ∧ r.1 = nI b ∧ (∀ j, j < b → ∃ w, lwd n (y.2.1 11002 j) w) ∧ (b = 16 ∨ lbad n (y.2.1 11002 b)))) := by
  let Q : Int32 × ow_MS → Prop := fun r => fr (fun g => g = 13) y r.2 ∧ (∀ k, k < 16 * d ∨ 16 * d + 16 ≤ k → r.2.2.1 13 k = y.2.1 13 k) ∧ (r.1 = -1 ∧ t ≤ 16 ∧ wdB r.2 d n t ∧ (∀ j, j < t → lwd n (y.2.1 11002 j) (r.2.2.1 13 (16 * d + j))) ∨ ∃ b, b < t ∧ b ≤ 16 ∧ r.1 = nI b ∧ (∀ j, j < b → ∃ w, lwd n (y.2.1 11002 j) w) ∧ (b = 16 ∨ lbad n (y.2.1 11002 b)))
  have c1 : ∀ (k i : Nat) (z : ow_MS), i + k = t → i ≤ 16 → fr (fun g => g = 13) y z → (∀ k, k < 16 * d ∨ 16 * d + 16 ≤ k → z.2.1 13 k = y.2.1 13 k) → wdB z d n i → (∀ j, j < i → lwd n (y.2.1 11002 j) (z.2.1 13 (16 * d + j))) → Tt (fun K t => c_X9_readBraid vl K t 1 (nI n) (nI (16 * d)) (nI i) 0 0 11000 13 z) Q := by
    intro k
    induction k with
    | zero =>
      intro i z hi h16 hf hk hw hl
      have e : i = t := by omega
      subst e
      refine u_X9_readBraid_1 ?_; unfold cm_X9_readBraid_1
      exact w_rdF ((hf 11001 (by omega)).1.trans ht) (w_leT (by omega) (by omega) (w_some ⟨hf, hk, Or.inl ⟨rfl, h16, hw, hl⟩⟩))
    | succ k ih =>
      intro i z hi h16 hf hk hw hl
      have c3 : ∀ (a : Int) (x5 x6 : Int32), 1 ≤ a.natAbs → a.natAbs < n → i < 16 → lwd n (y.2.1 11002 i) (iI a) → Tt (fun K t => c_X9_readBraid vl K t 3 (nI n) (nI (16 * d)) (nI i) x5 x6 11000 13 (usI z 13 (16 * d + i) (iI a))) Q := by
        intro a x5 x6 a1 a2 hi16 hlw
        refine u_X9_readBraid_3 ?_; unfold cm_X9_readBraid_3
        rw [nI_1]
        refine ih (i + 1) _ (by omega) (by omega) (fr_I2 hf rfl) (fun j hj => rd_ne (by omega) (hk j hj)) (fun j hj => ?_) (fun j hj => ?_)
        · by_cases e : j = i
          · rw [e]
            exact ⟨a, po_usI_at, a1, a2⟩
          · obtain ⟨a', q1, q2, q3⟩ := hw j (by omega)
            exact ⟨a', rd_ne (by omega) q1, q2, q3⟩
        · by_cases e : j = i
          · rw [e, po_usI_at]
            exact hlw
          · rw [po_usI_ne (by omega)]
            exact hl j (by omega)
      have etp : z.2.1 11002 i = y.2.1 11002 i := congrFun (hf 11002 (by omega)).2.1 i
      have fault : (i = 16 ∨ lbad n (y.2.1 11002 i)) → Tt (fun _ _ => some (nI i, z)) Q := fun hb => w_some ⟨hf, hk, Or.inr ⟨i, by omega, h16, rfl, fun j hj => ⟨_, hl j hj⟩, hb⟩⟩
      have em1 : nI n - 1 = nI (n - 1) := pk_sub (b := 1) (by omega)
      have c2 : ∀ (x5 x6 : Int32), x6 = y.2.1 11002 i - 65 → ¬ in9 (y.2.1 11002 i - 97) (n - 1) → i < 16 → Tt (fun K t => c_X9_readBraid vl K t 2 (nI n) (nI (16 * d)) (nI i) x5 x6 11000 13 z) Q := by
        intro x5 x6 hx6 hna hi16
        refine u_X9_readBraid_2 ?_; unfold cm_X9_readBraid_2
        rw [em1, nI_add]
        refine w_if (fun h9 => fault (Or.inr ⟨hna, fun h8 => by rw [← hx6] at h8; exact ((in9_iff (by omega)).mp h8).1 h9⟩)) (fun h0 => w_if (fun h9 => fault (Or.inr ⟨hna, fun h8 => by rw [← hx6] at h8; exact absurd ((in9_iff (by omega)).mp h8).2 (Int32.not_lt.mpr h9)⟩)) (fun h1 => ?_))
        obtain ⟨s, s1, rfl⟩ := ltr_of hn hn5 h0 h1
        have ea : -(nI s + 1) = iI (-((s : Int) + 1)) := by
          rw [nI_1, nI_iI, (lt_a (a := ((s + 1 : Nat) : Int)) (by omega)).2.2]
          congr 1
        rw [ea]
        refine w_ctB ch_13 rfl (show 16 * d + i < 320 by omega) ?_
        rw [(lt_a (a := -((s : Int) + 1)) (by omega)).1]
        refine c3 _ _ _ (by omega) (by omega) hi16 (Or.inr ⟨hna, s, s1, hx6.symm, ?_⟩)
        rw [← ea, ← Int32.zero_sub]
        exact i32_a (nI s)
      refine u_X9_readBraid_1 ?_; unfold cm_X9_readBraid_1
      rw [em1, nI_add]
      refine w_rdF ((hf 11001 (by omega)).1.trans ht) (w_leF (by omega) (by omega) (w_crI ch_11002 rfl (show i < 400 by omega) rfl (w_crI ch_11002 rfl (show i < 400 by omega) rfl (w_lt (b := 16) (by omega) (by omega) (fun hi16 => w_if (fun h9 => c2 _ _ (by rw [etp]) (fun h8 => by rw [← etp] at h8; exact ((in9_iff (by omega)).mp h8).1 h9) hi16) (fun h0 => w_if (fun h9 => c2 _ _ (by rw [etp]) (fun h8 => by rw [← etp] at h8; exact absurd ((in9_iff (by omega)).mp h8).2 (Int32.not_lt.mpr h9)) hi16) (fun h1 => ?_))) (fun h9 => fault (Or.inl (by omega)))))))
      obtain ⟨s, s1, es⟩ := ltr_of hn hn5 h0 h1
      rw [es]
      have ea : nI s + 1 = iI ((s : Int) + 1) := by
        rw [nI_1, nI_iI]
        congr 1
      rw [ea]
      refine w_ctB ch_13 rfl (show 16 * d + i < 320 by omega) ?_
      rw [(lt_a (a := (s : Int) + 1) (by omega)).1]
      refine c3 _ _ _ (by omega) (by omega) hi16 (Or.inl ⟨s, s1, by rw [← etp]; exact es, ?_⟩)
      rw [← ea, nI_1]
  refine e_X9_readBraid ?_
  refine u_X9_readBraid_0 ?_; unfold cm_X9_readBraid_0
  exact c1 t 0 y (by omega) (by omega) fr_rf (fun _ _ => rfl) (fun i hi => absurd hi (Nat.not_lt_zero _)) (fun i hi => absurd hi (Nat.not_lt_zero _))
theorem xc_braid {t : Nat} (hB : brC y) (ht4 : t ≤ 400) (ht : y.1 11001 = nI t) : Te (fun K => ce_X11_braid vl K 0 x y) (fun r => (r.1 = 2 ∧ r.2.2 = y ∧ ¬ (∃ n, 2 ≤ n ∧ n ≤ 5 ∧ x = nI n) ∨ ∃ n, 2 ≤ n ∧ n ≤ 5 ∧ x = nI n ∧ (r.1 = 3 ∧ r.2.2 = y ∧ (∀ c, c < 20 → y.2.1 15 c ≠ 0) ∨ r.1 = 0 ∧ ∃ c, lfB (y.2.1 15) c ∧ (brC r.2.2 ∧ r.2.2.1 11001 = 0 ∧ fr bdP y r.2.2 ∧ (t ≤ 16 ∧ r.2.1 = nI c ∧ (∃ w, (∀ i, i < t → lwd n (y.2.1 11002 i) (w i)) ∧ nwB 13 y r.2.2 c n t w) ∨ ∃ i, i < t ∧ i ≤ 16 ∧ (∀ j, j < i → ∃ w, lwd n (y.2.1 11002 j) w) ∧ (i = 16 ∨ lbad n (y.2.1 11002 i)) ∧ r.2.1 = -1 - nI i ∧ sbB 13 y r.2.2 c))))) := by
  refine e_X11_braid ?_; unfold cm_X11_braid_0
  have no2 : x < 2 → ¬ (∃ n, 2 ≤ n ∧ n ≤ 5 ∧ x = nI n) := fun h9 ⟨n, n2, n5, e⟩ => by
    rw [e] at h9
    have := (nI_ltI (a := n) (b := 2) (by omega) (by omega)).mp h9
    omega
  have no5 : ¬ x ≤ 5 → ¬ (∃ n, 2 ≤ n ∧ n ≤ 5 ∧ x = nI n) := fun h9 ⟨n, n2, n5, e⟩ => by
    rw [e] at h9
    exact h9 ((nI_leI (a := n) (b := 5) (by omega) (by omega)).mpr n5)
  refine w_if (fun h9 => w_some (Or.inl ⟨rfl, rfl, no2 h9⟩)) (fun h2 => w_if (fun h5 => ?_) (fun h9 => w_some (Or.inl ⟨rfl, rfl, no5 h9⟩)))
  have h0 : ¬ x < 0 := fun h9 => h2 (Int32.lt_trans h9 (by decide))
  obtain ⟨n, n31, rfl⟩ := nI_of h0
  have hn5 : n ≤ 5 := (nI_leI n31 (by omega : 5 < 2 ^ 31)).mp h5
  have hn2 : 2 ≤ n := by
    apply Nat.le_of_not_lt
    exact fun h9 => h2 (nI_lt (b := 2) h9 (by omega))
  refine w_tc1 tc_freeBraid ?_ ?_
  · rintro v y1 ⟨h3, rfl⟩
    rcases h3 with ⟨d, hd, -, rfl, e0, eall⟩ | h3
    · refine w_rdF ht ?_
      rw [show nI d * 16 = nI (16 * d) from by rw [show (16 : Int32) = nI 16 from rfl, pk_mul, Nat.mul_comm]]
      refine w_cs1 (xc_readBraid ht ht4 hn2 hn5 hd) ?_
      rintro w z ⟨f1, k1, e1⟩
      dsimp only at f1 k1 e1
      have f2 : fr bdP y1 (usF z (0 + 11000 + 1) 0) := fr_F2 (fr_mono (fun g hg => by rw [hg]; unfold bdP; omega) f1) (by unfold bdP; omega)
      have t2 : (usF z (0 + 11000 + 1) 0).1 11001 = 0 := po_usF_at
      have z4 : (usF z (0 + 11000 + 1) 0).2.1 14 = y1.2.1 14 := (f1 14 (by omega)).2.1
      have z5 : (usF z (0 + 11000 + 1) 0).2.1 15 = y1.2.1 15 := (f1 15 (by omega)).2.1
      refine w_wrF (w_if (fun ew => ?_) (fun new => ?_))
      · rcases e1 with ⟨-, t16, hw, hl⟩ | ⟨b, b0, b1, b2, -⟩
        · refine w_ctI ch_14 rfl hd (w_ctI ch_15 rfl hd (w_some (Or.inr ⟨n, hn2, hn5, rfl, Or.inr ⟨rfl, d, ⟨hd, e0, eall⟩, ?_, t2, fr_I2 (fr_I2 f2 (by unfold bdP; omega)) (by unfold bdP; omega), Or.inl ⟨t16, rfl, _, hl, po_usI_at, rd_ot (by omega) po_usI_at, fun j hj => rd_ot (by omega) (rd_ot (by omega) rfl), fun e he => ⟨rd_ne he (rd_ot (by omega) (congrFun z5 e)), rd_ot (by omega) (rd_ne he (congrFun z4 e)), fun j hj => rd_ot (by omega) (rd_ot (by omega) (k1 _ (by omega)))⟩⟩⟩⟩)))
          refine brC_put (n := n) (l := t) hd hB (fun k hk => rd_ot (by omega) (rd_ot (by omega) (k1 k hk))) (fun k hk => rd_ot (by omega) (rd_ne hk (congrFun z4 k))) (fun k hk => rd_ne hk (rd_ot (by omega) (congrFun z5 k))) ⟨hn5, by omega⟩ po_usI_at (fun _ => ⟨t16, rd_ot (by omega) po_usI_at, fun i hi => ?_⟩)
          obtain ⟨a, a1, a2, a3⟩ := hw i hi
          exact ⟨a, rd_ot (by omega) (rd_ot (by omega) a1), a2, a3⟩
        · rw [b2] at ew
          exact absurd ew (nI_nm1 (by omega))
      · rcases e1 with ⟨q, -⟩ | ⟨b, b0, b1, b2, b3, b4⟩
        · exact absurd q new
        · refine w_some (Or.inr ⟨n, hn2, hn5, rfl, Or.inr ⟨rfl, d, ⟨hd, e0, eall⟩, ?_, t2, f2, Or.inr ⟨b, b0, b1, b3, b4, by rw [b2], z5, z4, fun e he j hj => k1 _ (by omega)⟩⟩⟩)
          exact brC_put (n := 0) (l := 0) hd hB k1 (fun k _ => congrFun z4 k) (fun k _ => congrFun z5 k) ⟨by omega, by omega⟩ (by rw [z5]; exact e0) (fun h9 => absurd h9 (by omega))
    · exact absurd (show (0 : Nat) = 3 from h3.1) (by decide)
  · rintro a v y1 ha ⟨h3, rfl⟩
    rcases h3 with ⟨d, -, q, -⟩ | h3
    · exact absurd q ha
    · exact w_some (Or.inr ⟨n, hn2, hn5, rfl, Or.inl ⟨h3.1, rfl, h3.2⟩⟩)
end XBE
