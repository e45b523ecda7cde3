/-! normal forms of braids: the reference, exactly -/
section NF3
variable {n : Nat}
/-- words that make the simple ones T -/
def bvG (n : Nat) : List (List Nat) → List Nat → Prop
  | [], [] => True
  | c :: C, t :: T => evG n 0 c = t + 1 ∧ t < gNN n ∧ bvG n C T
  | _, _ => False
theorem bv_bl : ∀ (C : List (List Nat)) (T : List Nat), bvG n C T → blG n C ∧ okT n T ∧ C.length = T.length
  | [], [], _ => ⟨bl_nil, okT_n, rfl⟩
  | [], t :: T, h => h.elim
  | c :: C, [], h => h.elim
  | c :: C, t :: T, h => by
    obtain ⟨a1, a2, a3⟩ := bv_bl C T h.2.2
    refine ⟨fun w hw => ?_, okT_c.mpr ⟨h.2.1, a2⟩, by rw [List.length_cons, List.length_cons, a3]⟩
    rcases List.mem_cons.mp hw with e | hw
    · rw [e]
      exact ⟨t, h.2.1, h.1⟩
    · exact a1 w hw
theorem bv_app : ∀ (C : List (List Nat)) (T : List Nat) {c : List Nat} {t : Nat}, bvG n C T → evG n 0 c = t + 1 → t < gNN n → bvG n (C ++ [c]) (T ++ [t])
  | [], [], c, t, _, e, ht => ⟨e, ht, trivial⟩
  | [], t :: T, _, _, h, _, _ => h.elim
  | c :: C, [], _, _, h, _, _ => h.elim
  | c :: C, t :: T, c', t', h, e, ht => ⟨h.1, h.2.1, bv_app C T h.2.2 e ht⟩
theorem bv_flip (h2 : 2 ≤ n) (h5 : n ≤ 5) : ∀ (C : List (List Nat)) (T : List Nat), bvG n C T → bvG n (C.map (List.map (fun a => n - 2 - a))) (T.map (ovG n))
  | [], [], _ => trivial
  | [], t :: T, h => h.elim
  | c :: C, [], h => h.elim
  | c :: C, t :: T, h => by
    have := ev_flip h2 h5 c nn_0 h.1
    rw [ov_0 h2 h5] at this
    exact ⟨this, ov_lt h2 h5 h.2.1, bv_flip h2 h5 C T h.2.2⟩
theorem bv_rv (h2 : 2 ≤ n) (h5 : n ≤ 5) : ∀ (C : List (List Nat)) (T : List Nat) {v : Nat}, v < gNN n → bvG n C T → ∃ C', bvG n C' (r1G n v T).2 ∧ C'.length = C.length ∧ (rvG n v C.flatten).1 = C'.flatten ∧ (rvG n v C.flatten).2 = (r1G n v T).1
  | [], [], v, hv, _ => ⟨[], trivial, rfl, rfl, rfl⟩
  | [], t :: T, _, _, h => h.elim
  | c :: C, [], _, _, h => h.elim
  | c :: C, t :: T, v, hv, h => by
    obtain ⟨k1, k2⟩ := gv_simple0 h2 h5 hv h.1
    obtain ⟨C', b1, b2, b3, b4⟩ := bv_rv h2 h5 C T (dd_lt h2 h5 h.2.1 hv) h.2.2
    refine ⟨(rvG n v c).1 :: C', ⟨k2, dd_lt h2 h5 hv h.2.1, b1⟩, by rw [List.length_cons, List.length_cons, b2], ?_, ?_⟩
    · rw [List.flatten_cons, gv_app, k1, b3, List.flatten_cons]
    · rw [List.flatten_cons, gv_app, k1]
      exact b4
theorem bv_e : ∀ (C : List (List Nat)) (T : List Nat), bvG n C T → C.flatten = [] → ∀ t, t ∈ T → t = 0
  | [], [], _, _, t, ht => absurd ht List.not_mem_nil
  | [], t :: T, h, _, _, _ => h.elim
  | c :: C, [], h, _, _, _ => h.elim
  | c :: C, t :: T, h, e, s, hs => by
    rw [List.flatten_cons] at e
    obtain ⟨e1, e2⟩ := List.append_eq_nil_iff.mp e
    rcases List.mem_cons.mp hs with e9 | hs
    · have := h.1
      rw [e1] at this
      have : (0 : Nat) + 1 = t + 1 := this
      omega
    · exact bv_e C T h.2.2 e2 s hs
theorem bv_z (h2 : 2 ≤ n) (h5 : n ≤ 5) : ∀ (C : List (List Nat)) (T : List Nat), bvG n C T → (∀ t, t ∈ T → t = 0) → C.flatten = []
  | [], [], _, _ => rfl
  | [], t :: T, h, _ => h.elim
  | c :: C, [], h, _ => h.elim
  | c :: C, t :: T, h, e => by
    have l := (ev_len h2 h5 c nn_0 h.1).2.1
    rw [e t List.mem_cons_self, sz_0 h2 h5] at l
    have hc : c = [] := List.eq_nil_of_length_eq_zero (by omega)
    rw [List.flatten_cons, hc, bv_z h2 h5 C T h.2.2 (fun s hs => e s (List.mem_cons_of_mem _ hs))]
    rfl
theorem r1_z (h2 : 2 ≤ n) (h5 : n ≤ 5) : ∀ (T : List Nat) {v : Nat}, v < gNN n → (∀ t, t ∈ T → t = 0) → (r1G n v T).1 = v
  | [], _, _, _ => rfl
  | t :: T, v, hv, h => by
    show (r1G n (ddG n t v) T).1 = v
    rw [h t List.mem_cons_self, dd_0l h2 h5 hv]
    exact r1_z h2 h5 T hv (fun s hs => h s (List.mem_cons_of_mem _ hs))
theorem eq_nil (h2 : 2 ≤ n) (h5 : n ≤ 5) : ∀ (T : List Nat), okT n T → (∀ v, v < gNN n → (r1G n v T).1 = v) → ∀ t, t ∈ T → t = 0
  | [], _, _, t, ht => absurd ht List.not_mem_nil
  | t :: T, hk, h, s, hs => by
    obtain ⟨ht, hk'⟩ := okT_c.mp hk
    have t0 : t = 0 := by
      have k := h t ht
      have k : (r1G n (ddG n t t) T).1 = t := k
      rw [dd_s h2 h5 ht, r1_0 h2 h5 T hk'] at k
      exact k.symm
    rcases List.mem_cons.mp hs with e | hs
    · rw [e]
      exact t0
    · refine eq_nil h2 h5 T hk' (fun v hv => ?_) s hs
      have k := h v hv
      have k : (r1G n (ddG n t v) T).1 = v := k
      rw [t0, dd_0l h2 h5 hv] at k
      exact k
end NF3
section NF4
variable {z : ow_MS} {n : Nat}
theorem xr_normalise {k : Int32} {B : List (List Nat)} {T0 G0 : List Nat} (h2 : 2 ≤ n) (h5 : n ≤ 5) (hT : tbG z) (hB : bvG n B T0) (hr : B.length ≤ 18) (hw : lnI z 109 108 B.flatten) (hG : okT n G0) (hwt : wtL n G0) (hnz : ∀ g, g ∈ G0 → g ≠ 0) (he : eqT n T0 G0) : Te (fun K => qe_X13_normalise K (nI n) k z) (fun z1 => fmI z1 n (G0.filter (fun g => decide (g ≠ gNN n - 1))) ∧ z1.1 112 = k + nI (G0.countP (fun g => decide (g = gNN n - 1)))) := by
  have hN := nn_pos (n := n)
  let Q : ow_MS → Prop := fun z1 => fmI z1 n (G0.filter (fun g => decide (g ≠ gNN n - 1))) ∧ z1.1 112 = k + nI (G0.countP (fun g => decide (g = gNN n - 1)))
  have tF : ∀ {y : ow_MS}, fr nmH z y → tbG y := fun hf => tbG_fr hf (fun g hg => by unfold nmH at hg; omega) hT
  have hz0 : szG n 0 = 0 := sz_0 h2 h5
  have h00 : 0 < gNN n := by omega
  have c1 : ∀ (G : List Nat) (C : List (List Nat)) (T S : List Nat) (t : Nat) (y : ow_MS), okT n G → wtL n G → (∀ g, g ∈ G → g ≠ 0) → bvG n C T → C.length ≤ 18 → eqT n T G → S.length + t + C.flatten.length ≤ 180 → S ++ G.filter (fun g => decide (g ≠ gNN n - 1)) = G0.filter (fun g => decide (g ≠ gNN n - 1)) → t + G.countP (fun g => decide (g = gNN n - 1)) = G0.countP (fun g => decide (g = gNN n - 1)) → lnI y 109 108 C.flatten → fmI y n S → y.1 112 = k + nI t → fr nmH z y → Tt (fun K i => q_X13_normalise K i 1 (nI n) k (nI (gNN n - 1)) 0 0 0 0 0 y) Q := by
    intro G
    induction G with
    | nil =>
      intro C T S t y _ _ _ hC hC18 he hS e1 e2 hw hfm h112 hf
      have hz := bv_z h2 h5 C T hC (eq_nil h2 h5 T (bv_bl C T hC).2.1 (fun v hv => (eqT_1 he hv).1))
      rw [hz] at hw
      refine u_X13_normalise_1 ?_; unfold qm_X13_normalise_1
      refine w_rdF hw.1 (w_leT (b := 0) (by omega) (Nat.le_refl _) (w_some ⟨?_, ?_⟩))
      · rw [← e1]
        show fmI y n (S ++ [])
        rw [List.append_nil]
        exact hfm
      · rw [← e2]
        exact h112
    | cons g G ih =>
      intro C T S t y hG hwt hnz hC hC18 he hS e1 e2 hw hfm h112 hf
      obtain ⟨hbC, hokT, hlen⟩ := bv_bl C T hC
      obtain ⟨hg, hG'⟩ := okT_c.mp hG
      have hg0 := hnz g List.mem_cons_self
      obtain ⟨d1, d2⟩ := hd_1 h2 h5 hG he
      have hne : C.flatten ≠ [] := fun e9 => by
        have := r1_z h2 h5 T hg (bv_e C T hC e9)
        rw [d1] at this
        exact hg0 this.symm
      have c2 : ∀ (dd h : Nat) (C1 : List (List Nat)) (y : ow_MS), szG n h + dd = 10 → h < gNN n → (r1G n h T).1 = 0 → bvG n C1 (r1G n h T).2 → C1.length = C.length → C1.flatten.length + szG n h = C.flatten.length → lnI y 109 108 C1.flatten → fmI y n S → y.1 112 = k + nI t → fr nmH z y → Tt (fun K i => q_X13_normalise K i 2 (nI n) k (nI (gNN n - 1)) (nI h) 1 0 0 0 y) Q := by
        intro dd
        induction dd using Nat.strongRecOn with
        | ind dd ihd =>
        intro h C1 y hdd hh hr0 hbv hC1 hlw hw hfm h112 hf
        have hT1 := (r1_ok h2 h5 T hh hokT).2.1
        have hbl := (bv_bl C1 _ hbv).1
        have hl18 : C1.length ≤ 18 := by omega
        have hfl := (bl_len h2 h5 _ hbl).1
        have fin : (∀ b, b + 1 < n → moG n h b = 0 ∨ C1.flatten = [] ∨ (rvG n (moG n 0 b - 1) C1.flatten).2 ≠ 0) → ∀ (y : ow_MS), lnI y 109 108 C1.flatten → fmI y n S → y.1 112 = k + nI t → fr nmH z y → Tt (fun K i => q_X13_normalise K i 2 (nI n) k (nI (gNN n - 1)) (nI h) 0 0 0 0 y) Q := by
          intro hno y hw hfm h112 hf
          have ehg : h = g := hd_3 h2 h5 hokT hG hwt he hh hr0 (fun a ha m1 e9 => by
            rcases hno a ha with h9 | h9 | h9
            · exact m1 h9
            · have := r1_z h2 h5 _ (lett h2 h5 ha) (bv_e C1 _ hbv h9)
              rw [e9] at this
              exact let_ne h2 h5 ha this.symm
            · obtain ⟨C', -, -, -, q⟩ := bv_rv h2 h5 C1 _ (lett h2 h5 ha) hbv
              rw [q] at h9
              exact h9 e9)
          have hsz : 1 ≤ szG n h := by
            rcases Nat.eq_zero_or_pos (szG n h) with h9 | h9
            · exact absurd (sz_z h2 h5 hh h9) (by rw [ehg]; exact hg0)
            · exact h9
          rw [ehg] at hbv
          have c7 : ∀ (S' : List Nat) (t' : Nat) (y : ow_MS), S'.length + t' ≤ S.length + t + 1 → S' ++ G.filter (fun g => decide (g ≠ gNN n - 1)) = G0.filter (fun g => decide (g ≠ gNN n - 1)) → t' + G.countP (fun g => decide (g = gNN n - 1)) = G0.countP (fun g => decide (g = gNN n - 1)) → lnI y 109 108 C1.flatten → fmI y n S' → y.1 112 = k + nI t' → fr nmH z y → Tt (fun K i => q_X13_normalise K i 7 (nI n) k (nI (gNN n - 1)) (nI h) 0 0 0 0 y) Q := by
            intro S' t' y a1 a2 a3 a4 a5 a6 a7
            refine u_X13_normalise_7 ?_; unfold qm_X13_normalise_7
            exact ih C1 _ S' t' y hG' (wtL_t hwt) (fun g hg => hnz g (List.mem_cons_of_mem _ hg)) hbv hl18 d2 (by omega) a2 a3 a4 a5 a6 a7
          refine u_X13_normalise_2 ?_; unfold qm_X13_normalise_2
          refine w_ifT rfl (w_eqN (by omega) (by omega) (fun hd => ?_) (fun hd => ?_))
          · refine w_rdF h112 (w_wrF (c7 S (t + 1) _ (by omega) ?_ ?_ ⟨rf_ot (by omega) hw.1, hw.2⟩ ⟨⟨rf_ot (by omega) hfm.1.1, hfm.1.2⟩, hfm.2⟩ ?_ (fr_F2 hf (by unfold nmH; omega))))
            · rw [← e1, List.filter_cons_of_neg (by rw [← ehg, hd]; simp)]
            · rw [← e2, List.countP_cons_of_pos (by rw [← ehg, hd]; simp)]
              omega
            · rw [po_usF_at, Int32.add_assoc, nI_1]
          · refine w_rdF hfm.1.1 (w_wrI ml114 rfl (by omega) (w_rdF (x := nI S.length) hfm.1.1 (w_wrF (c7 (S ++ [h]) t _ ?_ ?_ ?_ ⟨rf_ot (by omega) hw.1, fun i a hi => rd_ot (by omega) (hw.2 i a hi)⟩ ⟨lnI_add hfm.1, fun s hs => ?_⟩ (rf_ot (by omega) h112) (fr_F2 (fr_I2 hf (by unfold nmH; omega)) (by unfold nmH; omega))))))
            · rw [List.length_append]
              show S.length + 1 + t ≤ _
              omega
            · rw [← e1, List.filter_cons_of_pos (by rw [← ehg]; exact decide_eq_true hd), ehg, List.append_assoc]
              rfl
            · rw [← e2, List.countP_cons_of_neg (by rw [← ehg]; simp [hd])]
            · rcases List.mem_append.mp hs with h9 | h9
              · exact hfm.2 s h9
              · rw [List.mem_singleton.mp h9]; exact hh
        have c3 : ∀ (d a : Nat) (y : ow_MS), a + d + 1 = n → (∀ b, b < a → moG n h b = 0 ∨ C1.flatten = [] ∨ (rvG n (moG n 0 b - 1) C1.flatten).2 ≠ 0) → lnI y 109 108 C1.flatten → fmI y n S → y.1 112 = k + nI t → fr nmH z y → Tt (fun K i => q_X13_normalise K i 3 (nI n) k (nI (gNN n - 1)) (nI h) 0 (nI a) 0 0 y) Q := by
          intro d
          induction d with
          | zero =>
            intro a y ha hno hw hfm h112 hf
            refine u_X13_normalise_3 ?_; unfold qm_X13_normalise_3
            rw [show nI n - 1 = nI (n - 1) from pk_sub (b := 1) (by omega)]
            refine w_leT (by omega) (by omega) ?_
            refine u_X13_normalise_6 ?_; unfold qm_X13_normalise_6
            exact fin (fun b hb => hno b (by omega)) y hw hfm h112 hf
          | succ d ih3 =>
            intro a y ha hno hw hfm h112 hf
            have ha1 : a + 1 < n := by omega
            have hTh := (((tF hf) n h2 h5).2 h hh).2.2.2.2 a ha1
            obtain ⟨t1, t2, t3, t4⟩ := f_two h2 h5 hh ha1
            have hl := lett h2 h5 ha1
            have c5 : ∀ (x7 : Int32) (y : ow_MS), (moG n h a = 0 ∨ C1.flatten = [] ∨ (rvG n (moG n 0 a - 1) C1.flatten).2 ≠ 0) → lnI y 109 108 C1.flatten → fmI y n S → y.1 112 = k + nI t → fr nmH z y → Tt (fun K i => q_X13_normalise K i 5 (nI n) k (nI (gNN n - 1)) (nI h) 0 (nI a) x7 0 y) Q := by
              intro x7 y hno2 hw hfm h112 hf
              refine u_X13_normalise_5 ?_; unfold qm_X13_normalise_5
              rw [nI_1]
              refine ih3 (a + 1) y (by omega) (fun b hb => ?_) hw hfm h112 hf
              by_cases hba : b = a
              · rw [hba]; exact hno2
              · exact hno b (by omega)
            refine u_X13_normalise_3 ?_; unfold qm_X13_normalise_3
            rw [show nI n - 1 = nI (n - 1) from pk_sub (b := 1) (by omega), ix4]
            refine w_leF (by omega) (by omega) (w_ifT rfl (w_rdI ml101 rfl (by omega) hTh.1 ?_))
            by_cases hmo : moG n h a = 0
            · rw [if_pos hmo]
              exact w_ifT rfl (c5 _ y (Or.inl hmo) hw hfm h112 hf)
            · rw [if_neg hmo]
              refine w_ifF (rn_neg1 (by omega)) (w_rdF hw.1 (w_le (b := 0) (by omega) (by omega) (fun h0 => c5 _ y (Or.inr (Or.inl (List.length_eq_zero_iff.mp (by omega)))) hw hfm h112 hf) (fun hpos => w_cs1 (tp_begins h2 h5 ha1 (tF hf) hbl hl18 hw) (fun v y2 ⟨ev, hq, f2⟩ => ?_))))
              have ev : v = bZ (decide ((rvG n (moG n 0 a - 1) C1.flatten).2 = 0)) := ev
              have hq : lnI y2 111 110 (rvG n (moG n 0 a - 1) C1.flatten).1 := hq
              have f2 : fr (fun g => g = 110 ∨ g = 111) y y2 := f2
              have hf2 : fr nmH z y2 := fr_tr hf (fr_mono (fun g hg => by unfold nmH; omega) f2)
              have hw2 : lnI y2 109 108 C1.flatten := lnI_fr f2 (by omega) (by omega) hw
              have hfm2 : fmI y2 n S := ⟨lnI_fr f2 (by omega) (by omega) hfm.1, hfm.2⟩
              have h112b : y2.1 112 = k + nI t := by rw [(f2 112 (by omega)).1]; exact h112
              by_cases hdv : (rvG n (moG n 0 a - 1) C1.flatten).2 = 0
              · rw [decide_eq_true hdv] at ev
                rw [ev]
                obtain ⟨C', q1, q2, q3, q4⟩ := bv_rv h2 h5 C1 _ hl hbv
                obtain ⟨B9, -, -, b3, -, b5⟩ := bl_rv h2 h5 C1 hl hbl
                rw [hdv, hz0, ← b3, q3] at b5
                rw [hdv] at q4
                have hsz1 : szG n (moG n 0 a - 1) = 1 := by
                  have := ((f_two h2 h5 h00 ha1).2.2.2 (f_fiv h2 h5 ha1).1).1
                  omega
                have emu : muG n h (moG n 0 a - 1) = (moG n h a - 1) + 1 := by rw [mu_let h2 h5 ha1]; omega
                obtain ⟨p1, p2⟩ := r1_mul h2 h5 T hh hl emu hokT
                rw [hr0, ← q4, mu_l0 h2 h5 h00] at p2
                rw [q3] at hq
                generalize hqq : C'.flatten = q at *
                have hql : q.length ≤ 180 := by omega
                refine w_ifF (by decide) (w_rdF hq.1 (w_wrF ?_))
                have c4 : ∀ (d4 j : Nat) (y : ow_MS), j + d4 = q.length → y.1 109 = nI q.length → lnI y 111 110 q → (∀ i b, i < j → q[i]? = some b → y.2.1 108 i = nI b) → fmI y n S → y.1 112 = k + nI t → fr nmH z y → Tt (fun K i => q_X13_normalise K i 4 (nI n) k (nI (gNN n - 1)) (nI (moG n h a - 1)) 0 (nI a) (nI (moG n h a - 1)) (nI j) y) Q := by
                  intro d4
                  induction d4 with
                  | zero =>
                    intro j y hj h109 hq hcp hfm h112 hf
                    refine u_X13_normalise_4 ?_; unfold qm_X13_normalise_4
                    refine w_rdF h109 (w_leT (by omega) (by omega) ?_)
                    refine u_X13_normalise_5 ?_; unfold qm_X13_normalise_5
                    rw [nI_1]
                    have c3' : Tt (fun K i => q_X13_normalise K i 6 (nI n) k (nI (gNN n - 1)) (nI (moG n h a - 1)) 1 (nI (a + 1)) 0 0 y) Q := by
                      refine u_X13_normalise_6 ?_; unfold qm_X13_normalise_6
                      have s1 := (t4 hmo).1
                      have s2 := (f_one h2 h5 (k := moG n h a - 1) (by omega)).1
                      exact ihd (dd - 1) (by omega) (moG n h a - 1) C' y (by omega) (by omega) (by omega) (by rw [p1]; exact q1) (by omega) (by rw [hqq]; omega) (by rw [hqq]; exact ⟨h109, fun i b hi => hcp i b (by have := (List.getElem?_eq_some_iff.mp hi).1; omega) hi⟩) hfm h112 hf
                    refine u_X13_normalise_3 ?_; unfold qm_X13_normalise_3
                    rw [show nI n - 1 = nI (n - 1) from pk_sub (b := 1) (by omega)]
                    exact w_le (by omega) (by omega) (fun _ => c3') (fun _ => w_ifF (by decide) c3')
                  | succ d4 ih4 =>
                    intro j y hj h109 hq hcp hfm h112 hf
                    have hjl : j < q.length := by omega
                    refine u_X13_normalise_4 ?_; unfold qm_X13_normalise_4
                    rw [nI_1]
                    refine w_rdF h109 (w_leF (by omega) hjl (w_rdI ml110 rfl (by omega) (hq.2 j _ (List.getElem?_eq_getElem hjl)) (w_wrI ml108 rfl (by omega) (ih4 (j + 1) _ (by omega) h109 ⟨hq.1, fun i b hi => rd_ot (by omega) (hq.2 i b hi)⟩ (fun i b hi hb => ?_) ⟨⟨hfm.1.1, fun i b hi => rd_ot (by omega) (hfm.1.2 i b hi)⟩, hfm.2⟩ h112 (fr_I2 hf (by unfold nmH; omega))))))
                    by_cases hij : i = j
                    · rw [hij] at hb
                      rw [List.getElem?_eq_getElem hjl] at hb
                      cases hb
                      rw [hij, po_usI_at]
                    · exact rd_ne hij (hcp i b (by omega) hb)
                exact c4 q.length 0 _ (by omega) po_usF_at ⟨rf_ot (by omega) hq.1, hq.2⟩ (fun i b hi => absurd hi (by omega)) ⟨⟨rf_ot (by omega) hfm2.1.1, hfm2.1.2⟩, hfm2.2⟩ (rf_ot (by omega) h112b) (fr_F2 hf2 (by unfold nmH; omega))
              · rw [decide_eq_false hdv] at ev
                rw [ev]
                exact w_ifT rfl (c5 _ y2 (Or.inr (Or.inr hdv)) hw2 hfm2 h112b hf2)
        refine u_X13_normalise_2 ?_; unfold qm_X13_normalise_2
        exact w_ifF (by decide) (c3 (n - 1) 0 y (by omega) (fun b hb => absurd hb (by omega)) hw hfm h112 hf)
      have hpos : 0 < C.flatten.length := List.length_pos_iff.mpr hne
      refine u_X13_normalise_1 ?_; unfold qm_X13_normalise_1
      refine w_rdF hw.1 (w_leF (b := 0) (by omega) (by omega) ?_)
      refine c2 10 0 C y (by omega) h00 ?_ ?_ rfl (by omega) hw hfm h112 hf
      · rw [r1_0 h2 h5 T hokT]
      · rw [r1_0 h2 h5 T hokT]
        exact hC
  have hTn := (hT n h2 h5).1
  have hfl := (bl_len h2 h5 B (bv_bl B T0 hB).1).1
  refine e_X13_normalise ?_
  refine u_X13_normalise_0 ?_; unfold qm_X13_normalise_0
  refine w_wrF (w_wrF (w_rdI ml97 rfl (by omega) hTn ?_))
  rw [show nI (gNN n) - 1 = nI (gNN n - 1) from pk_sub (b := 1) (by omega)]
  refine c1 G0 B T0 [] 0 _ hG hwt hnz hB hr he (by rw [List.length_nil]; omega) rfl (Nat.zero_add _) ⟨rf_ot (by omega) (rf_ot (by omega) hw.1), hw.2⟩ ⟨⟨po_usF_at, fun i a hi => by simp at hi⟩, fun s hs => absurd hs List.not_mem_nil⟩ ?_ (fr_F2 (fr_F (by unfold nmH; omega)) (by unfold nmH; omega))
  rw [po_usF_ot (by omega), po_usF_at]
  exact (Int32.add_zero k).symm
end NF4
/-- a letter, small or capital -/
def lx9 (p : Nat × Bool) : Int32 := if p.2 then -1 - nI p.1 else nI (p.1 + 1)
def stB9 (n : Nat) (p : Nat × Bool) (S : List Nat × Int) : List Nat × Int := if p.2 then (S.1.map (ovG n) ++ [ahG n (moG n 0 p.1 - 1)], S.2 - 1) else (S.1 ++ [moG n 0 p.1 - 1], S.2)
def foT (n : Nat) (w : Nat → Nat × Bool) : Nat → List Nat × Int
  | 0 => ([], 0)
  | i + 1 => stB9 n (w i) (foT n w i)
section NF5
variable {z : ow_MS} {n : Nat}
theorem wt_D (h2 : 2 ≤ n) (h5 : n ≤ 5) {F : List Nat} (hw : wtL n F) : ∀ {j : Nat}, wtL n (List.replicate j (gNN n - 1) ++ F)
  | 0 => by
    rw [List.replicate_zero, List.nil_append]
    exact hw
  | j + 1 => by
    intro i g g' h1 h3
    rw [List.replicate_succ] at h1 h3
    cases i with
    | zero =>
      have h1 : some (gNN n - 1) = some g := h1
      cases h1
      exact lw_Dl h2 h5
    | succ i => exact wt_D h2 h5 hw (j := j) i g g' h1 h3
theorem xr_formOf {b l : Nat} {w : Nat → Nat × Bool} {F : List Nat} {j9 : Nat} (hb : b < 20) (hh : hBr z b n l) (hT : tbG z) (hwd : ∀ i, i < l → (w i).1 + 1 < n ∧ z.2.1 94 (16 * b + i) = lx9 (w i)) (hF : nfL n F) (he : eqT n (foT n w l).1 (List.replicate j9 (gNN n - 1) ++ F)) : Te (fun K => qe_X13_formOf K (nI b) z) (fun z1 => fmI z1 n F ∧ z1.1 112 = iI ((foT n w l).2 + j9)) := by
  obtain ⟨h2, h5, hl, e96, e95, -⟩ := hh
  have hN := nn_pos (n := n)
  let Q : ow_MS → Prop := fun z1 => fmI z1 n F ∧ z1.1 112 = iI ((foT n w l).2 + j9)
  have hdl := dl_lt (n := n)
  have hG : okT n (List.replicate j9 (gNN n - 1) ++ F) := okT_a.mpr ⟨fun t ht => by rw [(List.mem_replicate.mp ht).2]; exact hdl, hF.1⟩
  have hD0 : gNN n - 1 ≠ 0 := fun e => by omega
  have hwt : wtL n (List.replicate j9 (gNN n - 1) ++ F) := wt_D h2 h5 hF.2.1
  have hnz : ∀ g, g ∈ List.replicate j9 (gNN n - 1) ++ F → g ≠ 0 := fun g hg => by
    rcases List.mem_append.mp hg with h9 | h9
    · rw [(List.mem_replicate.mp h9).2]
      exact hD0
    · exact (hF.2.2 g h9).1
  have tF : ∀ {y : ow_MS}, fr nmH z y → tbG y := fun hf => tbG_fr hf (fun g hg => by unfold nmH at hg; omega) hT
  have rF : ∀ {y : ow_MS} {g i : Nat}, fr nmH z y → g ≤ 96 → y.2.1 g i = z.2.1 g i := fun hf hg => by rw [(hf _ (by unfold nmH; omega)).2.1]
  have c1 : ∀ (d i g : Nat) (B : List (List Nat)) (y : ow_MS), i + d = l → g ≤ i → B.length = i → bvG n B (foT n w i).1 → (foT n w i).2 = -(g : Int) → lnI y 109 108 B.flatten → fr nmH z y → Tt (fun K t => q_X13_formOf K t 1 (nI b) (nI n) (iI (-(g : Int))) (nI i) 0 0 y) Q := by
    intro d
    induction d with
    | zero =>
      intro i g B y hi hg hBl hB hg9 hw hf
      have hblB := (bv_bl B _ hB).1
      have hfl := (bl_len h2 h5 B hblB).1
      refine u_X13_formOf_1 ?_; unfold qm_X13_formOf_1
      have hil : i = l := by omega
      refine w_rdI ml95 rfl (by omega) (by rw [rF hf (by omega)]; exact e95) (w_leT (by omega) (by omega) (w_cs0 (xr_normalise h2 h5 (tF hf) hB (by omega) hw hG hwt hnz (by rw [hil]; exact he)) (fun y1 ⟨f1, f3⟩ => w_some ⟨?_, ?_⟩)))
      · rw [List.filter_append, List.filter_eq_nil_iff.mpr (fun g hg => by rw [(List.mem_replicate.mp hg).2]; simp), List.nil_append, List.filter_eq_self.mpr (fun g hg => decide_eq_true (hF.2.2 g hg).2)] at f1
        exact f1
      · rw [List.countP_append, List.countP_eq_length.mpr (fun g hg => by rw [(List.mem_replicate.mp hg).2]; simp), List.countP_eq_zero.mpr (fun g hg => by have := (hF.2.2 g hg).2; simp [this]), List.length_replicate, Nat.add_zero] at f3
        rw [← hil, hg9, f3, nI_iI, iI_add]
    | succ d ih =>
      intro i g B y hi hg hBl hB hg9 hw hf
      have hblB := (bv_bl B _ hB).1
      have hfl := (bl_len h2 h5 B hblB).1
      obtain ⟨ha, hx⟩ := hwd i (by omega)
      rcases hwi : w i with ⟨a, sg9⟩
      rw [hwi] at ha hx
      have ha : a + 1 < n := ha
      have eS : foT n w (i + 1) = stB9 n (a, sg9) (foT n w i) := by rw [← hwi]; rfl
      have e94 : y.2.1 94 (16 * b + i) = z.2.1 94 (16 * b + i) := rF hf (by omega)
      have z1 := (f_fiv h2 h5 ha).1
      have hm0 := (f_two h2 h5 (k := 0) (by omega) ha).2.2.1
      refine u_X13_formOf_1 ?_; unfold qm_X13_formOf_1
      rw [show (16 : Int32) * nI b = nI (16 * b) from pk_mul 16 b, nI_add]
      refine w_rdI ml95 rfl (by omega) (by rw [rF hf (by omega)]; exact e95) (w_leF (by omega) (by omega) ?_)
      cases sg9 with
      | false =>
        have hx : z.2.1 94 (16 * b + i) = nI (a + 1) := hx
        refine w_rdI ml94 rfl (by omega) (e94.trans hx) (w_leF (b := 0) (by omega) (by omega) (w_rdF hw.1 ?_))
        rw [show nI (a + 1) - 1 = nI a from (pk_sub (a := a + 1) (b := 1) (by omega)).trans (by rw [Nat.add_sub_cancel])]
        refine w_wrI ml108 rfl (by omega) (w_rdF (x := nI B.flatten.length) hw.1 (w_wrF ?_))
        refine u_X13_formOf_3 ?_; unfold qm_X13_formOf_3
        rw [nI_1]
        refine ih (i + 1) g (B ++ [[a]]) _ (by omega) (by omega) (by rw [List.length_append, hBl]; rfl) ?_ (by rw [eS]; exact hg9) ?_ (fr_F2 (fr_I2 hf (by unfold nmH; omega)) (by unfold nmH; omega))
        · rw [eS]
          have := (f_one h2 h5 (k := moG n 0 a - 1) (by omega)).2.2.2.2.1
          rw [ltG_1 h2 h5 ha] at this
          exact bv_app B _ hB this (show moG n 0 a - 1 < gNN n by omega)
        · rw [List.flatten_append]
          have := lnI_add (a := a) hw
          exact this
      | true =>
        have hx : z.2.1 94 (16 * b + i) = -1 - nI a := hx
        have hle : (-1 - nI a : Int32) ≤ 0 := by
          rw [nI_iI]
          show iI (-1) - iI (a : Int) ≤ iI 0
          rw [iI_sub, iI_le (by omega) (by omega) (by omega) (by omega)]
          omega
        have eix : (480 : Int32) * nI n - (-1 - nI a) - 1 = nI (480 * n + a) := by
          rw [nI_iI n, nI_iI a]
          show iI 480 * iI (n : Int) - (iI (-1) - iI (a : Int)) - iI 1 = _
          rw [iI_mul, iI_sub, iI_sub, iI_sub]
          exact iI_nI (by omega)
        refine w_rdI ml94 rfl (by omega) (e94.trans hx) (w_ifT hle ?_)
        rw [show iI (-(g : Int)) + (-1) = iI (-((g + 1 : Nat) : Int)) from by
          show iI (-(g : Int)) + iI (-1) = _
          rw [iI_add]
          exact congrArg iI (by omega)]
        have c2 : ∀ (d2 t : Nat) (y : ow_MS), t + d2 = B.flatten.length → y.1 109 = nI B.flatten.length → (∀ j c, j < t → B.flatten[j]? = some c → y.2.1 108 j = nI (n - 2 - c)) → (∀ j c, t ≤ j → B.flatten[j]? = some c → y.2.1 108 j = nI c) → fr nmH z y → Tt (fun K k => q_X13_formOf K k 2 (nI b) (nI n) (iI (-((g + 1 : Nat) : Int))) (nI i) (-1 - nI a) (nI t) y) Q := by
          intro d2
          induction d2 with
          | zero =>
            intro t y ht h109 hc1 hc2 hf
            have hT0 := (((tF hf) n h2 h5).2 0 (by omega)).2.2.2.2 a ha
            rw [if_neg z1] at hT0
            have hs : moG n 0 a - 1 < gNN n := by omega
            have hTs := (((tF hf) n h2 h5).2 _ hs).2.1
            have hah := (f_one h2 h5 hs).2.1
            have e101 : y.2.1 101 (480 * n + a) = nI (moG n 0 a - 1) := by
              have := hT0.1
              rw [show 4 * (120 * n + 0) + a = 480 * n + a by omega] at this
              exact this
            have hw2 : lnI y 109 108 (B.map (List.map (fun a => n - 2 - a))).flatten := by
              rw [← List.map_flatten]
              refine ⟨by rw [List.length_map]; exact h109, fun j c hj => ?_⟩
              rw [List.getElem?_map] at hj
              cases hc : B.flatten[j]? with
              | none => rw [hc] at hj; cases hj
              | some c0 =>
                rw [hc] at hj
                cases hj
                exact hc1 j c0 (by have := (List.getElem?_eq_some_iff.mp hc).1; omega) hc
            have hBf := bl_flip h2 h5 hblB
            have hflf := (bl_len h2 h5 _ hBf).1
            rw [List.length_map] at hflf
            refine u_X13_formOf_2 ?_; unfold qm_X13_formOf_2
            rw [eix]
            refine w_rdF h109 (w_leT (by omega) (by omega) (w_rdI ml101 rfl (by omega) e101 ?_))
            rw [ix120]
            refine w_rdI ml102 rfl (by omega) hTs (w_cs0 (tp_append h2 h5 hah (tF hf) hw2 (by omega)) (fun y1 ⟨w1, f1⟩ => ?_))
            refine u_X13_formOf_3 ?_; unfold qm_X13_formOf_3
            rw [nI_1]
            refine ih (i + 1) (g + 1) (B.map (List.map (fun a => n - 2 - a)) ++ [ltG n (ahG n (moG n 0 a - 1))]) y1 (by omega) (by omega) (by rw [List.length_append, List.length_map, hBl]; rfl) (by rw [eS]; exact bv_app _ _ (bv_flip h2 h5 B _ hB) (f_one h2 h5 hah).2.2.2.2.1 hah) (by rw [eS]; show (foT n w i).2 - 1 = _; rw [hg9]; omega) ?_ (fr_tr hf (fr_mono (fun g hg => by unfold nmH; omega) f1))
            rw [List.flatten_append]
            have : [ltG n (ahG n (moG n 0 a - 1))].flatten = ltG n (ahG n (moG n 0 a - 1)) := by simp
            rw [this]
            exact w1
          | succ d2 ih2 =>
            intro t y ht h109 hc1 hc2 hf
            have htl : t < B.flatten.length := by omega
            have hc := (bl_len h2 h5 B hblB).2 _ (List.getElem_mem htl)
            have hrd := hc2 t _ (Nat.le_refl _) (List.getElem?_eq_getElem htl)
            generalize hce : B.flatten[t] = c at *
            refine u_X13_formOf_2 ?_; unfold qm_X13_formOf_2
            refine w_rdF h109 (w_leF (by omega) htl (w_rdI ml108 rfl (by omega) hrd ?_))
            rw [show nI n - 2 - nI c = nI (n - 2 - c) from by rw [show nI n - 2 = nI (n - 2) from pk_sub (b := 2) h2]; exact pk_sub (by omega), show nI t + 1 = nI (t + 1) from nI_1 _]
            refine w_wrI ml108 rfl (by omega) (ih2 (t + 1) _ (by omega) h109 (fun j c9 hj hj9 => ?_) (fun j c9 hj hj9 => rd_ne (by omega) (hc2 j c9 (by omega) hj9)) (fr_I2 hf (by unfold nmH; omega)))
            by_cases hjt : j = t
            · rw [hjt, List.getElem?_eq_getElem htl, hce] at hj9
              cases hj9
              rw [hjt, po_usI_at]
            · exact rd_ne hjt (hc1 j c9 (by omega) hj9)
        exact c2 B.flatten.length 0 y (by omega) hw.1 (fun j c hj => absurd hj (by omega)) (fun j c _ hj => hw.2 j c hj) hf
  refine e_X13_formOf ?_
  refine u_X13_formOf_0 ?_; unfold qm_X13_formOf_0
  refine w_rdI ml96 rfl (by omega) e96 (w_wrF ?_)
  exact c1 l 0 0 [] (usF z 109 0) (by omega) (Nat.le_refl _) rfl trivial rfl ⟨po_usF_at, fun i a hi => by simp at hi⟩ (fr_F (by unfold nmH; omega))
end NF5
