/-! normalise itself -/
section GAR4
variable {n : Nat}
/-- a row of simple words divided by a simple one, its first word told -/
theorem bl_rv1 (h2 : 2 ≤ n) (h5 : n ≤ 5) {c1 : List Nat} {C : List (List Nat)} {t v : Nat} (ht : t < gNN n) (hv : v < gNN n) (e : evG n 0 c1 = t + 1) (hC : blG n C) : ∃ C' : List (List Nat), C'.length = C.length ∧ blG n C' ∧ evG n 0 (rvG n v c1).1 = ddG n v t + 1 ∧ (rvG n v (c1 :: C).flatten).1 = ((rvG n v c1).1 :: C').flatten ∧ ((rvG n v c1).1 :: C').flatten.length + szG n v = (c1 :: C).flatten.length + szG n (rvG n v (c1 :: C).flatten).2 ∧ (ddG n t v = 0 → (rvG n v (c1 :: C).flatten).2 = 0) := by
  obtain ⟨k1, k2⟩ := gv_simple0 h2 h5 hv e
  obtain ⟨d1, d2, -⟩ := f_fou h2 h5 ht hv
  obtain ⟨e1, e2, -⟩ := f_fou h2 h5 hv ht
  have h0 : 0 < gNN n := by have := nn_pos (n := n); omega
  obtain ⟨C', b1, b2, b3, b4, b5⟩ := bl_rv h2 h5 C (v := ddG n t v) d1 hC
  have l1 := ev_len h2 h5 c1 h0 e
  have l2 := ev_len h2 h5 (rvG n v c1).1 h0 k2
  refine ⟨C', b1, b2, k2, ?_, ?_, fun h9 => ?_⟩
  · rw [List.flatten_cons, gv_app, k1, b3, List.flatten_cons]
  · rw [List.flatten_cons, List.flatten_cons, gv_app, k1, List.length_append, List.length_append]
    show _ = _ + szG n (rvG n (ddG n t v) C.flatten).2
    omega
  · rw [List.flatten_cons, gv_app, k1, h9, gv_0]
end GAR4
def szL (n : Nat) (S : List Nat) : Nat := (S.map (szG n)).sum
theorem szL_app {n s : Nat} {S : List Nat} : szL n (S ++ [s]) = szL n S + szG n s := by
  unfold szL
  rw [List.map_append, List.sum_append_nat]
  simp
/-- a form: its simple ones -/
def fmI (y : ow_MS) (n : Nat) (S : List Nat) : Prop := lnI y 113 114 S ∧ ∀ s, s ∈ S → s < gNN n
abbrev nmH (g : Nat) : Prop := 108 ≤ g ∧ g ≤ 114
section GARQ
variable {z : ow_MS} {n : Nat}
theorem u_X13_normalise_1 {x1 : Int32} {x2 : Int32} {x3 : Int32} {x4 : Int32} {x5 : Int32} {x6 : Int32} {x7 : Int32} {x8 : Int32} {z : ow_MS} {Q : ow_MS → Prop} (H : Tt (fun K k => qm_X13_normalise_1 K (q_X13_normalise K k) x1 x2 x3 x4 x5 x6 x7 x8 z) Q) : Tt (fun K k => q_X13_normalise K k 1 x1 x2 x3 x4 x5 x6 x7 x8 z) Q := w_un (fun _ _ => rfl) H
theorem u_X13_normalise_7 {x1 : Int32} {x2 : Int32} {x3 : Int32} {x4 : Int32} {x5 : Int32} {x6 : Int32} {x7 : Int32} {x8 : Int32} {z : ow_MS} {Q : ow_MS → Prop} (H : Tt (fun K k => qm_X13_normalise_7 K (q_X13_normalise K k) x1 x2 x3 x4 x5 x6 x7 x8 z) Q) : Tt (fun K k => q_X13_normalise K k 7 x1 x2 x3 x4 x5 x6 x7 x8 z) Q := w_un (fun _ _ => rfl) H
theorem u_X13_normalise_2 {x1 : Int32} {x2 : Int32} {x3 : Int32} {x4 : Int32} {x5 : Int32} {x6 : Int32} {x7 : Int32} {x8 : Int32} {z : ow_MS} {Q : ow_MS → Prop} (H : Tt (fun K k => qm_X13_normalise_2 K (q_X13_normalise K k) x1 x2 x3 x4 x5 x6 x7 x8 z) Q) : Tt (fun K k => q_X13_normalise K k 2 x1 x2 x3 x4 x5 x6 x7 x8 z) Q := w_un (fun _ _ => rfl) H
theorem u_X13_normalise_3 {x1 : Int32} {x2 : Int32} {x3 : Int32} {x4 : Int32} {x5 : Int32} {x6 : Int32} {x7 : Int32} {x8 : Int32} {z : ow_MS} {Q : ow_MS → Prop} (H : Tt (fun K k => qm_X13_normalise_3 K (q_X13_normalise K k) x1 x2 x3 x4 x5 x6 x7 x8 z) Q) : Tt (fun K k => q_X13_normalise K k 3 x1 x2 x3 x4 x5 x6 x7 x8 z) Q := w_un (fun _ _ => rfl) H
theorem u_X13_normalise_6 {x1 : Int32} {x2 : Int32} {x3 : Int32} {x4 : Int32} {x5 : Int32} {x6 : Int32} {x7 : Int32} {x8 : Int32} {z : ow_MS} {Q : ow_MS → Prop} (H : Tt (fun K k => qm_X13_normalise_6 K (q_X13_normalise K k) x1 x2 x3 x4 x5 x6 x7 x8 z) Q) : Tt (fun K k => q_X13_normalise K k 6 x1 x2 x3 x4 x5 x6 x7 x8 z) Q := w_un (fun _ _ => rfl) H
theorem u_X13_normalise_5 {x1 : Int32} {x2 : Int32} {x3 : Int32} {x4 : Int32} {x5 : Int32} {x6 : Int32} {x7 : Int32} {x8 : Int32} {z : ow_MS} {Q : ow_MS → Prop} (H : Tt (fun K k => qm_X13_normalise_5 K (q_X13_normalise K k) x1 x2 x3 x4 x5 x6 x7 x8 z) Q) : Tt (fun K k => q_X13_normalise K k 5 x1 x2 x3 x4 x5 x6 x7 x8 z) Q := w_un (fun _ _ => rfl) H
theorem u_X13_normalise_4 {x1 : Int32} {x2 : Int32} {x3 : Int32} {x4 : Int32} {x5 : Int32} {x6 : Int32} {x7 : Int32} {x8 : Int32} {z : ow_MS} {Q : ow_MS → Prop} (H : Tt (fun K k => qm_X13_normalise_4 K (q_X13_normalise K k) x1 x2 x3 x4 x5 x6 x7 x8 z) Q) : Tt (fun K k => q_X13_normalise K k 4 x1 x2 x3 x4 x5 x6 x7 x8 z) Q := w_un (fun _ _ => rfl) H
theorem e_X13_normalise {x1 : Int32} {x2 : Int32} {z : ow_MS} {Q : ow_MS → Prop} (H : Tt (fun K k => q_X13_normalise K k 0 x1 x2 0 0 0 0 0 0 z) Q) : Te (fun K => qe_X13_normalise K x1 x2 z) Q := w_te H
theorem u_X13_normalise_0 {x1 : Int32} {x2 : Int32} {x3 : Int32} {x4 : Int32} {x5 : Int32} {x6 : Int32} {x7 : Int32} {x8 : Int32} {z : ow_MS} {Q : ow_MS → Prop} (H : Tt (fun K k => qm_X13_normalise_0 K (q_X13_normalise K k) x1 x2 x3 x4 x5 x6 x7 x8 z) Q) : Tt (fun K k => q_X13_normalise K k 0 x1 x2 x3 x4 x5 x6 x7 x8 z) Q := w_un (fun _ _ => rfl) H
theorem tp_normalise {k : Int32} {B : List (List Nat)} (h2 : 2 ≤ n) (h5 : n ≤ 5) (hT : tbG z) (hB : blG n B) (hr : B.length ≤ 18) (hw : lnI z 109 108 B.flatten) : Te (fun K => qe_X13_normalise K (nI n) k z) (fun z1 => (∃ S t, fmI z1 n S ∧ S.length + t ≤ B.length ∧ z1.1 112 = k + nI t ∧ szL n S + t * szG n (gNN n - 1) = B.flatten.length) ∧ fr nmH z z1) := by
  have hN := nn_pos (n := n)
  let Q : ow_MS → Prop := fun z1 => (∃ S t, fmI z1 n S ∧ S.length + t ≤ B.length ∧ z1.1 112 = k + nI t ∧ szL n S + t * szG n (gNN n - 1) = B.flatten.length) ∧ fr nmH z z1
  have tF : ∀ {y : ow_MS}, fr nmH z y → tbG y := fun hf => tbG_fr hf (fun g hg => by unfold nmH at hg; omega) hT
  have hz0 : szG n 0 = 0 := (f_fiv h2 h5 (a := 0) (by omega)).2.2.2.1
  have h00 : 0 < gNN n := by omega
  have c1 : ∀ (m : Nat) (C : List (List Nat)) (S : List Nat) (t : Nat) (x4 x5 : Int32) (y : ow_MS), C.length = m → blG n C → S.length + t + m ≤ B.length → lnI y 109 108 C.flatten → fmI y n S → y.1 112 = k + nI t → szL n S + t * szG n (gNN n - 1) + C.flatten.length = B.flatten.length → fr nmH z y → Tt (fun K i => q_X13_normalise K i 1 (nI n) k (nI (gNN n - 1)) 0 0 0 0 0 y) Q := by
    intro m
    induction m with
    | zero =>
      intro C S t x4 x5 y hC hbC hS hw hfm h112 hen hf
      have hC0 : C = [] := List.length_eq_zero_iff.mp hC
      subst hC0
      refine u_X13_normalise_1 ?_; unfold qm_X13_normalise_1
      refine w_rdF hw.1 (w_leT (b := 0) (by omega) (Nat.le_refl _) (w_some ⟨⟨S, t, hfm, by omega, h112, ?_⟩, hf⟩))
      have hen : szL n S + t * szG n (gNN n - 1) + 0 = B.flatten.length := hen
      omega
    | succ m ih =>
      intro C S t x4 x5 y hC hbC hS hw hfm h112 hen hf
      obtain ⟨c0, C0, rfl⟩ : ∃ c0 C0, C = c0 :: C0 := by
        cases C with
        | nil => cases hC
        | cons a C => exact ⟨a, C, rfl⟩
      have hC : C0.length + 1 = m + 1 := hC
      obtain ⟨s1, hs1, e1⟩ := hbC c0 List.mem_cons_self
      -- the head is being found: h so far, the rest of the first word c1
      have c2 : ∀ (dd h : Nat) (c1 : List Nat) (C1 : List (List Nat)) (y : ow_MS), szG n h + dd = 10 → h < gNN n → evG n 0 c1 = ddG n h s1 + 1 → C1.length = m → blG n C1 → lnI y 109 108 (c1 :: C1).flatten → fmI y n S → y.1 112 = k + nI t → (c1 :: C1).flatten.length + szG n h = (c0 :: C0).flatten.length → fr nmH z y → Tt (fun K i => q_X13_normalise K i 2 (nI n) k (nI (gNN n - 1)) (nI h) 1 0 0 0 y) Q := by
        intro dd
        induction dd using Nat.strongRecOn with
        | ind dd ihd =>
        intro h c1 C1 y hdd hh hc1 hC1 hbC1 hw hfm h112 hlen hf
        obtain ⟨ht1, ht2, ht3⟩ := f_fou h2 h5 hh hs1
        have hbl : blG n (c1 :: C1) := fun w hw9 => by
          rcases List.mem_cons.mp hw9 with h9 | h9
          · rw [h9]; exact ⟨_, ht1, hc1⟩
          · exact hbC1 w h9
        have hl18 : (c1 :: C1).length ≤ 18 := by
          show C1.length + 1 ≤ 18
          omega
        have hfl := (bl_len h2 h5 _ hbl).1
        -- no letter goes on: the head is whole
        have fin : (∀ b, b + 1 < n → moG n h b = 0 ∨ (c1 :: C1).flatten = [] ∨ (rvG n (moG n 0 b - 1) (c1 :: C1).flatten).2 ≠ 0) → ∀ (y : ow_MS), lnI y 109 108 (c1 :: C1).flatten → fmI y n S → y.1 112 = k + nI t → fr nmH z y → Tt (fun K i => q_X13_normalise K i 2 (nI n) k (nI (gNN n - 1)) (nI h) 0 0 0 0 y) Q := by
          intro hno y hw hfm h112 hf
          have hd0 : ddG n h s1 = 0 := by
            refine Classical.byContradiction (fun hne => ?_)
            obtain ⟨a, ha, ma, da⟩ := ht3 hne
            have hm0 := (f_two h2 h5 h00 ha).2.2.1
            have z1 := (f_fiv h2 h5 ha).1
            obtain ⟨C', -, -, -, -, -, q6⟩ := bl_rv1 h2 h5 (v := moG n 0 a - 1) ht1 (by omega) hc1 hbC1
            have hc1l := (ev_len h2 h5 c1 h00 hc1).2.1
            have hsz : szG n (ddG n h s1) ≠ 0 := fun e => hne ((f_one h2 h5 ht1).2.2.2.2.2.1 e)
            rcases hno a ha with h9 | h9 | h9
            · exact ma h9
            · have : (c1 :: C1).flatten.length = 0 := by rw [h9]; rfl
              rw [List.flatten_cons, List.length_append] at this
              omega
            · exact h9 (q6 da)
          rw [hd0] at hc1
          have hc1l := (ev_len h2 h5 c1 h00 hc1).2.1
          have hc1e : c1 = [] := List.length_eq_zero_iff.mp (by omega)
          have hfl9 : (c1 :: C1).flatten = C1.flatten := by rw [hc1e]; rfl
          rw [hfl9] at hw hlen
          have c7 : ∀ (S' : List Nat) (t' : Nat) (y : ow_MS), S'.length + t' + m ≤ B.length → lnI y 109 108 C1.flatten → fmI y n S' → y.1 112 = k + nI t' → szL n S' + t' * szG n (gNN n - 1) + C1.flatten.length = B.flatten.length → fr nmH z y → Tt (fun K i => q_X13_normalise K i 7 (nI n) k (nI (gNN n - 1)) (nI h) 0 0 0 0 y) Q := by
            intro S' t' y a1 a2 a3 a4 a5 a6
            refine u_X13_normalise_7 ?_; unfold qm_X13_normalise_7
            exact ih C1 S' t' 0 0 y hC1 hbC1 a1 a2 a3 a4 a5 a6
          refine u_X13_normalise_2 ?_; unfold qm_X13_normalise_2
          refine w_ifT rfl (w_eqN (by omega) (by omega) (fun hd => ?_) (fun hd => ?_))
          · refine w_rdF h112 (w_wrF (c7 S (t + 1) _ (by omega) ⟨rf_ot (by omega) hw.1, hw.2⟩ ⟨⟨rf_ot (by omega) hfm.1.1, hfm.1.2⟩, hfm.2⟩ ?_ ?_ (fr_F2 hf (by unfold nmH; omega))))
            · rw [po_usF_at, Int32.add_assoc, nI_1]
            · rw [hd] at hlen
              rw [Nat.add_mul]
              omega
          · refine w_rdF hfm.1.1 (w_wrI ml114 rfl (by omega) (w_rdF (x := nI S.length) hfm.1.1 (w_wrF (c7 (S ++ [h]) t _ ?_ ⟨rf_ot (by omega) hw.1, fun i a hi => rd_ot (by omega) (hw.2 i a hi)⟩ ⟨lnI_add hfm.1, fun s hs => ?_⟩ (rf_ot (by omega) h112) ?_ (fr_F2 (fr_I2 hf (by unfold nmH; omega)) (by unfold nmH; omega))))))
            · rw [List.length_append]
              show S.length + 1 + t + m ≤ B.length
              omega
            · rcases List.mem_append.mp hs with h9 | h9
              · exact hfm.2 s h9
              · rw [List.mem_singleton.mp h9]; exact hh
            · rw [szL_app]
              omega
        have c3 : ∀ (d a : Nat) (y : ow_MS), a + d + 1 = n → (∀ b, b < a → moG n h b = 0 ∨ (c1 :: C1).flatten = [] ∨ (rvG n (moG n 0 b - 1) (c1 :: C1).flatten).2 ≠ 0) → lnI y 109 108 (c1 :: C1).flatten → fmI y n S → y.1 112 = k + nI t → fr nmH z y → Tt (fun K i => q_X13_normalise K i 3 (nI n) k (nI (gNN n - 1)) (nI h) 0 (nI a) 0 0 y) Q := by
          intro d
          induction d with
          | zero =>
            intro a y ha hno hw hfm h112 hf
            refine u_X13_normalise_3 ?_; unfold qm_X13_normalise_3
            rw [show nI n - 1 = nI (n - 1) from pk_sub (b := 1) (by omega)]
            refine w_leT (by omega) (by omega) ?_
            refine u_X13_normalise_6 ?_; unfold qm_X13_normalise_6
            exact fin (fun b hb => hno b (by omega)) y hw hfm h112 hf
          | succ d ih3 =>
            intro a y ha hno hw hfm h112 hf
            have ha1 : a + 1 < n := by omega
            have hTh := (((tF hf) n h2 h5).2 h hh).2.2.2.2 a ha1
            obtain ⟨t1, t2, t3, t4⟩ := f_two h2 h5 hh ha1
            have hm0 := (f_two h2 h5 h00 ha1).2.2.1
            have z1 := (f_fiv h2 h5 ha1).1
            have c5 : ∀ (x7 : Int32) (y : ow_MS), (moG n h a = 0 ∨ (c1 :: C1).flatten = [] ∨ (rvG n (moG n 0 a - 1) (c1 :: C1).flatten).2 ≠ 0) → lnI y 109 108 (c1 :: C1).flatten → fmI y n S → y.1 112 = k + nI t → fr nmH z y → Tt (fun K i => q_X13_normalise K i 5 (nI n) k (nI (gNN n - 1)) (nI h) 0 (nI a) x7 0 y) Q := by
              intro x7 y hno2 hw hfm h112 hf
              refine u_X13_normalise_5 ?_; unfold qm_X13_normalise_5
              rw [nI_1]
              refine ih3 (a + 1) y (by omega) (fun b hb => ?_) hw hfm h112 hf
              by_cases hba : b = a
              · rw [hba]; exact hno2
              · exact hno b (by omega)
            refine u_X13_normalise_3 ?_; unfold qm_X13_normalise_3
            rw [show nI n - 1 = nI (n - 1) from pk_sub (b := 1) (by omega), ix4]
            refine w_leF (by omega) (by omega) (w_ifT rfl (w_rdI ml101 rfl (by omega) hTh.1 ?_))
            by_cases hmo : moG n h a = 0
            · rw [if_pos hmo]
              exact w_ifT rfl (c5 _ y (Or.inl hmo) hw hfm h112 hf)
            · rw [if_neg hmo]
              refine w_ifF (rn_neg1 (by omega)) (w_rdF hw.1 (w_le (b := 0) (by omega) (by omega) (fun h0 => c5 _ y (Or.inr (Or.inl (List.length_eq_zero_iff.mp (by omega)))) hw hfm h112 hf) (fun hpos => w_cs1 (tp_begins h2 h5 ha1 (tF hf) hbl hl18 hw) (fun v y2 ⟨ev, hq, f2⟩ => ?_))))
              have ev : v = bZ (decide ((rvG n (moG n 0 a - 1) (c1 :: C1).flatten).2 = 0)) := ev
              have hq : lnI y2 111 110 (rvG n (moG n 0 a - 1) (c1 :: C1).flatten).1 := hq
              have f2 : fr (fun g => g = 110 ∨ g = 111) y y2 := f2
              have hf2 : fr nmH z y2 := fr_tr hf (fr_mono (fun g hg => by unfold nmH; omega) f2)
              have hw2 : lnI y2 109 108 (c1 :: C1).flatten := lnI_fr f2 (by omega) (by omega) hw
              have hfm2 : fmI y2 n S := ⟨lnI_fr f2 (by omega) (by omega) hfm.1, hfm.2⟩
              have h112b : y2.1 112 = k + nI t := by rw [(f2 112 (by omega)).1]; exact h112
              by_cases hdv : (rvG n (moG n 0 a - 1) (c1 :: C1).flatten).2 = 0
              · rw [decide_eq_true hdv] at ev
                rw [ev]
                obtain ⟨C', q1, q2, q3, q4, q5, -⟩ := bl_rv1 h2 h5 (v := moG n 0 a - 1) ht1 (by omega) hc1 hbC1
                rw [hdv, hz0] at q5
                have k3 := (f_thr h2 h5 hs1 hh ha1 hmo).2.2
                have hsz1 : szG n (moG n 0 a - 1) = 1 := by
                  have := ((f_two h2 h5 h00 ha1).2.2.2 z1).1
                  omega
                rw [q4] at hq
                generalize hqq : ((rvG n (moG n 0 a - 1) c1).1 :: C').flatten = q at *
                have hql : q.length ≤ 180 := by omega
                refine w_ifF (by decide) (w_rdF hq.1 (w_wrF ?_))
                have c4 : ∀ (d4 j : Nat) (y : ow_MS), j + d4 = q.length → y.1 109 = nI q.length → lnI y 111 110 q → (∀ i b, i < j → q[i]? = some b → y.2.1 108 i = nI b) → fmI y n S → y.1 112 = k + nI t → fr nmH z y → Tt (fun K i => q_X13_normalise K i 4 (nI n) k (nI (gNN n - 1)) (nI (moG n h a - 1)) 0 (nI a) (nI (moG n h a - 1)) (nI j) y) Q := by
                  intro d4
                  induction d4 with
                  | zero =>
                    intro j y hj h109 hq hcp hfm h112 hf
                    refine u_X13_normalise_4 ?_; unfold qm_X13_normalise_4
                    refine w_rdF h109 (w_leT (by omega) (by omega) ?_)
                    refine u_X13_normalise_5 ?_; unfold qm_X13_normalise_5
                    rw [nI_1]
                    have c3' : Tt (fun K i => q_X13_normalise K i 6 (nI n) k (nI (gNN n - 1)) (nI (moG n h a - 1)) 1 (nI (a + 1)) 0 0 y) Q := by
                      refine u_X13_normalise_6 ?_; unfold qm_X13_normalise_6
                      refine ihd (dd - 1) ?_ (moG n h a - 1) _ C' y ?_ (by omega) (by rw [k3]; exact q3) (by omega) q2 (by rw [hqq]; exact ⟨h109, fun i b hi => hcp i b (by have := (List.getElem?_eq_some_iff.mp hi).1; omega) hi⟩) hfm h112 ?_ hf
                      · have := (t4 hmo).1
                        have := (f_one h2 h5 (k := moG n h a - 1) (by omega)).1
                        omega
                      · have := (t4 hmo).1
                        have := (f_one h2 h5 (k := moG n h a - 1) (by omega)).1
                        omega
                      · have := (t4 hmo).1
                        rw [hqq]
                        omega
                    refine u_X13_normalise_3 ?_; unfold qm_X13_normalise_3
                    rw [show nI n - 1 = nI (n - 1) from pk_sub (b := 1) (by omega)]
                    exact w_le (by omega) (by omega) (fun _ => c3') (fun _ => w_ifF (by decide) c3')
                  | succ d4 ih4 =>
                    intro j y hj h109 hq hcp hfm h112 hf
                    have hjl : j < q.length := by omega
                    refine u_X13_normalise_4 ?_; unfold qm_X13_normalise_4
                    rw [nI_1]
                    refine w_rdF h109 (w_leF (by omega) hjl (w_rdI ml110 rfl (by omega) (hq.2 j _ (List.getElem?_eq_getElem hjl)) (w_wrI ml108 rfl (by omega) (ih4 (j + 1) _ (by omega) h109 ⟨hq.1, fun i b hi => rd_ot (by omega) (hq.2 i b hi)⟩ (fun i b hi hb => ?_) ⟨⟨hfm.1.1, fun i b hi => rd_ot (by omega) (hfm.1.2 i b hi)⟩, hfm.2⟩ h112 (fr_I2 hf (by unfold nmH; omega))))))
                    by_cases hij : i = j
                    · rw [hij] at hb
                      rw [List.getElem?_eq_getElem hjl] at hb
                      cases hb
                      rw [hij, po_usI_at]
                    · exact rd_ne hij (hcp i b (by omega) hb)
                exact c4 q.length 0 _ (by omega) po_usF_at ⟨rf_ot (by omega) hq.1, hq.2⟩ (fun i b hi => absurd hi (by omega)) ⟨⟨rf_ot (by omega) hfm2.1.1, hfm2.1.2⟩, hfm2.2⟩ (rf_ot (by omega) h112b) (fr_F2 hf2 (by unfold nmH; omega))
              · rw [decide_eq_false hdv] at ev
                rw [ev]
                exact w_ifT rfl (c5 _ y2 (Or.inr (Or.inr hdv)) hw2 hfm2 h112b hf2)
        refine u_X13_normalise_2 ?_; unfold qm_X13_normalise_2
        exact w_ifF (by decide) (c3 (n - 1) 0 y (by omega) (fun b hb => absurd hb (by omega)) hw hfm h112 hf)
      have hfl := (bl_len h2 h5 _ hbC).1
      have hcl : (c0 :: C0).length = m + 1 := hC
      refine u_X13_normalise_1 ?_; unfold qm_X13_normalise_1
      refine w_rdF hw.1 (w_le (b := 0) (by omega) (by omega) (fun h0 => w_some ⟨⟨S, t, hfm, by omega, h112, by omega⟩, hf⟩) (fun hpos => ?_))
      refine c2 10 0 c0 C0 y (by omega) h00 ?_ (by omega) (fun w hw9 => hbC w (List.mem_cons_of_mem _ hw9)) hw hfm h112 (by omega) hf
      rw [(f_one h2 h5 hs1).2.2.2.2.2.2.1]
      exact e1
  have hTn := (hT n h2 h5).1
  refine e_X13_normalise ?_
  refine u_X13_normalise_0 ?_; unfold qm_X13_normalise_0
  refine w_wrF (w_wrF (w_rdI ml97 rfl (by omega) hTn ?_))
  rw [show nI (gNN n) - 1 = nI (gNN n - 1) from pk_sub (b := 1) (by omega)]
  refine c1 B.length B [] 0 0 0 _ rfl hB (by rw [List.length_nil]; omega) ⟨rf_ot (by omega) (rf_ot (by omega) hw.1), hw.2⟩ ⟨⟨po_usF_at, fun i a hi => by simp at hi⟩, fun s hs => absurd hs List.not_mem_nil⟩ ?_ ?_ (fr_F2 (fr_F (by unfold nmH; omega)) (by unfold nmH; omega))
  · rw [po_usF_ot (by omega), po_usF_at]
    exact (Int32.add_zero k).symm
  · show 0 + 0 * szG n (gNN n - 1) + B.flatten.length = B.flatten.length
    omega
end GARQ
