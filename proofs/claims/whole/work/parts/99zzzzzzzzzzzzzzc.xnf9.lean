/-! factor and equal answer the same -/
section NFB
variable {X : (Nat → Nat → Int32) → Prop} {z y : ow_MS} {vl : Nat → Nat} {x x' x3 : Int32}
/-- the same braid on both sides -/
theorem br_same {b n l b' n' l' : Nat} {w : Nat → Nat × Bool} (hR : relB z y) (hb : b < 20) (hx : x = nI b) (hh : hBr z b n l) (hW : brW y x b' n' l' w) : b' = b ∧ n' = n ∧ l' = l ∧ ∀ i, i < l → (w i).1 + 1 < n ∧ z.2.1 94 (16 * b + i) = lx9 (w i) := by
  obtain ⟨w1, w2, w3, w4, w5, w6, w7, w8⟩ := hW
  have eb := nI_inj9 (a := b) (b := b') (by omega) (by omega) (hx.symm.trans w2)
  subst eb
  have e96 := (hR b hb).1
  have en : n = n' := nI_inj9 (by have := hh.2.1; omega) (by omega) (hh.2.2.2.1.symm.trans (e96.trans w5))
  subst en
  have hne : z.2.1 96 b ≠ 0 := by
    rw [hh.2.2.2.1]
    exact nI_ne0 (by omega) (by omega)
  obtain ⟨k1, k2⟩ := (hR b hb).2 hne
  have el : l = l' := nI_inj9 (by have := hh.2.2.1; omega) (by omega) (hh.2.2.2.2.1.symm.trans (k1.trans w7))
  subst el
  exact ⟨rfl, rfl, rfl, fun i hi => ⟨(w8 i hi).1, by rw [k2 l w6 hh.2.2.2.2.1 i hi]; exact (w8 i hi).2⟩⟩
def fvN (n : Nat) (F : List Nat) (x' x3 : Int32) : Int32 := if x' < 1 then -1 else if nI F.length < x' then -1 else if x3 < 0 then -1 else if x3 < nI n then nI (enG n (F.getD (x'.toNatClampNeg - 1) 0) x3.toNatClampNeg) else -1
/-- the ends of simple ones in the reference -/
def enW (z : ow_MS) : Prop := ∀ n s j, 2 ≤ n → n ≤ 5 → s < gNN n → j < n → z.2.1 98 (5 * (120 * n + s) + j) = nI (enG n s j)
theorem xc_factor (hB : brC y) : Te (fun K => ce_X11_factor vl K 0 x x' x3 y) (fun r => r.1 = 1 ∧ noB (y.2.1 15) x ∨ ∃ b n l w, brW y x b n l w ∧ r.1 = 0 ∧ ∃ F j, nfL n F ∧ F.length ≤ l ∧ eqT n (foT n w l).1 (List.replicate j (gNN n - 1) ++ F) ∧ r.2.1 = fvN n F x' x3) := by
  refine e_X11_factor ?_; unfold cm_X11_factor_0
  refine w_tc0 (tc_needBraid (brC_E hB)) ?_ ?_
  · rintro y1 ⟨h1, rfl⟩
    rcases h1 with ⟨-, hb⟩ | h1
    · obtain ⟨b, n, l, hb20, rfl, hn2, hn5, e15, l16, e14, hwd⟩ := isB_w hB hb
      obtain ⟨w, hw⟩ := wd_w hwd
      have hW : brW y1 (nI b) b n l w := ⟨hb20, rfl, hn2, hn5, e15, l16, e14, hw⟩
      refine w_cs0 (xc_writeF fo46 hn2 hn5 hb20 e15 l16 e14 hw) ?_
      rintro y2 ⟨F, j, g1, g3, g4, g5, g2⟩
      have q15 : y2.2.1 15 b = nI n := (congrFun (g2 15 (by unfold foP; omega)).2.1 b).trans e15
      have fin : ∀ v, v = fvN n F x' x3 → Tt (fun _ _ => some ((0 : Nat), v, y2)) (fun r => r.1 = 1 ∧ noB (y1.2.1 15) (nI b) ∨ ∃ b' n l w, brW y1 (nI b) b' n l w ∧ r.1 = 0 ∧ ∃ F j, nfL n F ∧ F.length ≤ l ∧ eqT n (foT n w l).1 (List.replicate j (gNN n - 1) ++ F) ∧ r.2.1 = fvN n F x' x3) := fun v hv => w_some (Or.inr ⟨b, n, l, w, hW, rfl, F, j, g3, g4, g5, hv⟩)
      refine w_if (fun f1 => fin _ (by unfold fvN; rw [if_pos f1])) (fun f1 => w_rdF (fo_len g1).1 (w_if (fun f4 => fin _ (by unfold fvN; rw [if_neg f1, if_pos f4])) (fun f4 => w_if (fun f5 => fin _ (by unfold fvN; rw [if_neg f1, if_neg f4, if_pos f5])) (fun f5 => w_crI ch_15 rfl hb20 q15 (w_if (fun f6 => ?_) (fun f6 => fin _ (by unfold fvN; rw [if_neg f1, if_neg f4, if_neg f5, if_neg f6])))))))
      have h0 : ¬ x' < 0 := fun h9 => f1 (Int32.lt_trans h9 (by decide))
      obtain ⟨k, k31, rfl⟩ := nI_of h0
      obtain ⟨j3, j31, rfl⟩ := nI_of f5
      have k1 : 1 ≤ k := by
        apply Nat.le_of_not_lt
        exact fun h9 => f1 (nI_lt (b := 1) h9 (by omega))
      have k2 : k ≤ F.length := by
        apply Nat.le_of_not_lt
        exact fun h9 => f4 (nI_lt h9 k31)
      have j3n : j3 < n := by
        apply Nat.lt_of_not_le
        intro h9
        have := (nI_ltI j31 (by omega)).mp f6
        omega
      have hk : k - 1 < F.length := by omega
      have eF : F[k - 1]? = some F[k - 1] := List.getElem?_eq_getElem hk
      rw [show nI k - 1 = nI (k - 1) from pk_sub (b := 1) k1]
      refine w_crI (fO_4 fo46) rfl (show k - 1 < 24 by omega) (fo_rd g1 eF) (w_cs1 tc_image ?_)
      rintro v z ⟨e1, e2⟩
      dsimp only at e1 e2
      rw [e2, e1, d_qj hn2 hn5 (g3.1 _ (List.getElem_mem hk)) j3n]
      refine fin _ ?_
      unfold fvN
      rw [if_neg f1, if_neg f4, if_neg f5, if_pos f6, nI_clamp k31, nI_clamp j31, List.getD_eq_getElem?_getD, eF]
      rfl
    · exact absurd (show (0 : Nat) = 1 from h1.1) (by decide)
  · rintro a y1 ha ⟨h1, rfl⟩
    rcases h1 with h1 | h1
    · exact absurd h1.1 ha
    · exact w_some (Or.inl ⟨h1.1, h1.2⟩)
theorem xq_factor (h : gI X z) (hG : ∀ W, X W → XG W) : Te (fun K => qe_X13_factor K x x' x3 z) (fun r => r.2.1 1 = nI 1 ∧ noB (z.2.1 96) x ∨ ∃ b n l, b < 20 ∧ x = nI b ∧ hBr z b n l ∧ ∀ w F j, (∀ i, i < l → (w i).1 + 1 < n ∧ z.2.1 94 (16 * b + i) = lx9 (w i)) → nfL n F → F.length ≤ l → eqT n (foT n w l).1 (List.replicate j (gNN n - 1) ++ F) → enW z → r.2.1 1 = 0 ∧ r.1 = fvN n F x' x3) := by
  have h1 := gI_1 (c := 0) h
  let Q : Int32 × ow_MS → Prop := fun r => r.2.1 1 = nI 1 ∧ noB (z.2.1 96) x ∨ ∃ b n l, b < 20 ∧ x = nI b ∧ hBr z b n l ∧ ∀ w F j, (∀ i, i < l → (w i).1 + 1 < n ∧ z.2.1 94 (16 * b + i) = lx9 (w i)) → nfL n F → F.length ≤ l → eqT n (foT n w l).1 (List.replicate j (gNN n - 1) ++ F) → enW z → r.2.1 1 = 0 ∧ r.1 = fvN n F x' x3
  refine e_X13_factor ?_
  refine u_X13_factor_0 ?_; unfold qm_X13_factor_0
  refine w_wrF (w_hasBX h1.2.2.2.2.2.1 (fun h0 => w_ifT rfl (w_mono (w_failX (k := 1) h1 fr_1) (fun r hr => Or.inl ⟨hr.2.1, h0⟩))) (fun b n l hc hx hh => w_ifF (by decide) ?_))
  subst hx
  have h2 := hh.1
  have h5 := hh.2.1
  have hl16 := hh.2.2.1
  have fo := te_all (α := (Nat → Nat × Bool) × List Nat × Nat) (H := fun a => (∀ i, i < l → (a.1 i).1 + 1 < n ∧ z.2.1 94 (16 * b + i) = lx9 (a.1 i)) ∧ nfL n a.2.1 ∧ eqT n (foT n a.1 l).1 (List.replicate a.2.2 (gNN n - 1) ++ a.2.1)) (R := fun a z1 => fmI z1 n a.2.1 ∧ z1.1 112 = iI ((foT n a.1 l).2 + (a.2.2 : Nat))) (tp_formOf (z := usF z 1 0) hc hh (gI_tb hG h1)) (fun a ⟨a1, a2, a3⟩ => xr_formOf (z := usF z 1 0) hc hh (gI_tb hG h1) a1 a2 a3)
  refine w_cs0 fo (fun y1 ⟨⟨⟨S, κ, f1, f2, _⟩, f3⟩, hall⟩ => ?_)
  have e1 : y1.1 1 = 0 := (f3 1 (by unfold nmH; omega)).1.trans po_usF_at
  have e96 : y1.2.1 96 b = nI n := by rw [(f3 96 (by unfold nmH; omega)).2.1]; exact hh.2.2.2.1
  have e98 : y1.2.1 98 = z.2.1 98 := (f3 98 (by unfold nmH; omega)).2.1
  have hN := nn_pos (n := n)
  have fin : ∀ v, (∀ F, nfL n F → fmI y1 n F → F.length ≤ l → enW z → v = fvN n F x' x3) → Tt (fun _ _ => some (v, y1)) Q := fun v hv => w_some (Or.inr ⟨b, n, l, hc, rfl, hh, fun w F j k1 k2 k3 k4 k5 => ⟨e1, hv F k2 (hall (w, F, j) ⟨k1, k2, k4⟩).1 k3 k5⟩⟩)
  have c1 : (∀ F, nfL n F → fmI y1 n F → F.length ≤ l → -1 = fvN n F x' x3) → Tt (fun K i => q_X13_factor K i 1 (nI b) x' x3 y1) Q := by
    intro hv
    refine u_X13_factor_1 ?_; unfold qm_X13_factor_1
    exact fin _ (fun F a1 a2 a3 _ => hv F a1 a2 a3)
  refine w_if (fun f1 => c1 (fun F _ _ _ => by unfold fvN; rw [if_pos f1])) (fun hi1 => ?_)
  obtain ⟨i', hi31, rfl⟩ := nI_of (x := x') (fun h9 => hi1 (Int32.lt_trans h9 (by decide)))
  have hi0 : 1 ≤ i' := by
    apply Nat.le_of_not_lt
    exact fun h9 => hi1 (nI_lt (b := 1) h9 (by omega))
  have key : ∀ F, fmI y1 n F → F.length ≤ l → F.length = S.length := fun F hF hFl => nI_inj9 (by omega) (by omega) (hF.1.1.symm.trans f1.1.1)
  refine w_rdF f1.1.1 (w_if (fun f4 => c1 (fun F _ hF hFl => by unfold fvN; rw [if_neg hi1, key F hF hFl, if_pos f4])) (fun f4 => w_if (fun f5 => c1 (fun F _ hF hFl => by unfold fvN; rw [if_neg hi1, key F hF hFl, if_neg f4, if_pos f5])) (fun f5 => ?_)))
  obtain ⟨j', hj31, rfl⟩ := nI_of f5
  refine w_rdI ml96 rfl (by omega) e96 (w_if (fun f6 => w_rdI ml96 rfl (by omega) e96 ?_) (fun f6 => c1 (fun F _ hF hFl => by unfold fvN; rw [if_neg hi1, key F hF hFl, if_neg f4, if_neg f5, if_neg f6])))
  have hjn : j' < n := by
    apply Nat.lt_of_not_le
    intro h9
    have := (nI_ltI hj31 (by omega)).mp f6
    omega
  have hil : i' - 1 < S.length := by
    have : i' ≤ S.length := by
      apply Nat.le_of_not_lt
      exact fun h9 => f4 (nI_lt h9 hi31)
    omega
  have hs := f1.2 _ (List.getElem_mem hil)
  have eS : y1.2.1 114 (i' - 1) = nI S[i' - 1] := f1.1.2 _ _ (List.getElem?_eq_getElem hil)
  rw [show nI i' - 1 = nI (i' - 1) from pk_sub (b := 1) hi0]
  refine w_rdI ml114 rfl (by omega) eS ?_
  generalize S[i' - 1] = s at hs eS
  refine w_rdI (i := 5 * (120 * n + s) + j') ml98 (by rw [ix120, show (5 : Int32) * nI (120 * n + s) = nI (5 * (120 * n + s)) from pk_mul 5 _, nI_add]) (by omega) rfl (fin _ (fun F a1 a2 a3 a4 => ?_))
  have eF := key F a2 a3
  have hk : i' - 1 < F.length := by omega
  have e9 := a2.1.2 _ _ (List.getElem?_eq_getElem hk)
  have hb9 := a1.1 _ (List.getElem_mem hk)
  have es : F[i' - 1] = s := nI_inj9 (by omega) (by omega) (e9.symm.trans eS)
  unfold fvN
  rw [if_neg hi1, eF, if_neg f4, if_neg f5, if_pos f6, nI_clamp hi31, nI_clamp hj31, List.getD_eq_getElem?_getD, List.getElem?_eq_getElem hk, es, e98]
  exact a4 n s j' h2 h5 hs hjn
theorem c_factor (hG : ∀ W, X W → XG W) (h : rel3 X z y) (hE : enW z) : Te (fun K => qe_X13_factor K x x' x3 z) (fun rr => Te (fun K => ce_X11_factor vl K 0 x x' x3 y) (fun rc => rel3 X rr.2 rc.2.2 ∧ ansI [(1, 1)] rr rc)) := by
  have hI := r3_g h
  have hB := h.2.2.2.2.1
  have hR := h.2.2.2.1
  refine te_two (te_fo (te_and (tp_factor (b := x) (i := x') (j := x3) hG hI) (xq_factor (x := x) (x' := x') (x3 := x3) hI hG)) (fun K => ff_X13_factor)) (te_fo (xc_factor (x := x) (x' := x') (x3 := x3) hB) (fun K => ff_X11_factor)) (fun rr rc ⟨⟨hgI, hr⟩, fR⟩ ⟨hc, fC⟩ => ⟨rel3_nf fR fC (pf_nf (by decide)) (fun g hg => by omega) hgI h, ?_⟩)
  rcases hr with ⟨r1, r2⟩ | ⟨b, n, l, hb, hx, hh, hr⟩
  · rcases hc with ⟨c1, -⟩ | ⟨b, n, l, w, ⟨w1, w2, w3, w4, w5, -⟩, -⟩
    · exact Or.inr ⟨1, 1, by simp, r1, c1⟩
    · have := r2 b w1 w2
      rw [(hR b w1).1, w5] at this
      exact absurd this (nI_ne0 (by omega) (by omega))
  · rcases hc with ⟨c1, c2⟩ | ⟨b', n', l', w, hW, c1, F, j, c2, c3, c4, c5⟩
    · have := c2 b hb hx
      rw [← (hR b hb).1, hh.2.2.2.1] at this
      exact absurd this (nI_ne0 (by have := hh.1; omega) (by have := hh.2.1; omega))
    · obtain ⟨rfl, rfl, rfl, hwz⟩ := br_same hR hb hx hh hW
      obtain ⟨k1, k2⟩ := hr w F j hwz c2 c3 c4 hE
      exact Or.inl ⟨k1, c1, k2.trans c5.symm⟩
end NFB
