/-! summit answers the same -/
section XSDA
variable {X : (Nat → Nat → Int32) → Prop} {z y : ow_MS} {vl : Nat → Nat} {x x' : Int32}
def lwR (z : ow_MS) (b n l : Nat) (w : Nat → Nat × Bool) : Prop := ∀ i, i < l → (w i).1 + 1 < n ∧ z.2.1 94 (16 * b + i) = lx9 (w i)
theorem rd_w {b n l : Nat} (h : hBr z b n l) : ∃ w : Nat → Nat × Bool, lwR z b n l w := by
  refine Classical.axiomOfChoice (r := fun i p => i < l → p.1 + 1 < n ∧ z.2.1 94 (16 * b + i) = lx9 p) (fun i => ?_)
  by_cases hi : i < l
  · obtain ⟨a, a1, a2 | a2⟩ := h.2.2.2.2.2 i hi
    · exact ⟨(a, false), fun _ => ⟨a1, a2⟩⟩
    · exact ⟨(a, true), fun _ => ⟨a1, a2⟩⟩
  · exact ⟨(0, false), fun h9 => absurd h9 hi⟩
theorem lw_same {b n l : Nat} {w u : Nat → Nat × Bool} (h5 : n ≤ 5) (h : lwR z b n l w) (h' : lwR z b n l u) : ∀ i, i < l → w i = u i := fun i hi => lx_inj (by have := (h i hi).1; omega) (by have := (h' i hi).1; omega) ((h i hi).2.symm.trans (h' i hi).2)
theorem xr_sumB (m : N5) {b l : Nat} {w : Nat → Nat × Bool} (hb : b < 20) (hh : hBr z b m.1 l) (hT : tbG z) (hwd : lwR z b m.1 l w) (h0 : okT m.1 (foT m.1 w l).1) : Te (fun K => qe_X13_summitOf K (nI b) z) (fun z1 => (∃ k F, smF z1 m (gF m (foT m.1 w l).2 (foT m.1 w l).1 h0) k F) ∧ fr nmH z z1) := by
  obtain ⟨b1, b2, b3⟩ := fo_bd (n := m.1) (w := w) l
  have hl := hh.2.2.1
  exact xr_summitOf hb hh hT hwd ⟨h0, rfl⟩ (by omega) (by omega) (by omega)
theorem smF_s {m : N5} {a : Gn m} {k : Int} {F : List Nat} (h : smF z m a k F) : sss a k F.length F := by
  obtain ⟨s1, s3, s2, s4, s5, s6, s7, s8, s9⟩ := h
  exact ⟨s6, rfl, s7⟩
theorem smF_cl {m : N5} {a : Gn m} {k : Int} {F : List Nat} {Ls : List (List Nat)} (h : smF z m a k F) (hl : Ls.length ≤ 200) (hn : Ls.Nodup) (hs : ∀ G, G ∈ Ls ↔ sss a k F.length G) : clS a Ls.length := by
  have := smF_s h
  obtain ⟨s1, s3, s2, s4, s5, s6, s7, s8, s9⟩ := h
  exact ⟨k, F.length, s8, s9, ⟨F, this⟩, hl, Ls, hn, hs, rfl⟩
theorem smF_op {m : N5} {a : Gn m} {k : Int} {F : List Nat} (h : smF z m a k F) (hs : smB a k F.length) : opS a := by
  obtain ⟨s1, s3, s2, s4, s5, s6, s7, s8, s9⟩ := h
  exact ⟨k, F.length, s8, s9, hs⟩
theorem xq_summit (h : gI X z) (hG : ∀ W, X W → XG W) : Te (fun K => qe_X13_summit K x z) (fun r => (r.2.1 1 = nI 1 ∧ noB (z.2.1 96) x ∨ ∃ b n l w, b < 20 ∧ x = nI b ∧ hBr z b n l ∧ lwR z b n l w ∧ (n = 5 ∧ r.2.1 1 = nI 2 ∨ n ≤ 4 ∧ r.2.1 1 = 0 ∧ smW n l w r.1))) := by
  have h1 := gI_1 (c := 0) h
  have e10 : (usF z 1 0).1 1 = 0 := po_usF_at
  refine e_X13_summit ?_; unfold qm_X13_summit_0
  refine w_wrF (w_hasBX h1.2.2.2.2.2.1 (fun h0 => w_ifT rfl (w_mono (w_failX (k := 1) h1 fr_1) (fun r hr => Or.inl ⟨hr.2.1, h0⟩))) (fun b n l hc hx hh => w_ifF (by decide) ?_))
  subst hx
  obtain ⟨w, hw⟩ := rd_w hh
  have hn2 := hh.1
  have hn5 := hh.2.1
  have h0 : okT n (foT n w l).1 := fo_ok hn2 hn5 l (fun j hj => (hw j hj).1)
  refine w_rdI ml96 rfl (by omega) hh.2.2.2.1 (w_eqN (b := 5) (by omega) (by omega) (fun e5 => w_mono (w_failX (k := 2) h1 fr_1) (fun r hr => Or.inr ⟨b, n, l, w, hc, rfl, hh, hw, Or.inl ⟨e5, hr.2.1⟩⟩)) (fun e5 => ?_))
  have n4 : n ≤ 4 := by omega
  refine w_cs0 (xr_sumB ⟨n, hn2, hn5⟩ hc hh (gI_tb hG h1) hw h0) ?_
  rintro y ⟨⟨k, F, sf⟩, f1⟩
  have hB1 := gI_nm f1 h1
  have e96 : y.2.1 96 b = nI n := by rw [(f1 96 (by unfold nmH; omega)).2.1]; exact hh.2.2.2.1
  have e1 : y.1 1 = 0 := (f1 1 (by unfold nmH; omega)).1.trans e10
  refine w_rdI ml96 rfl (by omega) e96 (w_cs1 (xr_allForms (gI_tb hG hB1) sf) (fun v y2 ⟨hv, f2⟩ => ?_))
  dsimp only at hv f2
  have e2 : y2.1 1 = 0 := (f2 1 (by unfold afH; omega)).1.trans e1
  have fin : ∀ v, smW n l w v → Tt (fun _ _ => some (v, y2)) (fun r => (r.2.1 1 = nI 1 ∧ noB (z.2.1 96) (nI b) ∨ ∃ b' n l w, b' < 20 ∧ nI b = nI b' ∧ hBr z b' n l ∧ lwR z b' n l w ∧ (n = 5 ∧ r.2.1 1 = nI 2 ∨ n ≤ 4 ∧ r.2.1 1 = 0 ∧ smW n l w r.1))) := fun v hv => w_some (Or.inr ⟨b, n, l, w, hc, rfl, hh, hw, Or.inr ⟨n4, e2, hv⟩⟩)
  rcases hv with ⟨v1, Ls, a1, a2, a3, a4⟩ | ⟨v0, a1⟩
  · rw [v1]
    exact w_ifF (by decide) (w_rdF a1.1 (fin _ ⟨⟨hn2, hn5⟩, h0, Or.inr ⟨_, rfl, smF_cl sf a2 a3 a4⟩⟩))
  · rw [v0]
    exact w_ifT rfl (fin _ ⟨⟨hn2, hn5⟩, h0, Or.inl ⟨rfl, smF_op sf a1⟩⟩)
theorem xc_needFew {b n : Nat} (hb : b < 20) (hn : n ≤ 5) (e15 : y.2.1 15 b = nI n) : Te (fun K => ce_X11_needFewStrands vl K 0 (nI b) y) (fun r => r.2 = y ∧ (r.1 = 0 ∧ n ≤ 4 ∨ r.1 = 4 ∧ n = 5)) := by
  refine e_X11_needFewStrands ?_; unfold cm_X11_needFewStrands_0
  exact w_crI ch_15 rfl hb e15 (w_lt (b := 5) (by omega) (by omega) (fun _ => w_some ⟨rfl, Or.inl ⟨rfl, by omega⟩⟩) (fun _ => w_some ⟨rfl, Or.inr ⟨rfl, by omega⟩⟩))
theorem wr_fo (m : N5) {h : Nat} {w : Nat → Nat × Bool} {l j : Nat} {F : List Nat} (hl : l ≤ 16) (h0 : okT m.1 (foT m.1 w l).1) (q1 : foA y h m.1 (iI ((foT m.1 w l).2 + (j : Nat))) (F.map (pkG m.1))) (q3 : nfL m.1 F) (q5 : eqT m.1 (foT m.1 w l).1 (List.replicate j (gNN m.1 - 1) ++ F)) : foC y h m ((foT m.1 w l).2 + (j : Nat)) F ∧ bdF9 ((foT m.1 w l).2 + (j : Nat)) F ∧ ∃ h x, gF m ((foT m.1 w l).2 + (j : Nat)) F h = cnj x (gF m (foT m.1 w l).2 (foT m.1 w l).1 h0) := by
  obtain ⟨b1, b2, b3⟩ := fo_bd (n := m.1) (w := w) l
  have b4 := fo_sl m h0 q3 q5
  refine ⟨⟨q1, q3, by omega, by omega⟩, ⟨by omega, by omega, by omega⟩, q3.1, g1 m, ?_⟩
  rw [cnj_1]
  exact (F_eq q5).symm
theorem fn_sm {m : N5} {h : Nat} {a : Gn m} {v : Int32} {k : Int} {R : Nat} {Ls W : List (List Nat)} (h0 : fnC y h m a v k R Ls W) : v = -2 ∧ opS a ∨ v ≠ -2 ∧ v = nI Ls.length ∧ clS a Ls.length := by
  obtain ⟨s1, s2, s3, s4, s5, s6, s7, ⟨F, s8⟩, s9⟩ := h0
  obtain ⟨t1, t2, t3, t4, t5, t6, t7⟩ := s1
  rcases s9 with ⟨e, hl, hi⟩ | ⟨e, hl⟩
  · refine Or.inr ⟨fun h9 => ?_, e, k, R, s3, s4, ⟨F, s5 F s8⟩, hl, Ls, t7, hi, rfl⟩
    rw [e, nI_iI, show (-2 : Int32) = iI (-2) from rfl] at h9
    have := (iI_eq (by omega) (by omega) (by omega) (by omega)).mp h9
    omega
  · exact Or.inl ⟨e, k, R, s3, s4, Ls, t7, hl, s5⟩
theorem xc_summit (hB : brC y) : Te (fun K => ce_X11_summit vl K 0 x y) (fun r => r.1 = 1 ∧ noB (y.2.1 15) x ∨ ∃ b n l w, brW y x b n l w ∧ (r.1 = 4 ∧ n = 5 ∨ r.1 = 0 ∧ n ≤ 4 ∧ smW n l w r.2.1)) := by
  refine e_X11_summit ?_; unfold cm_X11_summit_0
  refine w_tc0 (tc_needBraid (brC_E hB)) ?_ ?_
  · rintro y1 ⟨h1, rfl⟩
    rcases h1 with ⟨-, hb⟩ | h1
    · obtain ⟨b, n, l, hb20, rfl, hn2, hn5, e15, l16, e14, hwd⟩ := isB_w hB hb
      obtain ⟨w, hw⟩ := wd_w hwd
      have hW : brW y1 (nI b) b n l w := ⟨hb20, rfl, hn2, hn5, e15, l16, e14, hw⟩
      have h0 : okT n (foT n w l).1 := fo_ok hn2 hn5 l (fun j hj => (hw j hj).1)
      refine w_tc0 (xc_needFew hb20 hn5 e15) ?_ ?_
      · rintro y2 ⟨e2, h2⟩
        dsimp only at e2 h2
        rw [e2]
        rcases h2 with ⟨-, n4⟩ | h2
        · refine w_cs0 (xc_writeF fo46 hn2 hn5 hb20 e15 l16 e14 hw) ?_
          rintro y3 ⟨F, j, k1, k3, k4, k5, k2⟩
          obtain ⟨p1, p2, p3⟩ := wr_fo ⟨n, hn2, hn5⟩ l16 h0 k1 k3 k5
          refine w_cs1 (xc_findS so48 fo46 (by omega) n4 p1 p2 p3) ?_
          rintro v y4 ⟨⟨k, R, Ls, W, q1⟩, q2⟩
          dsimp only at q1 q2
          refine w_some (Or.inr ⟨b, n, l, w, hW, Or.inr ⟨rfl, n4, ⟨hn2, hn5⟩, h0, ?_⟩⟩)
          rcases fn_sm q1 with ⟨e, q3⟩ | ⟨-, e, q3⟩
          · exact Or.inl ⟨e, q3⟩
          · exact Or.inr ⟨_, e, q3⟩
        · exact absurd h2.1 (by decide)
      · rintro a y2 ha ⟨e2, h2⟩
        dsimp only at e2 h2
        rcases h2 with ⟨h2, -⟩ | ⟨h2, n5⟩
        · exact absurd h2 ha
        · exact w_some (Or.inr ⟨b, n, l, w, hW, Or.inl ⟨h2, n5⟩⟩)
    · exact absurd (show (0 : Nat) = 1 from h1.1) (by decide)
  · rintro a y1 ha ⟨h1, rfl⟩
    rcases h1 with h1 | h1
    · exact absurd h1.1 ha
    · exact w_some (Or.inl ⟨h1.1, h1.2⟩)
theorem no_z {b n l : Nat} {w : Nat → Nat × Bool} (hR : relB z y) (r2 : noB (z.2.1 96) x) (hW : brW y x b n l w) : False := by
  obtain ⟨w1, w2, w3, w4, w5, -⟩ := hW
  have := r2 b w1 w2
  rw [(hR b w1).1, w5] at this
  exact absurd this (nI_ne0 (by omega) (by omega))
theorem no_y {b n l : Nat} (hR : relB z y) (c2 : noB (y.2.1 15) x) (hb : b < 20) (hx : x = nI b) (hh : hBr z b n l) : False := by
  have := c2 b hb hx
  rw [← (hR b hb).1, hh.2.2.2.1] at this
  exact absurd this (nI_ne0 (by have := hh.1; omega) (by have := hh.2.1; omega))
theorem c_summit (hG : ∀ W, X W → XG W) (h : rel3 X z y) : Te (fun K => qe_X13_summit K x z) (fun rr => Te (fun K => ce_X11_summit vl K 0 x y) (fun rc => rel3 X rr.2 rc.2.2 ∧ ansI [(1, 1), (2, 4)] rr rc)) := by
  have hI := r3_g h
  have hB := h.2.2.2.2.1
  have hR := h.2.2.2.1
  refine te_two (te_fo (te_and (tp_summit (b := x) hG hI) (xq_summit (x := x) hI hG)) (fun K => ff_X13_summit)) (te_fo (xc_summit (x := x) hB) (fun K => ff_X11_summit)) (fun rr rc ⟨⟨hgI, hr⟩, fR⟩ ⟨hc, fC⟩ => ⟨rel3_nf fR fC (pf_nf (by decide)) (fun g hg => by omega) hgI h, ?_⟩)
  rcases hr with ⟨r1, r2⟩ | ⟨b, n, l, u, hb, hx, hh, hu, hr⟩
  · rcases hc with ⟨c1, -⟩ | ⟨b, n, l, w, hW, -⟩
    · exact Or.inr ⟨1, 1, by simp, r1, c1⟩
    · exact (no_z hR r2 hW).elim
  · rcases hc with ⟨c1, c2⟩ | ⟨b', n', l', w, hW, hc⟩
    · exact (no_y hR c2 hb hx hh).elim
    · obtain ⟨rfl, rfl, rfl, hwz⟩ := br_same hR hb hx hh hW
      rcases hr with ⟨e5, r1⟩ | ⟨e4, r1, r2⟩
      · rcases hc with ⟨c1, -⟩ | ⟨-, c2, -⟩
        · exact Or.inr ⟨2, 4, by simp, r1, c1⟩
        · omega
      · rcases hc with ⟨-, c2⟩ | ⟨c1, -, c3⟩
        · omega
        · exact Or.inl ⟨r1, c1, smW_uni (lw_same hh.2.1 hu hwz) r2 c3⟩
end XSDA
