/-! the class: signature of a part -/
theorem cdN_fr {P : Nat → Prop} {y z : ow_MS} {φ : Nat → Nat} {x2 x3 : Int32} (hf : fr P y z) (h1 : ¬ P 4006) (h2 : ¬ P 6003) : cdN z φ x2 x3 = cdN y φ x2 x3 := by
  funext s
  unfold cdN
  rw [(hf _ h1).2.1, (hf _ h2).2.1]
theorem nF_two {q1 q2 q : Nat → Bool} (h1 : ∀ k, q1 k = true → q k = true ∧ q2 k = false) (h2 : ∀ k, q2 k = true → q k = true) : ∀ n, nF q1 n + nF q2 n ≤ nF q n
  | 0 => Nat.le_refl _
  | n + 1 => by
    have ih := nF_two h1 h2 n
    show nF q1 n + _ + (nF q2 n + _) ≤ nF q n + _
    cases e1 : q1 n with
    | true =>
      obtain ⟨a, b⟩ := h1 n e1
      rw [a, b]
      simp
      omega
    | false =>
      cases e2 : q2 n with
      | true =>
        rw [h2 n e2]
        simp
        omega
      | false =>
        simp
        split <;> omega
section SP
variable {vl : Nat → Nat} {y : ow_MS} {c n : Nat} {φ : Nat → Nat} {x2 x3 : Int32}
def cntR (y : ow_MS) (c n : Nat) (φ : Nat → Nat) (x2 x3 : Int32) : Nat := nF (snS φ (cdN y φ x2 x3) (4 * c)) n
theorem cntR_fr {P : Nat → Prop} {z : ow_MS} (hf : fr P y z) (h1 : ¬ P 4006) (h2 : ¬ P 6003) : cntR z c n φ x2 x3 = cntR y c n φ x2 x3 := by
  unfold cntR
  rw [cdN_fr hf h1 h2]
theorem e_X4_rarerColour {vl : Nat → Nat} {r0 : Nat} {r1 : Nat} {x2 : Int32} {z : ow_MS} {Q : (Int32 × ow_MS) → Prop} (H : Tt (fun K _ => cm_X4_rarerColour_0 vl K x2 r0 r1 z) Q) : Te (fun K => ce_X4_rarerColour vl K r0 r1 x2 z) Q := w_te0 H
theorem tc_rarer (h8 : y.1 4008 = nI c) (hc : c ≤ 12) (h2 : y.1 6002 = nI n) (hn : n ≤ 48) (hφ : ∀ s, s < 4 * c → y.2.1 6001 s = nI (φ s) ∧ φ s < n) : Te (fun K => ce_X4_rarerColour vl K 6000 4000 x2 y) (fun r => (r.1 = 0 ∧ cntR y c n φ x2 0 ≤ cntR y c n φ x2 1 ∨ r.1 = 1 ∧ cntR y c n φ x2 1 < cntR y c n φ x2 0) ∧ fr (fun g => g = 6004) y r.2) := by
  have l0 : cntR y c n φ x2 0 ≤ n := nF_le _ _
  have l1 : cntR y c n φ x2 1 ≤ n := nF_le _ _
  refine e_X4_rarerColour ?_; unfold cm_X4_rarerColour_0
  refine w_cs1 (tc_numRows (x3 := 0) h8 hc h2 hn hφ) ?_
  rintro v1 z1 ⟨e1, -, f1⟩
  refine w_cs1 (tc_numRows (x3 := 1) (n := n) (φ := φ) ((f1 4008 (by omega)).1.trans h8) hc ((f1 6002 (by omega)).1.trans h2) hn (fun s hs => by
    rw [(f1 6001 (by omega)).2.1]
    exact hφ s hs)) ?_
  rintro v2 z2 ⟨e2, -, f2⟩
  have e1 : v1 = nI (cntR y c n φ x2 0) := e1
  have e2 : v2 = nI (cntR z1 c n φ x2 1) := e2
  rw [cntR_fr f1 (by omega) (by omega)] at e2
  rw [e1, e2]
  exact w_lt (by omega) (by omega) (fun h => w_some ⟨Or.inr ⟨rfl, h⟩, fr_tr f1 f2⟩) (fun h => w_some ⟨Or.inl ⟨rfl, h⟩, fr_tr f1 f2⟩)
def spP (g : Nat) : Prop := g = 6004 ∨ g = 6005 ∨ fcP g
theorem mt_x {t : Nat} (h : t < 24) : nI t ^^^ 1 = nI (mt t) := by
  have key : ∀ t : Fin 24, nI t.val ^^^ 1 = nI (mt t.val) := by decide +kernel
  exact key ⟨t, h⟩
theorem u_X4_signatureOfPart_1 {vl : Nat → Nat} {x2 : Int32} {x3 : Int32} {x4 : Int32} {x5 : Int32} {x6 : Int32} {r0 : Nat} {r1 : Nat} {t0 : Int32} {z : ow_MS} {Q : (Int32 × ow_MS) → Prop} (H : Tt (fun K k => cm_X4_signatureOfPart_1 vl K (c_X4_signatureOfPart vl K k) x2 x3 x4 x5 x6 r0 r1 t0 z) Q) : Tt (fun K k => c_X4_signatureOfPart vl K k 1 x2 x3 x4 x5 x6 r0 r1 t0 z) Q := w_un (fun _ _ => rfl) H
theorem u_X4_signatureOfPart_3 {vl : Nat → Nat} {x2 : Int32} {x3 : Int32} {x4 : Int32} {x5 : Int32} {x6 : Int32} {r0 : Nat} {r1 : Nat} {t0 : Int32} {z : ow_MS} {Q : (Int32 × ow_MS) → Prop} (H : Tt (fun K k => cm_X4_signatureOfPart_3 vl K (c_X4_signatureOfPart vl K k) x2 x3 x4 x5 x6 r0 r1 t0 z) Q) : Tt (fun K k => c_X4_signatureOfPart vl K k 3 x2 x3 x4 x5 x6 r0 r1 t0 z) Q := w_un (fun _ _ => rfl) H
theorem u_X4_signatureOfPart_2 {vl : Nat → Nat} {x2 : Int32} {x3 : Int32} {x4 : Int32} {x5 : Int32} {x6 : Int32} {r0 : Nat} {r1 : Nat} {t0 : Int32} {z : ow_MS} {Q : (Int32 × ow_MS) → Prop} (H : Tt (fun K k => cm_X4_signatureOfPart_2 vl K (c_X4_signatureOfPart vl K k) x2 x3 x4 x5 x6 r0 r1 t0 z) Q) : Tt (fun K k => c_X4_signatureOfPart vl K k 2 x2 x3 x4 x5 x6 r0 r1 t0 z) Q := w_un (fun _ _ => rfl) H
theorem e_X4_signatureOfPart {vl : Nat → Nat} {r0 : Nat} {r1 : Nat} {x2 : Int32} {x3 : Int32} {z : ow_MS} {Q : (Int32 × ow_MS) → Prop} (H : Tt (fun K k => c_X4_signatureOfPart vl K k 0 x2 x3 0 0 0 r0 r1 0 z) Q) : Te (fun K => ce_X4_signatureOfPart vl K r0 r1 x2 x3 z) Q := w_te H
theorem u_X4_signatureOfPart_0 {vl : Nat → Nat} {x2 : Int32} {x3 : Int32} {x4 : Int32} {x5 : Int32} {x6 : Int32} {r0 : Nat} {r1 : Nat} {t0 : Int32} {z : ow_MS} {Q : (Int32 × ow_MS) → Prop} (H : Tt (fun K k => cm_X4_signatureOfPart_0 vl K (c_X4_signatureOfPart vl K k) x2 x3 x4 x5 x6 r0 r1 t0 z) Q) : Tt (fun K k => c_X4_signatureOfPart vl K k 0 x2 x3 x4 x5 x6 r0 r1 t0 z) Q := w_un (fun _ _ => rfl) H
theorem tc_sgPart {T : ow_NT} (hy : cAt y 4000 T) (hv : vn T.1 T.2.2.1) (hc : T.1 ≤ 12) (h2 : y.1 6002 = nI n) (hn : n ≤ 48) (hφ : ∀ s, s < 4 * T.1 → y.2.1 6001 s = nI (φ s) ∧ φ s < n) (hR1 : 1 ≤ cntR y T.1 n φ x2 x3) (hR9 : cntR y T.1 n φ x2 x3 ≤ 9) : Te (fun K => ce_X4_signatureOfPart vl K 6000 4000 x2 x3 y) (fun r => fr spP y r.2) := by
  let Q : Int32 × ow_MS → Prop := fun r => fr spP y r.2
  generalize hm : cntR y T.1 n φ x2 x3 - 1 = m
  have hm8 : m ≤ 8 := by omega
  let I : ow_MS → Prop := fun z => fr (fun g => g = 6004 ∨ g = 6005) y z
  have c1 : ∀ (d x : Nat) (x5 : Int32) (z : ow_MS), x + d = T.1 → I z → Tt (fun K k => c_X4_signatureOfPart vl K k 1 x2 x3 (nI m) x5 (nI x) 6000 4000 0 z) Q := by
    intro d
    induction d with
    | zero =>
      intro x x5 z hx hz
      refine u_X4_signatureOfPart_1 ?_; unfold cm_X4_signatureOfPart_1
      refine w_rdF ((hz 4008 (by omega)).1.trans hy.1) (w_leT (by omega) (by omega) (w_cs1 (tc_eigen hm8) ?_))
      rintro v z1 f1
      exact w_some (fr_tr (fr_mono (fun g hg => by unfold spP; rcases hg with h | h; exact Or.inl h; exact Or.inr (Or.inl h)) hz) (fr_mono (fun g hg => Or.inr (Or.inr hg)) f1))
    | succ d ih =>
      intro x x5 z hx hz
      have c3 : ∀ (x5 : Int32) (z : ow_MS), I z → Tt (fun K k => c_X4_signatureOfPart vl K k 3 x2 x3 (nI m) x5 (nI x) 6000 4000 0 z) Q := by
        intro x5 z hz
        refine u_X4_signatureOfPart_3 ?_; unfold cm_X4_signatureOfPart_3
        rw [nI_1]
        exact ih (x + 1) x5 z (by omega) hz
      have ad : ∀ (z z1 : ow_MS), I z → fr (fun g => g = 6005) z z1 → I z1 := fun z z1 h1 h3 => fr_tr h1 (fr_mono (fun g hg => Or.inr hg) h3)
      have c2 : ∀ t : Nat, t < 2 * T.1 → Tt (fun K k => c_X4_signatureOfPart vl K k 2 x2 x3 (nI m) x5 (nI x) 6000 4000 (nI t) z) Q := by
        intro t ht
        have hmt := mt_lt ht
        have v1 := (hv t ht).2.1
        have v2 := (hv (mt t) hmt).2.1
        have fc : ∀ s, s < 4 * T.1 → z.2.1 6001 s = nI (φ s) ∧ φ s < n := fun s hs => by
          rw [(hz 6001 (by omega)).2.1]
          exact hφ s hs
        have pv : ∀ v, z.2.1 4002 v = nI (T.2.2.1.2 v) := fun v => by
          rw [(hz 4002 (by omega)).2.1]
          exact hy.2.2.2.1 v
        obtain ⟨f1, f2⟩ := fc (2 * t) (by omega)
        obtain ⟨g1, g2⟩ := fc (2 * t + 1) (by omega)
        obtain ⟨j1, j2⟩ := fc (2 * T.2.2.1.2 t) (by omega)
        obtain ⟨k1, k2⟩ := fc (2 * T.2.2.1.2 (mt t)) (by omega)
        refine u_X4_signatureOfPart_2 ?_; unfold cm_X4_signatureOfPart_2
        rw [rn_mul2, mt_x (by omega), nI_1]
        refine w_crI cg_6001 rfl (by omega) f1 (w_crI cg_6003 rfl (by omega) rfl (w_if (fun _ => ?_) (fun _ => ?_)))
        · refine w_crI (len := 24) rfl rfl (by omega) (pv (mt t)) ?_
          rw [rn_mul2]
          refine w_crI cg_6001 rfl (by omega) k1 (w_crI cg_6004 rfl (by omega) rfl (w_crI cg_6004 rfl (by omega) rfl (w_crI (len := 12) rfl rfl (by omega) rfl (w_cs0 (tc_addAt hm8) (fun z1 h1 => c3 _ z1 (ad z z1 hz h1))))))
        · refine w_crI cg_6001 rfl (by omega) g1 (w_crI (len := 24) rfl rfl (by omega) (pv t) ?_)
          rw [rn_mul2]
          refine w_crI cg_6001 rfl (by omega) j1 (w_crI cg_6004 rfl (by omega) rfl (w_crI cg_6004 rfl (by omega) rfl (w_crI (len := 12) rfl rfl (by omega) rfl (w_cs0 (tc_addAt hm8) (fun z1 h1 => w_crI (len := 12) rfl rfl (by omega) rfl (c3 _ z1 (ad z z1 hz h1)))))))
      refine u_X4_signatureOfPart_1 ?_; unfold cm_X4_signatureOfPart_1
      rw [rn_mul2, nI_1]
      exact w_rdF ((hz 4008 (by omega)).1.trans hy.1) (w_leF (by omega) (by omega) (w_crI cg_4006 rfl (by omega) rfl (w_if (fun _ => w_crI (len := 12) rfl rfl (by omega) rfl (w_if (fun _ => c2 (2 * x + 1) (by omega)) (fun _ => c2 (2 * x) (by omega)))) (fun _ => c3 _ z hz))))
  refine e_X4_signatureOfPart ?_
  refine u_X4_signatureOfPart_0 ?_; unfold cm_X4_signatureOfPart_0
  refine w_cs1 (tc_numRows (x3 := x3) hy.1 hc h2 hn hφ) ?_
  rintro v1 z1 ⟨e1, -, f1⟩
  have e1 : v1 = nI (cntR y T.1 n φ x2 x3) := e1
  refine w_cs0 (tc_fillJ ch_6005 (by omega)) ?_
  rintro z2 ⟨-, f2⟩
  rw [e1, show nI (cntR y T.1 n φ x2 x3) - 1 = nI (cntR y T.1 n φ x2 x3 - 1) from pk_sub (b := 1) hR1, hm]
  exact c1 T.1 0 _ z2 (by omega) (fr_tr (fr_mono (fun g hg => Or.inl hg) f1) (fr_mono (fun g hg => Or.inr hg) f2))
end SP
