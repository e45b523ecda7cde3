/-! exact calls: visit, alike, of both -/
/-- a call that answers and changes nothing kept -/
def rOk (X : (Nat → Nat → Int32) → Prop) (z : ow_MS) (r : Int32 × ow_MS) : Prop := gI X r.2 ∧ r.2.1 1 = 0 ∧ fr rPs z r.2
def in9 (x : Int32) (n : Nat) : Prop := ∃ k, k < n ∧ x = nI k
theorem in9_iff {x : Int32} {n : Nat} (hn : n < 2 ^ 31) : in9 x n ↔ ¬ x < 0 ∧ x < nI n := by
  constructor
  · rintro ⟨k, hk, rfl⟩
    exact ⟨nI_pos (by omega), (nI_ltI (by omega) hn).mpr hk⟩
  · rintro ⟨h0, h1⟩
    obtain ⟨k, k31, rfl⟩ := nI_of h0
    exact ⟨k, (nI_ltI k31 hn).mp h1, rfl⟩
theorem in9_le {x : Int32} {n : Nat} (hn : n + 1 < 2 ^ 31) : in9 x (n + 1) ↔ ¬ x < 0 ∧ x ≤ nI n := by
  constructor
  · rintro ⟨k, hk, rfl⟩
    exact ⟨nI_pos (by omega), (nI_leI (by omega) (by omega)).mpr (by omega)⟩
  · rintro ⟨h0, h1⟩
    obtain ⟨k, k31, rfl⟩ := nI_of h0
    exact ⟨k, by have := (nI_leI k31 (by omega)).mp h1; omega, rfl⟩
def visR (A : rn_L) (sg : Nat → Bool) (v k : Nat) : Int32 := if k = 0 then nI (rn_c A v) else if k = 1 then nI (crs A v) else if k = 2 then nI (uns A v) else if sg (crs A v) then -1 else 1
section XV
variable {X : (Nat → Nat → Int32) → Prop} {z : ow_MS} {St : plT}
theorem xq_visit {d i what : Int32} (h : gI X z) (hR : relR z St) : Te (fun K => qe_X13_visit K d i what z) (fun r => rFl X z 1 r ∧ (∀ e, e < 40 → d = nI e → St e = none) ∨ ∃ e A sg, e < 40 ∧ d = nI e ∧ St e = some (A, sg) ∧ (rFl X z 1 r ∧ ¬ in9 i A.flatten.length ∨ ∃ v, v < A.flatten.length ∧ i = nI v ∧ (rFl X z 2 r ∧ ¬ in9 what 4 ∨ rOk X z r ∧ ∃ k, k < 4 ∧ what = nI k ∧ r.1 = visR A sg v k))) := by
  let Q : Int32 × ow_MS → Prop := fun r => rFl X z 1 r ∧ (∀ e, e < 40 → d = nI e → St e = none) ∨ ∃ e A sg, e < 40 ∧ d = nI e ∧ St e = some (A, sg) ∧ (rFl X z 1 r ∧ ¬ in9 i A.flatten.length ∨ ∃ v, v < A.flatten.length ∧ i = nI v ∧ (rFl X z 2 r ∧ ¬ in9 what 4 ∨ rOk X z r ∧ ∃ k, k < 4 ∧ what = nI k ∧ r.1 = visR A sg v k))
  have h1 := gI_1 (c := 0) h
  have hR1 := relR_1 (c := 0) hR
  refine e_X13_visit ?_
  refine u_X13_visit_0 ?_; unfold qm_X13_visit_0
  refine w_wrF (w_hasX hR1 (fun h0 => w_ifT rfl (w_mono (w_failX h1 fr_1) (fun r hr => Or.inl ⟨hr, h0⟩))) (fun e A sg he hx hs hv hne => w_ifF (by decide) ?_))
  subst hx
  refine w_cs0 (to_open pn1 he hv) (fun z2 ⟨o1, f1⟩ => ?_)
  have h2 : gI X z2 := gI_net pn1 f1 (fun g hg => by omega) h1
  have hl := o1.len
  have f02 : fr rPs z z2 := fr_tr fr_1 (fr_mono (fun g hg => Or.inr (by unfold rSc; omega)) f1)
  have z21 : z2.1 1 = 0 := by rw [(f1 1 (by omega)).1]; exact po_usF_at
  have fin : ∀ {r}, (rFl X z 1 r ∧ ¬ in9 i A.flatten.length ∨ ∃ v, v < A.flatten.length ∧ i = nI v ∧ (rFl X z 2 r ∧ ¬ in9 what 4 ∨ rOk X z r ∧ ∃ k, k < 4 ∧ what = nI k ∧ r.1 = visR A sg v k)) → Q r := fun hr => Or.inr ⟨e, A, sg, he, rfl, hs, hr⟩
  have c1 : ¬ in9 i A.flatten.length → Tt (fun K k => q_X13_visit K k 1 (nI e) i what z2) Q := by
    intro hno
    refine u_X13_visit_1 ?_; unfold qm_X13_visit_1
    exact w_mono (w_failX (k := 1) h2 f02) (fun r hr => fin (Or.inl ⟨hr, hno⟩))
  have hi9 := in9_iff (x := i) (n := A.flatten.length) (by omega)
  refine w_if (fun h9 => c1 (fun h8 => (hi9.mp h8).1 h9)) (fun h0 => w_rdF o1.1.V (w_if (fun h9 => ?_) (fun h9 => c1 (fun h8 => h9 (hi9.mp h8).2))))
  obtain ⟨v, hv31, rfl⟩ := nI_of h0
  have hvl : v < A.flatten.length := (nI_ltI hv31 (by omega)).mp h9
  obtain ⟨x1, x2, x3⟩ := o1.cx hvl
  have ok : ∀ {a : Int32} (k : Nat), k < 4 → what = nI k → a = visR A sg v k → Q (a, z2) := fun k k1 k2 k3 => fin (Or.inr ⟨v, hvl, rfl, Or.inr ⟨⟨h2, z21, f02⟩, k, k1, k2, k3⟩⟩)
  have key : ∀ k : Nat, k < 4 → what.toInt = (k : Int) → what = nI k := by
    intro k hk e9
    refine Int32.toInt_inj.mp ?_
    rw [e9, nI_toInt (by omega)]
  have no4 : what.toInt < 0 ∨ 3 < what.toInt → ¬ in9 what 4 := fun h8 ⟨k, k1, k2⟩ => by
    rw [k2, nI_toInt (by omega)] at h8
    omega
  refine w_if (fun h8 => w_mono (w_failX (k := 2) h2 f02) (fun r hr => fin (Or.inr ⟨v, hvl, rfl, Or.inl ⟨hr, no4 h8⟩⟩))) (fun hw => w_if (fun q => w_rdI (pl8 pn1) rfl (by omega) (lk_c o1.1 hvl) (w_some (ok 0 (by omega) q rfl))) (fun w0 => w_if (fun q => w_rdI (pl4 pn1) rfl (by omega) (lk_cu o1.1 hvl).1 (w_some (ok 1 (by omega) q rfl))) (fun w1 => w_if (fun q => w_rdI (pl5 pn1) rfl (by omega) (lk_cu o1.1 hvl).2 (w_some (ok 2 (by omega) q rfl))) (fun w2 => w_if (fun q => w_rdI (pl4 pn1) rfl (by omega) (lk_cu o1.1 hvl).1 (w_rdI (pl6 pn1) rfl (by omega) (o1.2.1 _ (vAt_mem hvl)) (w_some (ok 3 (by omega) q rfl)))) (fun w3 => ?_)))))
  exfalso
  have hge : 0 ≤ what.toInt := by omega
  have hle : what.toInt ≤ 3 := by omega
  obtain ⟨k, hk⟩ := Int.eq_ofNat_of_zero_le hge
  have hk4 : k < 4 := by omega
  have hwk := key k hk4 hk
  have : k = 0 ∨ k = 1 ∨ k = 2 ∨ k = 3 := by omega
  rcases this with e9 | e9 | e9 | e9 <;> subst e9
  · exact w0 hwk
  · exact w1 hwk
  · exact w2 hwk
  · exact w3 hwk
end XV
section XVC
variable {vl : Nat → Nat} {y : ow_MS} {St : plT} {x x' : Int32}
theorem iso_sg1 {A : rn_L} {sg : Nat → Bool} {f : Nat → Nat} {T : ow_NT} (h : isoV A sg f T) (hp : pm1 T) {p : vT} (hpA : p ∈ A.flatten) : T.2.2.2 (f p.1) = if sg p.1 then -1 else 1 := by
  have hs := h.1.2.2.2.2.2.2.1 p hpA
  rcases hp _ (h.1.2.2.2.1 p hpA) with e | e
  · rw [e] at hs ⊢
    rw [if_neg (fun h9 => absurd (hs.mpr h9) (by decide))]
  · rw [e] at hs ⊢
    rw [if_pos (hs.mp (by decide))]
theorem xc_visit {x3 : Int32} (hN : gN y) (hC : relC y St) (hS : okS St) : Te (fun K => ce_X11_visit vl K 0 x x' x3 y) (fun r => gN r.2.2 ∧ fr uP y r.2.2 ∧ relC r.2.2 St ∧ (r.1 = 1 ∧ (∀ e, e < 40 → x = nI e → St e = none) ∨ ∃ e A sg, e < 40 ∧ x = nI e ∧ St e = some (A, sg) ∧ (r.1 = 1 ∧ ¬ in9 x' A.flatten.length ∨ ∃ v, v < A.flatten.length ∧ x' = nI v ∧ (r.1 = 2 ∧ ¬ in9 x3 4 ∨ r.1 = 0 ∧ ∃ k, k < 4 ∧ x3 = nI k ∧ r.2.1 = visR A sg v k)))) := by
  refine e_X11_visit ?_; unfold cm_X11_visit_0
  refine w_tc0 (xc_need hN.1 hC hS) ?_ ?_
  · rintro y1 ⟨h1, rfl⟩
    rcases h1 with h1 | ⟨-, d, A, sg, c, hd, rfl, hSt, hs, hA, hne, hpl⟩
    · exact absurd (show (0 : Nat) = 1 from h1.1) (by decide)
    · have hc12 := hA.2.2.2.1
      have hl := okF_len hA.1
      have e3 : y1.2.1 1003 d = nI c := by
        have := hs.1
        rw [(okL_c (sg := sg) hA).1] at this
        exact this
      have hi9 := in9_iff (x := x') (n := A.flatten.length) (by omega)
      have h39 := in9_le (x := x3) (n := 3) (by omega)
      refine w_if (fun e => w_some ⟨hN, fr_rf, hC, Or.inr ⟨d, A, sg, hd, rfl, hSt, Or.inl ⟨rfl, fun h8 => (hi9.mp h8).1 e⟩⟩⟩) (fun e0 => ?_)
      obtain ⟨v, v31, rfl⟩ := nI_of e0
      refine w_crI (tH_3 ch_1000) rfl hd e3 ?_
      rw [show (2 : Int32) * nI c = nI (2 * c) from pk_mul 2 _]
      refine w_lt v31 (by omega) (fun hvc => ?_) (fun h9 => w_some ⟨hN, fr_rf, hC, Or.inr ⟨d, A, sg, hd, rfl, hSt, Or.inl ⟨rfl, fun ⟨k, k1, k2⟩ => ?_⟩⟩⟩)
      rotate_left
      · have := nI_inj9 (a := v) (b := k) (by omega) (by omega) k2
        omega
      have hvl : v < A.flatten.length := by omega
      refine w_if (fun e => w_some ⟨hN, fr_rf, hC, Or.inr ⟨d, A, sg, hd, rfl, hSt, Or.inr ⟨v, hvl, rfl, Or.inl ⟨rfl, fun h8 => (h39.mp h8).1 e⟩⟩⟩⟩) (fun f0 => w_if (fun f3 => ?_) (fun e => w_some ⟨hN, fr_rf, hC, Or.inr ⟨d, A, sg, hd, rfl, hSt, Or.inr ⟨v, hvl, rfl, Or.inl ⟨rfl, fun h8 => e (h39.mp h8).2⟩⟩⟩⟩))
      refine w_cs0 (xc_ld hN hd hs hA hpl) ?_
      rintro y3 ⟨hN3, g3, T, hT, hT1, hV, hpm, hTp⟩
      have g3u : fr uP y1 y3 := fr_mono (fun g hg => by unfold cL at hg; unfold uP; omega) g3
      have hC3 : relC y3 St := relC_fr g3 (fun q hq h9 => by unfold cW at hq; unfold cL at h9; omega) hC
      have hlt := lbv_lt hT.2.1 hvl
      have hhf := lbv_hf hT.2.1 hvl
      have hL24 : lb (vAt A v) < 24 := by
        have : lb (vAt A v) < 2 * T.1 := hlt
        omega
      have hx6 := five f0 (Int32.le_trans f3 (by decide))
      refine w_crI (nH_4 nH4) rfl (by omega) (hT.2.2.2.1 v _ (vAt_of hvl)) ?_
      rw [shr1v ⟨lb (vAt A v), hL24⟩, an1_c ⟨lb (vAt A v), hL24⟩]
      have e1 : lb (vAt A v) / 2 = crs A v := hhf.1
      have e2 : lb (vAt A v) % 2 = uns A v := hhf.2
      dsimp only
      rw [e1, e2]
      have hcr : crs A v < 12 := by omega
      have hsg : T.2.2.2 (crs A v) = if sg (crs A v) then -1 else 1 := iso_sg1 hV hpm (vAt_mem hvl)
      have fin : ∀ (r : Int32) (k : Nat), k < 4 → x3 = nI k → r = visR A sg v k → Tt (fun _ _ => some ((0 : Nat), r, y3)) (fun r => gN r.2.2 ∧ fr uP y1 r.2.2 ∧ relC r.2.2 St ∧ (r.1 = 1 ∧ (∀ e, e < 40 → nI d = nI e → St e = none) ∨ ∃ e A sg, e < 40 ∧ nI d = nI e ∧ St e = some (A, sg) ∧ (r.1 = 1 ∧ ¬ in9 (nI v) A.flatten.length ∨ ∃ w, w < A.flatten.length ∧ nI v = nI w ∧ (r.1 = 2 ∧ ¬ in9 x3 4 ∨ r.1 = 0 ∧ ∃ k, k < 4 ∧ x3 = nI k ∧ r.2.1 = visR A sg w k)))) := fun r k k1 k2 k3 => w_some ⟨hN3, g3u, hC3, Or.inr ⟨d, A, sg, hd, rfl, hSt, Or.inr ⟨v, hvl, rfl, Or.inr ⟨rfl, k, k1, k2, k3⟩⟩⟩⟩
      refine w_if (fun e => ?_) (fun e => ?_)
      · have hx3 : x3 = 3 := by
          rcases hx6 with rfl | rfl | rfl | rfl | rfl | rfl
          · exact absurd e (by decide)
          · exact absurd e (by decide)
          · exact absurd e (by decide)
          · rfl
          · exact absurd f3 (by decide)
          · exact absurd f3 (by decide)
        subst hx3
        exact w_crI (nH_3 nH4) rfl hcr (hT.1.2.2.2.2 _) (fin _ 3 (by omega) rfl hsg)
      · refine w_if (fun q => ?_) (fun n0 => w_if (fun q => ?_) (fun n1 => w_if (fun q => ?_) (fun n2 => ?_)))
        · subst q
          exact w_crI (nH_5 nH4) rfl hL24 (hT.2.2.2.2.1 v hvl) (fin _ 0 (by omega) rfl rfl)
        · subst q
          exact fin _ 1 (by omega) rfl rfl
        · subst q
          exact fin _ 2 (by omega) rfl rfl
        · exfalso
          rcases hx6 with h | h | h | h | h | h
          · exact n0 h
          · exact n1 h
          · exact n2 h
          · rw [h] at e
            exact e (by decide)
          · rw [h] at f3
            exact absurd f3 (by decide)
          · rw [h] at f3
            exact absurd f3 (by decide)
  · rintro a y1 ha ⟨h1, rfl⟩
    rcases h1 with h1 | h1
    · exact w_some ⟨hN, fr_rf, hC, Or.inl h1⟩
    · exact absurd h1.1 ha
end XVC
