/-! signature, the class: a part, exactly -/
section XSGV
variable {vl : Nat → Nat} {y : ow_MS} {n P : Nat} {φ ψ : Nat → Nat} {w cf : Nat → Bool} {M : Nat → Int32}
/-- the colours of the part's faces are told by 0 and 1: x is κ -/
def coI9 (y : ow_MS) (c : Nat) (φ : Nat → Nat) (cf : Nat → Bool) (M : Nat → Int32) (p : Nat) (x : Int32) (κ : Bool) : Prop := ∀ s, s < 4 * c → M (s / 2) = nI p → (y.2.1 6003 (φ s) = x ↔ cf (φ s) = κ)
theorem cnt_kF {T : ow_NT} {p : Nat} {x : Int32} {κ : Bool} (h : fcD9 T.1 T.2.2.1 T.2.2.2 w n P M φ ψ cf) (hp : p < P) (hM : ∀ v, v < 2 * T.1 → y.2.1 4006 v = M v) (hx : coI9 y T.1 φ cf M p x κ) : ∀ f, f < n → snS φ (cdN y φ (nI p) x) (4 * T.1) f = qF9 ψ cf p κ f := by
  intro f hf
  have hP := h.2.2.2.2.2.2.2.2.2.2.2.2.2.2
  have key : snS φ (cdN y φ (nI p) x) (4 * T.1) f = true ↔ qF9 ψ cf p κ f = true := by
    rw [snS_t]
    constructor
    · rintro ⟨s, s1, s2, s3⟩
      obtain ⟨u1, u2⟩ := of_decide_eq_true s2
      rw [hM _ (by omega)] at u1
      have a := h.2.2.2.2.2.2.1 s s1
      rw [u1] at a
      have hl := h.2.2.2.2.2.1 _ (h.2.2.1 s s1)
      have e := nI_inj9 (by omega) (by omega) a
      have b := (hx s s1 u1).mp u2
      unfold qF9
      rw [← s3, decide_eq_true e.symm, b]
      simp
    · intro hq
      obtain ⟨v, v1, v2, v3⟩ := fc_of h hf hq
      obtain ⟨a1, a2, a3⟩ := ws_k (w := w) κ v
      have hM9 : M (ws9 w κ v / 2) = nI p := by
        rw [a2]
        exact of_decide_eq_true v2
      refine ⟨ws9 w κ v, by omega, decide_eq_true ⟨?_, ?_⟩, v3⟩
      · rw [hM _ (by omega)]
        exact hM9
      · refine (hx _ (by omega) hM9).mpr ?_
        rw [← h.2.2.2.2.1 _ (by omega)]
        exact a1
  cases e1 : snS φ (cdN y φ (nI p) x) (4 * T.1) f <;> cases e2 : qF9 ψ cf p κ f <;> simp_all
theorem te_sgPart {T : ow_NT} {p : Nat} {x3 : Int32} {κ : Bool} (hy : cAt y 4000 T) (h : fcD9 T.1 T.2.2.1 T.2.2.2 w n P M φ ψ cf) (hp : p < P) (hG : ∀ x, x < T.1 → T.2.2.2 x = 1 ∨ T.2.2.2 x = -1) (h2 : y.1 6002 = nI n) (hφ : ∀ s, s < 4 * T.1 → y.2.1 6001 s = nI (φ s) ∧ φ s < n) (hM : ∀ v, v < 2 * T.1 → y.2.1 4006 v = M v) (hx : coI9 y T.1 φ cf M p x3 κ) (hk9 : kF9 ψ cf n p κ ≤ 9) : Te (fun K => ce_X4_signatureOfPart vl K 6000 4000 (nI p) x3 y) (fun r => r.1 = iI (vlG9 T.1 T.2.2.1 T.2.2.2 w n M φ ψ cf p) ∧ fr spP y r.2) := by
  have hv := h.1
  have hw := h.2.1
  have hc : T.1 ≤ 12 := h.2.2.2.2.2.2.2.2.2.2.2.2.1
  have hn : n ≤ 48 := h.2.2.2.2.2.2.2.2.2.2.2.2.2.1
  have hP := h.2.2.2.2.2.2.2.2.2.2.2.2.2.2
  have ho := h.2.2.2.1
  have cnt := cnt_kF h hp hM hx
  have ck : nF (snS φ (cdN y φ (nI p) x3) (4 * T.1)) n = kF9 ψ cf n p κ := nF_cg n cnt
  have k1 := kF_pos h hp κ
  let Q : Int32 × ow_MS → Prop := fun r => r.1 = iI (vlG9 T.1 T.2.2.1 T.2.2.2 w n M φ ψ cf p) ∧ fr spP y r.2
  refine e_X4_signatureOfPart ?_
  refine u_X4_signatureOfPart_0 ?_; unfold cm_X4_signatureOfPart_0
  refine w_cs1 (te_numRows (x3 := x3) (x2 := nI p) hy.1 hc h2 hn hφ) ?_
  rintro v1 z1 ⟨e1, r1, f1, r2⟩
  have e1 : v1 = nI (kF9 ψ cf n p κ) := by rw [← ck]; exact e1
  have r1 : ∀ f, f < n → (z1.2.1 6004 f = -1 ∧ snS φ (cdN y φ (nI p) x3) (4 * T.1) f = false ∨ (∃ k, k < nF (snS φ (cdN y φ (nI p) x3) (4 * T.1)) n ∧ z1.2.1 6004 f = nI k) ∧ snS φ (cdN y φ (nI p) x3) (4 * T.1) f = true) := r1
  have r2 : ∀ j, j < nF (snS φ (cdN y φ (nI p) x3) (4 * T.1)) n → ∃ f, f < n ∧ snS φ (cdN y φ (nI p) x3) (4 * T.1) f = true ∧ z1.2.1 6004 f = nI j := r2
  have f1 : fr (fun g => g = 6004) y z1 := f1
  rw [ck] at r1 r2
  -- the rows as a function
  obtain ⟨ρ, hρ⟩ : ∃ ρ : Nat → Nat, ∀ f, f < n → qF9 ψ cf p κ f = true → z1.2.1 6004 f = nI (ρ f) ∧ ρ f < kF9 ψ cf n p κ := by
    refine ⟨fun f => (z1.2.1 6004 f).toNatClampNeg, fun f hf hq => ?_⟩
    rcases r1 f hf with ⟨a1, a2⟩ | ⟨⟨k, a1, a2⟩, a3⟩
    · rw [cnt f hf, hq] at a2
      exact absurd a2 (by decide)
    · dsimp only
      rw [a2, nI_clamp (by omega)]
      exact ⟨rfl, a1⟩
  have hR : nbG9 T.1 T.2.2.1 T.2.2.2 w (qP9 M p) κ (fun v => ρ (φ (ws9 w κ v))) (kF9 ψ cf n p κ) := by
    refine nb_of hv hw ho (fun v hv1 hq => ?_) (fun j hj => ?_)
    · obtain ⟨a, b⟩ := fc_ws h hp (κ := κ) hv1 hq
      exact (hρ _ a b).2
    · obtain ⟨f, a1, a2, a3⟩ := r2 j hj
      rw [cnt f a1] at a2
      obtain ⟨v, b1, b2, b3⟩ := fc_of h a1 a2
      refine ⟨v, b1, b2, ?_⟩
      rw [b3]
      have := (hρ f a1 a2).1
      have hl := (hρ f a1 a2).2
      rw [a3] at this
      exact (nI_inj9 (by omega) (by omega) this).symm
  have val := vl_all h hp hR
  generalize hRR : (fun v => ρ (φ (ws9 w κ v))) = R at hR val
  have hRv : ∀ v, R v = ρ (φ (ws9 w κ v)) := fun v => by rw [← hRR]
  obtain ⟨E, hE⟩ := isZ_E (M := mtZ9 T.1 T.2.2.1 T.2.2.2 w (qP9 M p) κ R) (kF9 ψ cf n p κ - 1)
  have hb := mt_bd hc hE
  refine w_cs0 (tc_fillJ ch_6005 (by omega)) ?_
  rintro z2 ⟨g2, f2⟩
  have f2 : fr (fun g => g = 6005) z1 z2 := f2
  rw [e1, show nI (kF9 ψ cf n p κ) - 1 = nI (kF9 ψ cf n p κ - 1) from pk_sub (b := 1) k1]
  generalize hm : kF9 ψ cf n p κ - 1 = m at hE
  have hm8 : m ≤ 8 := by omega
  have I0 : fr (fun g => g = 6004 ∨ g = 6005) y z2 := fr_tr (fr_mono (fun g hg => Or.inl hg) f1) (fr_mono (fun g hg => Or.inr hg) f2)
  have rowz : ∀ z, fr (fun g => g = 6005) z1 z → ∀ f, f < n → qF9 ψ cf p κ f = true → z.2.1 6004 f = nI (ρ f) := fun z hf f hf1 hq => by
    rw [(hf 6004 (by omega)).2.1]
    exact (hρ f hf1 hq).1
  have c1 : ∀ (d x : Nat) (x5 : Int32) (z : ow_MS), x + d = T.1 → fr (fun g => g = 6005) z1 z → x5 = iI (crG9 T.2.2.2 w (qP9 M p) κ x) → mtA9 z m (mtZ9 x T.2.2.1 T.2.2.2 w (qP9 M p) κ R) → Tt (fun K k => c_X4_signatureOfPart vl K k 1 (nI p) x3 (nI m) x5 (nI x) 6000 4000 0 z) Q := by
    intro d
    induction d with
    | zero =>
      intro x x5 z hxd hz h5 hA
      have hxd : x = T.1 := by omega
      have zy : fr (fun g => g = 6004 ∨ g = 6005) y z := fr_tr (fr_mono (fun g hg => Or.inl hg) f1) (fr_mono (fun g hg => Or.inr hg) hz)
      rw [hxd] at hA h5
      refine u_X4_signatureOfPart_1 ?_; unfold cm_X4_signatureOfPart_1
      refine w_rdF ((zy 4008 (by omega)).1.trans hy.1) (w_leT (by omega) (by omega) (w_cs1 (te_eigen hm8 hA hE (fun k hk => hb k (by omega))) ?_))
      rintro v z1 ⟨a1, f3⟩
      have a1 : v = _ := a1
      refine w_some ⟨?_, fr_tr (fr_mono (fun g hg => by unfold spP; rcases hg with h | h; exact Or.inl h; exact Or.inr (Or.inl h)) zy) (fr_mono (fun g hg => Or.inr (Or.inr hg)) f3)⟩
      show v - x5 = _
      rw [a1, h5, iI_sub, mtZ_cs, ← val]
      unfold svG9
      rw [hm]
    | succ d ih =>
      intro x x5 z hxd hz h5 hA
      have hx1 : x < T.1 := by omega
      have zy : fr (fun g => g = 6004 ∨ g = 6005) y z := fr_tr (fr_mono (fun g hg => Or.inl hg) f1) (fr_mono (fun g hg => Or.inr hg) hz)
      have c3 : ∀ (x5 : Int32) (z : ow_MS), fr (fun g => g = 6005) z1 z → x5 = iI (crG9 T.2.2.2 w (qP9 M p) κ (x + 1)) → mtA9 z m (mtZ9 (x + 1) T.2.2.1 T.2.2.2 w (qP9 M p) κ R) → Tt (fun K k => c_X4_signatureOfPart vl K k 3 (nI p) x3 (nI m) x5 (nI x) 6000 4000 0 z) Q := by
        intro x5 z hz h5 hA
        refine u_X4_signatureOfPart_3 ?_; unfold cm_X4_signatureOfPart_3
        rw [nI_1]
        exact ih (x + 1) x5 z (by omega) hz h5 hA
      have fcz : ∀ s, s < 4 * T.1 → z.2.1 6001 s = nI (φ s) ∧ φ s < n := fun s hs => by
        rw [(zy 6001 (by omega)).2.1]
        exact hφ s hs
      have pv : ∀ v, z.2.1 4002 v = nI (T.2.2.1.2 v) := fun v => by
        rw [(zy 4002 (by omega)).2.1]
        exact hy.2.2.2.1 v
      have sgn : z.2.1 4003 x = T.2.2.2 x := by
        rw [(zy 4003 (by omega)).2.1]
        exact hy.2.2.2.2 x
      have r6 : z.2.1 4006 (2 * x) = M (2 * x) := by
        rw [(zy 4006 (by omega)).2.1]
        exact hM _ (by omega)
      have sI : T.2.2.2 x = iI (sgI9 T.2.2.2 x) := by
        unfold sgI9
        rcases hG x hx1 with h9 | h9 <;> rw [h9] <;> rfl
      have sP : sgI9 T.2.2.2 x = 1 ∨ sgI9 T.2.2.2 x = -1 := by
        unfold sgI9
        split
        · exact Or.inl rfl
        · exact Or.inr rfl
      -- in the part
      have c2 : qP9 M p (2 * x) = true → Tt (fun K k => c_X4_signatureOfPart vl K k 2 (nI p) x3 (nI m) x5 (nI x) 6000 4000 (nI (fV9 T.2.2.2 x)) z) Q := by
        intro hxq
        have ht := fV_lt (G := T.2.2.2) hx1
        have hmt := mt_lt ht
        have v1 := (hv _ ht).2.1
        have v2 := (hv _ hmt).2.1
        obtain ⟨q1, q2⟩ := fV_q (G := T.2.2.2) (ptQ_of h p) hx1
        have qf : qP9 M p (fV9 T.2.2.2 x) = true := by rw [q1]; exact hxq
        have qpf : qP9 M p (T.2.2.1.2 (fV9 T.2.2.2 x)) = true := by
          have := ((ptQ_of h p).1 _ v1).1
          rw [(hv _ ht).2.2.2] at this
          rw [← this]
          exact qf
        obtain ⟨o1, o2, o3, o4⟩ := on4 (G := T.2.2.2) hv hx1
        have p2 := ho (2 * T.2.2.1.2 (mt (fV9 T.2.2.2 x))) (by omega)
        rw [o2] at p2
        have Mf : M (2 * fV9 T.2.2.2 x / 2) = nI p := by
          rw [show 2 * fV9 T.2.2.2 x / 2 = fV9 T.2.2.2 x by omega]
          exact of_decide_eq_true qf
        have cN := hx (2 * fV9 T.2.2.2 x) (by omega) Mf
        have kN := h.2.2.2.2.1 (2 * fV9 T.2.2.2 x) (by omega)
        have kN2 : kS w (2 * fV9 T.2.2.2 x) = w (fV9 T.2.2.2 x) := by
          unfold kS
          rw [if_pos (by omega), show 2 * fV9 T.2.2.2 x / 2 = fV9 T.2.2.2 x by omega]
        rw [← kN, kN2] at cN
        have wpf : w (T.2.2.1.2 (fV9 T.2.2.2 x)) = !w (fV9 T.2.2.2 x) := by
          have := (hw _ v1).1
          rw [(hv _ ht).2.2.2] at this
          rw [this, Bool.not_not]
        obtain ⟨A1, A2⟩ := fc_ws h hp (κ := κ) ht qf
        obtain ⟨B1, B2⟩ := fc_ws h hp (κ := κ) v1 qpf
        have RA := rowz z hz _ A1 A2
        have RB := rowz z hz _ B1 B2
        have lA := (hρ _ A1 A2).2
        have lB := (hρ _ B1 B2).2
        obtain ⟨g1, g2⟩ := fcz (2 * fV9 T.2.2.2 x) (by omega)
        obtain ⟨g3, g4⟩ := fcz (2 * fV9 T.2.2.2 x + 1) (by omega)
        obtain ⟨g5, g6⟩ := fcz (2 * T.2.2.1.2 (fV9 T.2.2.2 x)) (by omega)
        obtain ⟨g7, g8⟩ := fcz (2 * T.2.2.1.2 (mt (fV9 T.2.2.2 x))) (by omega)
        have col : z.2.1 6003 (φ (2 * fV9 T.2.2.2 x)) = y.2.1 6003 (φ (2 * fV9 T.2.2.2 x)) := by rw [(zy 6003 (by omega)).2.1]
        -- the matrix with this crossing
        have nxt : ∀ z3, mtA9 z3 m (fun i j => mtZ9 x T.2.2.1 T.2.2.2 w (qP9 M p) κ R i j + tI9 T.2.2.2 w κ x * (zd9 i (R (fV9 T.2.2.2 x)) - zd9 i (R (T.2.2.1.2 (fV9 T.2.2.2 x)))) * (zd9 j (R (fV9 T.2.2.2 x)) - zd9 j (R (T.2.2.1.2 (fV9 T.2.2.2 x))))) → mtA9 z3 m (mtZ9 (x + 1) T.2.2.1 T.2.2.2 w (qP9 M p) κ R) := fun z3 h3 i j hi hj => by
          rw [h3 i j hi hj]
          refine congrArg Int64.ofInt ?_
          show _ = zS9 (fun x => if qP9 M p (2 * x) = true then tI9 T.2.2.2 w κ x * rwZ9 T.2.2.1 T.2.2.2 R x i * rwZ9 T.2.2.1 T.2.2.2 R x j else 0) x + (if qP9 M p (2 * x) = true then tI9 T.2.2.2 w κ x * rwZ9 T.2.2.1 T.2.2.2 R x i * rwZ9 T.2.2.1 T.2.2.2 R x j else 0)
          rw [if_pos hxq]
          rfl
        have crs : crG9 T.2.2.2 w (qP9 M p) κ (x + 1) = crG9 T.2.2.2 w (qP9 M p) κ x + (if w (fV9 T.2.2.2 x) = κ then 0 else sgI9 T.2.2.2 x) := by
          show crG9 T.2.2.2 w (qP9 M p) κ x + (if qP9 M p (2 * x) = true then (if w (fV9 T.2.2.2 x) = κ then 0 else sgI9 T.2.2.2 x) else 0) = _
          rw [if_pos hxq]
        refine u_X4_signatureOfPart_2 ?_; unfold cm_X4_signatureOfPart_2
        rw [rn_mul2, mt_x (by omega), nI_1]
        refine w_crI cg_6001 rfl (by omega) g1 (w_crI cg_6003 rfl (by omega) col (w_if (fun hcol => ?_) (fun hcol => ?_)))
        · have hwf : w (fV9 T.2.2.2 x) = κ := cN.mp hcol
          have wa : ws9 w κ (fV9 T.2.2.2 x) = 2 * fV9 T.2.2.2 x := if_pos hwf
          have wb : ws9 w κ (T.2.2.1.2 (fV9 T.2.2.2 x)) = 2 * T.2.2.1.2 (fV9 T.2.2.2 x) + 1 := if_neg (by rw [wpf, hwf]; cases κ <;> decide)
          rw [wa] at RA lA
          rw [wb, p2] at RB lB
          have Ra : R (fV9 T.2.2.2 x) = ρ (φ (2 * fV9 T.2.2.2 x)) := by rw [hRv, wa]
          have Rb : R (T.2.2.1.2 (fV9 T.2.2.2 x)) = ρ (φ (2 * T.2.2.1.2 (mt (fV9 T.2.2.2 x)))) := by rw [hRv, wb, p2]
          refine w_crI (len := 24) rfl rfl (by omega) (pv (mt (fV9 T.2.2.2 x))) ?_
          rw [rn_mul2]
          refine w_crI cg_6001 rfl (by omega) g7 (w_crI cg_6004 rfl (by omega) RA (w_crI cg_6004 rfl (by omega) RB (w_crI (len := 12) rfl rfl (by omega) sgn ?_)))
          have tt : -T.2.2.2 x = iI (tI9 T.2.2.2 w κ x) := by
            unfold tI9
            rw [if_pos hwf]
            unfold sgI9
            rcases hG x hx1 with h9 | h9 <;> rw [h9] <;> rfl
          rw [tt]
          refine w_cs0 (te_addAt hm8 (by omega) (by omega) (tI_pm x) hA) (fun z3 h3 => ?_)
          obtain ⟨h3, h4⟩ := h3
          rw [← Ra, ← Rb] at h4
          refine c3 _ z3 (fr_tr hz h3) ?_ (nxt z3 h4)
          rw [h5, crs, if_pos hwf, Int.add_zero]
        · have hwf : w (fV9 T.2.2.2 x) = !κ := bnot (fun h9 => hcol (cN.mpr h9))
          have wa : ws9 w κ (fV9 T.2.2.2 x) = 2 * fV9 T.2.2.2 x + 1 := if_neg (by rw [hwf]; cases κ <;> decide)
          have wb : ws9 w κ (T.2.2.1.2 (fV9 T.2.2.2 x)) = 2 * T.2.2.1.2 (fV9 T.2.2.2 x) := if_pos (by rw [wpf, hwf, Bool.not_not])
          rw [wa] at RA lA
          rw [wb] at RB lB
          have Ra : R (fV9 T.2.2.2 x) = ρ (φ (2 * fV9 T.2.2.2 x + 1)) := by rw [hRv, wa]
          have Rb : R (T.2.2.1.2 (fV9 T.2.2.2 x)) = ρ (φ (2 * T.2.2.1.2 (fV9 T.2.2.2 x))) := by rw [hRv, wb]
          refine w_crI cg_6001 rfl (by omega) g3 (w_crI (len := 24) rfl rfl (by omega) (pv (fV9 T.2.2.2 x)) ?_)
          rw [rn_mul2]
          refine w_crI cg_6001 rfl (by omega) g5 (w_crI cg_6004 rfl (by omega) RA (w_crI cg_6004 rfl (by omega) RB (w_crI (len := 12) rfl rfl (by omega) sgn ?_)))
          have hne : ¬ w (fV9 T.2.2.2 x) = κ := by rw [hwf]; cases κ <;> decide
          have tt : T.2.2.2 x = iI (tI9 T.2.2.2 w κ x) := by
            unfold tI9
            rw [if_neg hne]
            exact sI
          rw [tt]
          refine w_cs0 (te_addAt hm8 (by omega) (by omega) (tI_pm x) hA) (fun z3 h3 => ?_)
          obtain ⟨h3, h4⟩ := h3
          rw [← Ra, ← Rb] at h4
          have sgn3 : z3.2.1 4003 x = T.2.2.2 x := by
            rw [(h3 4003 (by omega)).2.1]
            exact sgn
          refine w_crI (len := 12) rfl rfl (by omega) sgn3 (c3 _ z3 (fr_tr hz h3) ?_ (nxt z3 h4))
          rw [h5, crs, if_neg hne, ← iI_add, ← sI]
      refine u_X4_signatureOfPart_1 ?_; unfold cm_X4_signatureOfPart_1
      rw [rn_mul2, nI_1]
      refine w_rdF ((zy 4008 (by omega)).1.trans hy.1) (w_leF (by omega) (by omega) (w_crI cg_4006 rfl (by omega) r6 (w_if (fun hq => w_crI (len := 12) rfl rfl (by omega) sgn (w_if (fun hs => ?_) (fun hs => ?_))) (fun hq => ?_))))
      · have e9 : fV9 T.2.2.2 x = 2 * x + 1 := if_neg (fun h9 => by
          rcases hG x hx1 with h8 | h8 <;> rw [h8] at hs h9
          · exact absurd hs (by decide)
          · exact absurd h9 (by decide))
        rw [← e9]
        exact c2 (decide_eq_true hq)
      · have e9 : fV9 T.2.2.2 x = 2 * x := if_pos (by
          rcases hG x hx1 with h8 | h8 <;> rw [h8] at hs ⊢
          · decide
          · exact absurd (by decide) hs)
        rw [← e9]
        exact c2 (decide_eq_true hq)
      · have hxq : ¬ qP9 M p (2 * x) = true := fun h9 => hq (of_decide_eq_true h9)
        refine c3 _ z hz ?_ (fun i j hi hj => ?_)
        · rw [h5]
          show _ = iI (crG9 T.2.2.2 w (qP9 M p) κ x + (if qP9 M p (2 * x) = true then (if w (fV9 T.2.2.2 x) = κ then 0 else sgI9 T.2.2.2 x) else 0))
          rw [if_neg hxq, Int.add_zero]
        · rw [hA i j hi hj]
          refine congrArg Int64.ofInt ?_
          show _ = zS9 (fun x => if qP9 M p (2 * x) = true then tI9 T.2.2.2 w κ x * rwZ9 T.2.2.1 T.2.2.2 R x i * rwZ9 T.2.2.1 T.2.2.2 R x j else 0) x + (if qP9 M p (2 * x) = true then tI9 T.2.2.2 w κ x * rwZ9 T.2.2.1 T.2.2.2 R x i * rwZ9 T.2.2.1 T.2.2.2 R x j else 0)
          rw [if_neg hxq, Int.add_zero]
          rfl
  refine c1 T.1 0 _ z2 (by omega) f2 rfl (fun i j hi hj => ?_)
  exact g2 (8 * i + j) (by omega)
end XSGV
