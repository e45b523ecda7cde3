-- CHAIN: the reference's states and places, exactly (made by tools/mkcid.py)
def stX (y : ow_MS) (A : rn_L) (sg : Nat → Bool) (c : Nat) : Prop := (∀ s, s < 2 ^ c → y.2.1 82 s = nI (LcN A sg s)) ∧ (∀ s, s ≤ 2 ^ c → y.2.1 83 s = nI (bsN A sg s)) ∧ ∀ s g, s < 2 ^ c → g < A.flatten.length → y.2.1 81 (32 * s + g) = nI (lbR A sg s g)
section XCK3
variable {z : ow_MS}
theorem lb_LcN {A : rn_L} {sg : Nat → Bool} {s v : Nat} (hv : v < A.flatten.length) : lbR A sg s v < LcN A sg s := by
  obtain ⟨r1, r2⟩ := rt_in (lpA_dn (A := A) (sg := sg) (st := nI s) A.flatten.length) v
  have := rts_lt r1 (show rt (lpA A sg (nI s) A.flatten.length) v < A.flatten.length by omega)
  unfold lbR LcN
  omega
theorem stX_I {y : ow_MS} {A : rn_L} {sg : Nat → Bool} {c : Nat} (h : stX y A sg c) : stI y A sg c := ⟨h.1, h.2.1, fun s g hs hg => ⟨lbR A sg s g, lb_LcN hg, h.2.2 s g hs hg⟩⟩
theorem stX_fr {P : Nat → Prop} {y y1 : ow_MS} {A : rn_L} {sg : Nat → Bool} {c : Nat} (hf : fr P y y1) (h1 : ¬ P 81) (h2 : ¬ P 82) (h3 : ¬ P 83) (h : stX y A sg c) : stX y1 A sg c := ⟨fun s hs => by rw [(hf 82 h2).2.1]; exact h.1 s hs, fun s hs => by rw [(hf 83 h3).2.1]; exact h.2.1 s hs, fun s g hs hg => by rw [(hf 81 h1).2.1]; exact h.2.2 s g hs hg⟩
theorem re_makeStates {n c P : Nat} {A : rn_L} {sg : Nat → Bool} (hn : mw_net n) (hA : oNet z n A sg) (hK : chOK A sg c P) : Te (fun K => qe_X13_makeStates K n z) (fun z1 => stX z1 A sg c ∧ fr stH z z1) := by
  obtain ⟨hok, hc, hC, hL9, hbs, -⟩ := hK
  have hV := okF_len hok
  have hmn := net_mod hn
  have h2c : 2 ^ c ≤ 256 := two_mono (b := 8) hc
  let Q : ow_MS → Prop := fun z1 => stX z1 A sg c ∧ fr stH z z1
  have oA : ∀ {y : ow_MS}, fr stH z y → oNet y n A sg := fun hf => oNet_fr hf (fun g hg => by unfold stH at hg; omega) hA
  have c1 : ∀ (d s : Nat) (y : ow_MS), s + d = 2 ^ c → fr stH z y → (∀ t, t < s → y.2.1 82 t = nI (LcN A sg t)) → (∀ t, t < s → y.2.1 83 t = nI (bsN A sg t)) → (∀ t g, t < s → g < A.flatten.length → y.2.1 81 (32 * t + g) = nI (lbR A sg t g)) → Tt (fun K i => q_X13_makeStates K i 1 (nI (eC A)) (nI c) (nI (bsN A sg s)) (nI s) 0 0 n y) Q := by
    intro d
    induction d with
    | zero =>
      intro s y hs hf h82 h83 h81
      have hs : s = 2 ^ c := by omega
      refine u_X13_makeStates_1 ?_; unfold qm_X13_makeStates_1
      rw [shl1 (by omega)]
      refine w_leT (by omega) (by omega) (w_wrI ml83 rfl (by omega) (w_some ⟨⟨fun t ht => rd_ot (by omega) (h82 t (by omega)), fun t ht => ?_, fun t g ht hg => rd_ot (by omega) (h81 t g (by omega) hg)⟩, fr_I2 hf (by unfold stH; omega)⟩))
      by_cases hts : t = 2 ^ c
      · rw [hts, po_usI_at, hs]
      · exact rd_ne hts (h83 t (by omega))
    | succ d ih =>
      intro s y hs hf h82 h83 h81
      have hs9 := hL9 s (by omega)
      have hb1 : bsN A sg (s + 1) ≤ 13122 := Nat.le_trans (bs_mono (by omega)) hbs
      rw [bs_s] at hb1
      refine u_X13_makeStates_1 ?_; unfold qm_X13_makeStates_1
      rw [shl1 (by omega)]
      refine w_leF (by omega) (by omega) (w_cs0 (tp_loops (st := nI s) hn (oA hf)) (fun y1 ⟨u1, f1⟩ => ?_))
      have hf1 : fr stH z y1 := fr_tr hf (fr_mono (fun g hg => Or.inl hg) f1)
      have hp : dn (lpA A sg (nI s) A.flatten.length) := u1.1
      have hLs : LcN A sg s = rtsN (lpA A sg (nI s) A.flatten.length) A.flatten.length + eC A := rfl
      generalize hpe : lpA A sg (nI s) A.flatten.length = p at u1 hp hLs
      have lbE : ∀ h, lbR A sg s h = rtsN p (rt p h) := fun h => by
        unfold lbR
        rw [hpe]
      have k82 : ∀ t, t < s → y1.2.1 82 t = nI (LcN A sg t) := fun t ht => by rw [(f1 82 (by omega)).2.1]; exact h82 t ht
      have k83 : ∀ t, t < s → y1.2.1 83 t = nI (bsN A sg t) := fun t ht => by rw [(f1 83 (by omega)).2.1]; exact h83 t ht
      have k81 : ∀ t g, t < s → g < A.flatten.length → y1.2.1 81 (32 * t + g) = nI (lbR A sg t g) := fun t g ht hg => by rw [(f1 81 (by omega)).2.1]; exact h81 t g ht hg
      have u81 : ∀ {y : ow_MS} {i : Nat} {x : Int32}, ufR y p → ufR (usI y 81 i x) p := fun h => ⟨h.1, fun g hg => rd_ot (by omega) (h.2 g hg)⟩
      have c4 : ∀ (d2 g : Nat) (y : ow_MS), g + d2 = A.flatten.length → ufR y p → fr stH z y → (∀ t, t < s → y.2.1 82 t = nI (LcN A sg t)) → (∀ t, t < s → y.2.1 83 t = nI (bsN A sg t)) → (∀ t g, t < s → g < A.flatten.length → y.2.1 81 (32 * t + g) = nI (lbR A sg t g)) → (∀ h, h < A.flatten.length → (h < g ∨ p h = h) → y.2.1 81 (32 * s + h) = nI (lbR A sg s h)) → Tt (fun K i => q_X13_makeStates K i 4 (nI (eC A)) (nI c) (nI (bsN A sg s)) (nI s) (nI (rtsN p A.flatten.length)) (nI g) n y) Q := by
        intro d2
        induction d2 with
        | zero =>
          intro g y hg hu hf h82 h83 h81 hR
          refine u_X13_makeStates_4 ?_; unfold qm_X13_makeStates_4
          rw [nI_add, shl1 (by omega), nI_add, nI_1, ← hLs, ← bs_s]
          refine w_rdF (oA hf).1.V (w_leT (by omega) (by omega) (w_wrI ml82 rfl (by omega) (w_wrI ml83 rfl (by omega) (ih (s + 1) _ (by omega) (fr_I2 (fr_I2 hf (by unfold stH; omega)) (by unfold stH; omega)) (fun t ht => ?_) (fun t ht => ?_) (fun t h ht hh => rd_ot (by omega) (rd_ot (by omega) ?_))))))
          · refine rd_ot (by omega) ?_
            by_cases hts : t = s
            · rw [hts, po_usI_at]
            · exact rd_ne hts (h82 t (by omega))
          · by_cases hts : t = s
            · rw [hts, po_usI_at]
            · exact rd_ne hts (rd_ot (by omega) (h83 t (by omega)))
          · by_cases hts : t = s
            · rw [hts]
              exact hR h hh (Or.inl (by omega))
            · exact h81 t h (by omega) hh
        | succ d2 ih4 =>
          intro g y hg hu hf h82 h83 h81 hR
          have hgl : g < A.flatten.length := by omega
          obtain ⟨r1, r2⟩ := rt_in hp g
          have el := hR (rt p g) (by omega) (Or.inr r1)
          rw [lbE, rt_root r1, ← lbE] at el
          have hl : lbR A sg s g < LcN A sg s := by
            rw [lbE, hLs]
            have := rts_lt r1 (show rt p g < A.flatten.length by omega)
            omega
          refine u_X13_makeStates_4 ?_; unfold qm_X13_makeStates_4
          refine w_rdF (oA hf).1.V (w_leF (by omega) hgl (w_cs1 (tp_root hu (by omega)) (fun a y2 e => ?_)))
          cases e
          rw [i32x, i32x, nI_1]
          refine w_rdI ml81 rfl (by omega) el (w_wrB ml81 rfl (by omega) ?_)
          rw [(byt ⟨lbR A sg s g, by omega⟩).2]
          refine ih4 (g + 1) _ (by omega) (u81 hu) (fr_I2 hf (by unfold stH; omega)) (fun t ht => rd_ot (by omega) (h82 t ht)) (fun t ht => rd_ot (by omega) (h83 t ht)) (fun t h ht hh => ?_) (fun h hh h9 => ?_)
          · exact rd_ne (by omega) (h81 t h ht hh)
          · by_cases hhg : h = g
            · rw [hhg]
              exact po_usI_at
            · exact rd_ne (by omega) (hR h hh (by omega))
      have c2 : ∀ (d2 g : Nat) (y : ow_MS), g + d2 = A.flatten.length → ufR y p → fr stH z y → (∀ t, t < s → y.2.1 82 t = nI (LcN A sg t)) → (∀ t, t < s → y.2.1 83 t = nI (bsN A sg t)) → (∀ t g, t < s → g < A.flatten.length → y.2.1 81 (32 * t + g) = nI (lbR A sg t g)) → (∀ h, h < g → p h = h → y.2.1 81 (32 * s + h) = nI (lbR A sg s h)) → Tt (fun K i => q_X13_makeStates K i 2 (nI (eC A)) (nI c) (nI (bsN A sg s)) (nI s) (nI (rtsN p g)) (nI g) n y) Q := by
        intro d2
        induction d2 with
        | zero =>
          intro g y hg hu hf h82 h83 h81 hR
          have hg : g = A.flatten.length := by omega
          subst hg
          refine u_X13_makeStates_2 ?_; unfold qm_X13_makeStates_2
          exact w_rdF (oA hf).1.V (w_leT (by omega) (by omega) (c4 A.flatten.length 0 y (by omega) hu hf h82 h83 h81 (fun h hh h9 => hR h hh (h9.resolve_left (by omega)))))
        | succ d2 ih2 =>
          intro g y hg hu hf h82 h83 h81 hR
          have hgl : g < A.flatten.length := by omega
          have h1 := hp g
          have hrm := rtsN_mono (p := p) (a := g + 1) A.flatten.length hgl
          rw [rtsN_s] at hrm
          refine u_X13_makeStates_2 ?_; unfold qm_X13_makeStates_2
          rw [i32x]
          refine w_rdF (oA hf).1.V (w_leF (by omega) hgl (w_rdI ml47 rfl (by omega) (hu.2 g (by omega)) (w_eqN (by omega) (by omega) (fun h9 => w_wrB ml81 rfl (by omega) ?_) (fun h9 => ?_))))
          · rw [if_pos h9] at hrm
            rw [(byt ⟨rtsN p g, by omega⟩).1]
            refine u_X13_makeStates_3 ?_; unfold qm_X13_makeStates_3
            rw [nI_1, nI_1]
            have := ih2 (g + 1) (usI y 81 (32 * s + g) (nI (rtsN p g))) (by omega) (u81 hu) (fr_I2 hf (by unfold stH; omega)) (fun t ht => rd_ot (by omega) (h82 t ht)) (fun t ht => rd_ot (by omega) (h83 t ht)) (fun t h ht hh => rd_ne (by omega) (h81 t h ht hh)) (fun h hh h8 => by
              by_cases hhg : h = g
              · rw [hhg, lbE, rt_root h9]
                exact po_usI_at
              · exact rd_ne (by omega) (hR h (by omega) h8))
            rw [rtsN_s, if_pos h9] at this
            exact this
          · refine u_X13_makeStates_3 ?_; unfold qm_X13_makeStates_3
            rw [nI_1]
            have := ih2 (g + 1) y (by omega) hu hf h82 h83 h81 (fun h hh h8 => by
              by_cases hhg : h = g
              · rw [hhg] at h8
                exact absurd h8 h9
              · exact hR h (by omega) h8)
            rw [rtsN_s, if_neg h9] at this
            exact this
      exact c2 A.flatten.length 0 y1 (by omega) u1 hf1 k82 k83 k81 (fun h hh => absurd hh (by omega))
  refine e_X13_makeStates ?_
  refine u_X13_makeStates_0 ?_; unfold qm_X13_makeStates_0
  refine w_cs1 (tp_circles2 hn (by omega) (by omega) hA.1.1) (fun a y e => ?_)
  cases e
  refine w_rdF hA.1.V (w_nzI (by decide) ?_)
  rw [hV, half_V (by omega)]
  exact c1 (2 ^ c) 0 z (by omega) fr_rf (fun t ht => absurd ht (by omega)) (fun t ht => absurd ht (by omega)) (fun t g ht => absurd ht (by omega))
/-- the degree of a column -/
def dgq (c mi q : Nat) : Int := (q : Int) - 40 - c + 3 * mi
theorem qv_kp {A : rn_L} {sg : Nat → Bool} {c mi s m q : Nat} (hs : s < 2 ^ c) (hc : c ≤ 8) (hmi : mi ≤ c) (h9 : LcN A sg s ≤ 9) (hm : m < 2 ^ LcN A sg s) : qvN A sg c mi s m = q ↔ kpF (LcN A sg s) (pc s) (dgq c mi q) = some (pc m) := by
  have a := pc_le hs
  have b := pc_le hm
  rw [kp_iff b]
  unfold qvN dgq
  omega
def cq9 (ns : Nat → Nat) (dg : Int) (s m : Nat) : Nat := match kpF (ns s) (pc s) dg with
  | some k => cpN k m
  | none => 0
theorem cq9_0 {ns : Nat → Nat} {dg : Int} {s : Nat} : cq9 ns dg s 0 = 0 := by
  unfold cq9
  cases kpF (ns s) (pc s) dg <;> rfl
theorem cq9_s {ns : Nat → Nat} {dg : Int} {s m : Nat} : cq9 ns dg s (m + 1) = cq9 ns dg s m + if kpF (ns s) (pc s) dg = some (pc m) then 1 else 0 := by
  unfold cq9
  cases e : kpF (ns s) (pc s) dg with
  | none =>
    rw [if_neg (fun h => by cases h)]
  | some k =>
    show cpN k m + (if pc m = k then 1 else 0) = cpN k m + _
    by_cases q : pc m = k
    · rw [if_pos q, if_pos (by rw [q])]
    · rw [if_neg q, if_neg (fun h => q (Option.some.inj h).symm)]
theorem cq9_all {ns : Nat → Nat} {dg : Int} {s : Nat} (hn : ns s < 32) : cq9 ns dg s (2 ^ ns s) = bkF ns dg s := by
  unfold cq9 bkF
  cases e : kpF (ns s) (pc s) dg with
  | none => rfl
  | some k => exact cpN_bi _ _ hn
/-- what placeAll leaves, exactly -/
def plX (y : ow_MS) (A : rn_L) (sg : Nat → Bool) (c mi : Nat) : Prop := (∀ h q, h < 10 → q < 80 → y.2.1 85 (80 * h + q) = nI (sz9 c (LcN A sg) (dgq c mi q) h)) ∧ ∀ s m, s < 2 ^ c → m < 2 ^ LcN A sg s → y.2.1 84 (bsN A sg s + m) = nI (ix9 (LcN A sg) (dgq c mi (qvN A sg c mi s m)) s m)
theorem re_placeAll {c P mi : Nat} {A : rn_L} {sg : Nat → Bool} (hK : chOK A sg c P) (hI : stI z A sg c) (h88 : z.1 88 = nI mi) (hmi : mi ≤ c) : Te (fun K => qe_X13_placeAll K (nI c) z) (fun z1 => plX z1 A sg c mi ∧ fr plH z z1 ∧ ∀ k, k < 800 → z1.2.1 86 k = 0 ∧ z1.2.1 87 k = 0) := by
  have hK' := hK
  obtain ⟨hok, hc, hC, hL9, hbs, hblk⟩ := hK
  have h2c : 2 ^ c ≤ 256 := two_mono (b := 8) hc
  let Q : ow_MS → Prop := fun z1 => plX z1 A sg c mi ∧ fr plH z z1 ∧ ∀ k, k < 800 → z1.2.1 86 k = 0 ∧ z1.2.1 87 k = 0
  have iF : ∀ {y : ow_MS}, fr plH z y → stI y A sg c := fun hf => stI_fr hf (by unfold plH; omega) (by unfold plH; omega) (by unfold plH; omega) hI
  have szl : ∀ h s dg, s ≤ 2 ^ c → smH (bkF (LcN A sg) dg) h 0 s ≤ 1140 := fun h s dg hs => Nat.le_trans (smH_mono _ hs) (bkF_sz hL9 (hblk h))
  have c2 : ∀ (d s : Nat) (y : ow_MS), s + d = 2 ^ c → fr plH z y → (∀ h q, h < 10 → q < 80 → y.2.1 85 (80 * h + q) = nI (smH (bkF (LcN A sg) (dgq c mi q)) h 0 s)) → (∀ t m, t < s → m < 2 ^ LcN A sg t → y.2.1 84 (bsN A sg t + m) = nI (ix9 (LcN A sg) (dgq c mi (qvN A sg c mi t m)) t m)) → (∀ k, k < 800 → y.2.1 86 k = 0 ∧ y.2.1 87 k = 0) → Tt (fun K i => q_X13_placeAll K i 2 (nI c) (nI s) 0 y) Q := by
    intro d
    induction d with
    | zero =>
      intro s y hs hf h85 h84 hz9
      have hs : s = 2 ^ c := by omega
      refine u_X13_placeAll_2 ?_; unfold qm_X13_placeAll_2
      rw [shl1 (by omega)]
      refine w_leT (by omega) (by omega) (w_some ⟨⟨fun h q hh hq => ?_, fun t m ht hm => h84 t m (by omega) hm⟩, hf, hz9⟩)
      rw [h85 h q hh hq, hs]
      rfl
    | succ d ih =>
      intro s y hs hf h85 h84 hz9
      have hsl : s < 2 ^ c := by omega
      have hL := hL9 s hsl
      have h2L : 2 ^ LcN A sg s ≤ 512 := two_mono (b := 9) hL
      have hps := pc_le hsl
      have hb1 : bsN A sg (s + 1) ≤ 13122 := Nat.le_trans (bs_mono (by omega)) hbs
      rw [bs_s] at hb1
      have c3 : ∀ (d2 m : Nat) (y : ow_MS), m + d2 = 2 ^ LcN A sg s → fr plH z y → (∀ h q, h < 10 → q < 80 → y.2.1 85 (80 * h + q) = nI (smH (bkF (LcN A sg) (dgq c mi q)) h 0 s + if pc s = h then cq9 (LcN A sg) (dgq c mi q) s m else 0)) → (∀ t m', (t < s ∨ t = s ∧ m' < m) → m' < 2 ^ LcN A sg t → y.2.1 84 (bsN A sg t + m') = nI (ix9 (LcN A sg) (dgq c mi (qvN A sg c mi t m')) t m')) → (∀ k, k < 800 → y.2.1 86 k = 0 ∧ y.2.1 87 k = 0) → Tt (fun K i => q_X13_placeAll K i 3 (nI c) (nI s) (nI m) y) Q := by
        intro d2
        induction d2 with
        | zero =>
          intro m y hm hf h85 h84 hz9
          refine u_X13_placeAll_3 ?_; unfold qm_X13_placeAll_3
          refine w_rdI ml82 rfl (by omega) ((iF hf).1 s hsl) ?_
          rw [shl1 (by omega), nI_1]
          refine w_leT (by omega) (by omega) (ih (s + 1) y (by omega) hf (fun h q hh hq => ?_) (fun t m' ht hm' => h84 t m' (by
            rcases Nat.lt_or_ge t s with q9 | q9
            · exact Or.inl q9
            · have e9 : t = s := by omega
              rw [e9] at hm'
              exact Or.inr ⟨e9, by omega⟩) hm') hz9)
          rw [h85 h q hh hq, smH_s, show m = 2 ^ LcN A sg s by omega, cq9_all (by omega)]
        | succ d2 ih3 =>
          intro m y hm hf h85 h84 hz9
          have hml : m < 2 ^ LcN A sg s := by omega
          have hIy := iF hf
          have h88y : y.1 88 = nI mi := by rw [(hf 88 (by unfold plH; omega)).1]; exact h88
          obtain ⟨tq, hq80⟩ := tp_qOf hK' hIy h88y hmi hsl hml
          generalize hqe : qvN A sg c mi s m = qq at tq hq80
          have hkp := (qv_kp hsl hc hmi hL hml).mp hqe
          have ev := h85 (pc s) qq (by omega) hq80
          rw [if_pos rfl] at ev
          have ecq : cq9 (LcN A sg) (dgq c mi qq) s m = cpN (pc m) m := by
            unfold cq9
            rw [hkp]
          rw [ecq] at ev
          have eix : smH (bkF (LcN A sg) (dgq c mi qq)) (pc s) 0 s + cpN (pc m) m = ix9 (LcN A sg) (dgq c mi qq) s m := rfl
          have hbnd : ix9 (LcN A sg) (dgq c mi qq) s m < 1140 := Nat.lt_of_lt_of_le (ix_sz (h := pc s) ⟨hsl, rfl, hml, hkp⟩ (by omega)) (bkF_sz hL9 (hblk _))
          rw [eix] at ev
          refine u_X13_placeAll_3 ?_; unfold qm_X13_placeAll_3
          refine w_rdI ml82 rfl (by omega) (hIy.1 s hsl) ?_
          rw [shl1 (by omega)]
          refine w_leF (by omega) (by omega) (w_rdF h88y (w_cs1 tq (fun a y1 e1 => ?_)))
          cases e1
          rw [bc_pc (by omega), show (80 : Int32) * nI (pc s) = nI (80 * pc s) from pk_mul 80 _, nI_add, nI_1]
          refine w_rdI ml83 rfl (by omega) (hIy.2.1 s (by omega)) (w_rdI ml85 rfl (by omega) ev (w_wrI (i := bsN A sg s + m) ml84 (nI_add _ _) (by omega) (w_rdI (x := nI (ix9 (LcN A sg) (dgq c mi qq) s m)) ml85 rfl (by omega) (rd_ot (by omega) ev) (w_wrI ml85 rfl (by omega) (ih3 (m + 1) _ (by omega) (fr_I2 (fr_I2 hf (by unfold plH; omega)) (by unfold plH; omega)) (fun h q hh hq => ?_) (fun t m' ht hm' => ?_) (fun k hk => ⟨rd_ot (by omega) (rd_ot (by omega) (hz9 k hk).1), rd_ot (by omega) (rd_ot (by omega) (hz9 k hk).2)⟩))))))
          · by_cases hat : 80 * h + q = 80 * pc s + qq
            · have e1 : h = pc s := by omega
              have e2 : q = qq := by omega
              rw [e1, e2, if_pos rfl, cq9_s, if_pos hkp, ecq]
              refine po_usI_at.trans ?_
              rw [nI_1, ← eix]
              exact congrArg nI (by omega)
            · refine rd_ne hat (rd_ot (by omega) ((h85 h q hh hq).trans ?_))
              by_cases hps2 : pc s = h
              · have nk : ¬ kpF (LcN A sg s) (pc s) (dgq c mi q) = some (pc m) := fun h9 => by
                  have := (qv_kp hsl hc hmi hL hml).mpr h9
                  omega
                rw [if_pos hps2, if_pos hps2, cq9_s, if_neg nk, Nat.add_zero]
              · rw [if_neg hps2, if_neg hps2]
          · refine rd_ot (by omega) ?_
            by_cases hi2 : bsN A sg t + m' = bsN A sg s + m
            · have ets : t = s := by
                rcases ht with h9 | h9
                · have := bs_mono (A := A) (sg := sg) (a := t + 1) (b := s) h9
                  rw [bs_s] at this
                  omega
                · exact h9.1
              rw [ets] at hi2 ⊢
              rw [show m' = m by omega, hqe]
              exact po_usI_at
            · refine rd_ne hi2 (h84 t m' ?_ hm')
              rcases ht with h9 | ⟨h8, h9⟩
              · exact Or.inl h9
              · refine Or.inr ⟨h8, ?_⟩
                rw [h8] at hi2
                omega
      refine u_X13_placeAll_2 ?_; unfold qm_X13_placeAll_2
      rw [shl1 (by omega)]
      refine w_leF (by omega) (by omega) (c3 (2 ^ LcN A sg s) 0 y (by omega) hf (fun h q hh hq => ?_) (fun t m' ht hm' => h84 t m' (by omega) hm') hz9)
      rw [h85 h q hh hq, cq9_0, ite_self, Nat.add_zero]
  have c1 : ∀ (d i : Nat) (y : ow_MS), i + d = 800 → fr plH z y → (∀ k, k < i → y.2.1 85 k = 0 ∧ y.2.1 86 k = 0 ∧ y.2.1 87 k = 0) → Tt (fun K t => q_X13_placeAll K t 1 (nI c) (nI i) 0 y) Q := by
    intro d
    induction d with
    | zero =>
      intro i y hi hf h0
      refine u_X13_placeAll_1 ?_; unfold qm_X13_placeAll_1
      exact w_leT (a := 800) (by omega) (by omega) (c2 (2 ^ c) 0 y (by omega) hf (fun h q hh hq => (h0 _ (by omega)).1) (fun t m ht => absurd ht (Nat.not_lt_zero _)) (fun k hk => (h0 k (by omega)).2))
    | succ d ih =>
      intro i y hi hf h0
      refine u_X13_placeAll_1 ?_; unfold qm_X13_placeAll_1
      rw [nI_1]
      refine w_leF (a := 800) (by omega) (by omega) (w_wrI ml85 rfl (by omega) (w_wrI ml86 rfl (by omega) (w_wrI ml87 rfl (by omega) (ih (i + 1) _ (by omega) (fr_I2 (fr_I2 (fr_I2 hf (by unfold plH; omega)) (by unfold plH; omega)) (by unfold plH; omega)) (fun k hk => ?_)))))
      by_cases hki : k = i
      · rw [hki]
        exact ⟨rd_ot (by omega) (rd_ot (by omega) po_usI_at), rd_ot (by omega) po_usI_at, po_usI_at⟩
      · obtain ⟨q1, q2, q3⟩ := h0 k (by omega)
        exact ⟨rd_ot (by omega) (rd_ot (by omega) (rd_ne hki q1)), rd_ot (by omega) (rd_ne hki (rd_ot (by omega) q2)), rd_ne hki (rd_ot (by omega) (rd_ot (by omega) q3))⟩
  refine e_X13_placeAll ?_
  refine u_X13_placeAll_0 ?_; unfold qm_X13_placeAll_0
  exact c1 800 0 z (by omega) fr_rf (fun k hk => absurd hk (by omega))
end XCK3
