/-! chain: states and generators -/
theorem byt : ∀ k : Fin 64, vp_nar .byte ((nI k.val).toInt8.toInt32) = nI k.val ∧ vp_nar .byte (nI k.val) = nI k.val := by decide +kernel
/-- the loops of a state as the machine counts them -/
def LcN (A : rn_L) (sg : Nat → Bool) (s : Nat) : Nat := rtsN (lpA A sg (nI s) A.flatten.length) A.flatten.length + eC A
def bsN (A : rn_L) (sg : Nat → Bool) (s : Nat) : Nat := smA (fun s => 2 ^ LcN A sg s) 0 s
/-- what is known of a net small enough for chain -/
def chOK (A : rn_L) (sg : Nat → Bool) (c P : Nat) : Prop := okF A.flatten c ∧ c ≤ 8 ∧ A.length ≤ 6 ∧ (∀ s, s < 2 ^ c → LcN A sg s ≤ 9) ∧ bsN A sg (2 ^ c) ≤ 13122 ∧ ∀ h, smH (fun s => mbt (LcN A sg s)) h 0 (2 ^ c) ≤ 1140
theorem smA_le {w u : Nat → Nat} {t : Nat} : ∀ n, (∀ i, i < n → w (t + i) ≤ u (t + i)) → smA w t n ≤ smA u t n
  | 0, _ => Nat.le_refl _
  | n + 1, h => Nat.add_le_add (smA_le n (fun i hi => h i (by omega))) (h n (by omega))
theorem smH_le {w u : Nat → Nat} {h t : Nat} : ∀ n, (∀ i, i < n → w (t + i) ≤ u (t + i)) → smH w h t n ≤ smH u h t n
  | 0, _ => Nat.le_refl _
  | n + 1, hh => by
    refine Nat.add_le_add (smH_le n (fun i hi => hh i (by omega))) ?_
    split
    · exact hh n (by omega)
    · exact Nat.le_refl _
theorem smH_mono {w : Nat → Nat} {h t a : Nat} : ∀ b, a ≤ b → smH w h t a ≤ smH w h t b
  | 0, hb => by rw [show a = 0 by omega]; exact Nat.le_refl _
  | b + 1, hb => by
    by_cases e : a = b + 1
    · rw [e]; exact Nat.le_refl _
    · have := smH_mono (w := w) (h := h) (t := t) (a := a) b (by omega)
      show smH w h t a ≤ smH w h t b + _
      omega
theorem mbt_9 {n : Nat} (h : mbt n ≤ 1140) : n ≤ 9 := by
  rcases Nat.lt_or_ge 9 n with h9 | h9
  · have := mbt_mono (a := 10) h9
    rw [show mbt 10 = 5000000 from by decide] at this
    omega
  · exact h9
theorem smH_0 {w : Nat → Nat} {h t : Nat} : ∀ n, (∀ i, i < n → pc i ≠ h) → smH w h t n = 0
  | 0, _ => rfl
  | n + 1, hh => by
    show smH w h t n + (if pc n = h then _ else 0) = 0
    rw [smH_0 n (fun i hi => hh i (by omega)), if_neg (hh n (by omega))]
theorem ch_ok {A : rn_L} {c P : Nat} {M : Nat → Int32} {sg : Nat → Bool} (hok : okF A.flatten c) (hC : A.length ≤ 6) (hM : rn_SD A M P) (hM1 : ∀ k, k < A.length → M k ≠ -1) (hP : P ≤ 40) (hP1 : 1 ≤ P) (hcP : c + P ≤ 9) : chOK A sg c P := by
  have hE := qE_ends hok (by omega)
  have hev := qE_evn hok (by omega)
  have hp := ell_parts (sg := sg) hok (by omega) hM hM1 hP
  have hle : ∀ s, s < 2 ^ c → LcN A sg s ≤ ell (qE A) c A.flatten.length sg s + eC A := fun s hs => Nat.add_le_add_right (rts_ell hok (by omega) hs) _
  have hblk : ∀ h, smH (fun s => mbt (ell (qE A) c A.flatten.length sg s + eC A)) h 0 (2 ^ c) ≤ 1140 := by
    intro h
    rcases Nat.lt_or_ge h 9 with h9 | h9
    · exact blk_1140 hE hev hP1 hp (by omega) h9
    · rw [smH_0 _ (fun i hi e => by
        have := pc_le (c := c) hi
        omega)]
      omega
  have hblk2 : ∀ h, smH (fun s => mbt (LcN A sg s)) h 0 (2 ^ c) ≤ 1140 := fun h => Nat.le_trans (smH_le _ (fun i hi => by
    rw [Nat.zero_add]
    exact mbt_mono (hle i hi))) (hblk h)
  refine ⟨hok, by omega, hC, fun s hs => mbt_9 ?_, ?_, hblk2⟩
  · have h1 := smH_mono (w := fun s => mbt (LcN A sg s)) (h := pc s) (t := 0) (a := s + 1) (2 ^ c) hs
    have h2 : mbt (LcN A sg s) ≤ smH (fun s => mbt (LcN A sg s)) (pc s) 0 (s + 1) := by
      show _ ≤ smH _ _ _ s + (if pc s = pc s then mbt (LcN A sg (0 + s)) else 0)
      rw [if_pos rfl, Nat.zero_add]
      omega
    exact Nat.le_trans h2 (Nat.le_trans h1 (hblk2 _))
  · have h1 := gen_all (ab := sg) (e := eC A) hE hev c 0 (Nat.le_refl _) (Nat.zero_mod _)
    have h2 : bsN A sg (2 ^ c) ≤ smA (fun s => 2 ^ (ell (qE A) c A.flatten.length sg s + eC A)) 0 (2 ^ c) := smA_le _ (fun i hi => by
      rw [Nat.zero_add]
      exact two_mono (hle i hi))
    have h3 : 3 ^ c * 2 ^ (ell2 (qE A) c A.flatten.length sg c 0 + eC A) ≤ 3 ^ c * 2 ^ P := Nat.mul_le_mul_left _ (two_mono hp)
    have key : ∀ c : Fin 9, ∀ P : Fin 10, c.val + P.val ≤ 9 → 1 ≤ P.val → 3 ^ c.val * 2 ^ P.val ≤ 13122 := by decide
    have h4 := key ⟨c, by omega⟩ ⟨P, by omega⟩ hcP hP1
    exact Nat.le_trans h2 (Nat.le_trans h1 (Nat.le_trans h3 h4))
/-- what makeStates leaves -/
def stI (y : ow_MS) (A : rn_L) (sg : Nat → Bool) (c : Nat) : Prop := (∀ s, s < 2 ^ c → y.2.1 82 s = nI (LcN A sg s)) ∧ (∀ s, s ≤ 2 ^ c → y.2.1 83 s = nI (bsN A sg s)) ∧ ∀ s g, s < 2 ^ c → g < A.flatten.length → inR y 81 (32 * s + g) (LcN A sg s)
theorem stI_fr {P : Nat → Prop} {y y1 : ow_MS} {A : rn_L} {sg : Nat → Bool} {c : Nat} (hf : fr P y y1) (h1 : ¬ P 81) (h2 : ¬ P 82) (h3 : ¬ P 83) (h : stI y A sg c) : stI y1 A sg c := ⟨fun s hs => by rw [(hf 82 h2).2.1]; exact h.1 s hs, fun s hs => by rw [(hf 83 h3).2.1]; exact h.2.1 s hs, fun s g hs hg => inR_fr hf h1 (h.2.2 s g hs hg)⟩
abbrev stH (g : Nat) : Prop := g = 47 ∨ g = 81 ∨ g = 82 ∨ g = 83
theorem bs_s {A : rn_L} {sg : Nat → Bool} {s : Nat} : bsN A sg (s + 1) = bsN A sg s + 2 ^ LcN A sg s := by
  show smA _ 0 s + 2 ^ LcN A sg (0 + s) = _
  rw [Nat.zero_add]
  rfl
theorem bs_mono {A : rn_L} {sg : Nat → Bool} {a b : Nat} (h : a ≤ b) : bsN A sg a ≤ bsN A sg b := smA_mono b h
theorem i32x {s g : Nat} : (32 : Int32) * nI s + nI g = nI (32 * s + g) := by
  rw [show (32 : Int32) * nI s = nI (32 * s) from pk_mul 32 s, nI_add]
theorem rtsN_mono {p : Nat → Nat} {a : Nat} : ∀ b, a ≤ b → rtsN p a ≤ rtsN p b
  | 0, h => by rw [show a = 0 by omega]; exact Nat.le_refl _
  | b + 1, h => by
    by_cases e : a = b + 1
    · rw [e]; exact Nat.le_refl _
    · have := rtsN_mono (p := p) (a := a) b (by omega)
      rw [rtsN_s]
      omega
section CHA
variable {z : ow_MS}
theorem u_X13_makeStates_1 {x2 : Int32} {x3 : Int32} {x4 : Int32} {x5 : Int32} {x6 : Int32} {x7 : Int32} {r1 : Nat} {z : ow_MS} {Q : ow_MS → Prop} (H : Tt (fun K k => qm_X13_makeStates_1 K (q_X13_makeStates K k) x2 x3 x4 x5 x6 x7 r1 z) Q) : Tt (fun K k => q_X13_makeStates K k 1 x2 x3 x4 x5 x6 x7 r1 z) Q := w_un (fun _ _ => rfl) H
theorem u_X13_makeStates_4 {x2 : Int32} {x3 : Int32} {x4 : Int32} {x5 : Int32} {x6 : Int32} {x7 : Int32} {r1 : Nat} {z : ow_MS} {Q : ow_MS → Prop} (H : Tt (fun K k => qm_X13_makeStates_4 K (q_X13_makeStates K k) x2 x3 x4 x5 x6 x7 r1 z) Q) : Tt (fun K k => q_X13_makeStates K k 4 x2 x3 x4 x5 x6 x7 r1 z) Q := w_un (fun _ _ => rfl) H
theorem u_X13_makeStates_2 {x2 : Int32} {x3 : Int32} {x4 : Int32} {x5 : Int32} {x6 : Int32} {x7 : Int32} {r1 : Nat} {z : ow_MS} {Q : ow_MS → Prop} (H : Tt (fun K k => qm_X13_makeStates_2 K (q_X13_makeStates K k) x2 x3 x4 x5 x6 x7 r1 z) Q) : Tt (fun K k => q_X13_makeStates K k 2 x2 x3 x4 x5 x6 x7 r1 z) Q := w_un (fun _ _ => rfl) H
theorem u_X13_makeStates_3 {x2 : Int32} {x3 : Int32} {x4 : Int32} {x5 : Int32} {x6 : Int32} {x7 : Int32} {r1 : Nat} {z : ow_MS} {Q : ow_MS → Prop} (H : Tt (fun K k => qm_X13_makeStates_3 K (q_X13_makeStates K k) x2 x3 x4 x5 x6 x7 r1 z) Q) : Tt (fun K k => q_X13_makeStates K k 3 x2 x3 x4 x5 x6 x7 r1 z) Q := w_un (fun _ _ => rfl) H
theorem e_X13_makeStates {r1 : Nat} {z : ow_MS} {Q : ow_MS → Prop} (H : Tt (fun K k => q_X13_makeStates K k 0 0 0 0 0 0 0 r1 z) Q) : Te (fun K => qe_X13_makeStates K r1 z) Q := w_te H
theorem u_X13_makeStates_0 {x2 : Int32} {x3 : Int32} {x4 : Int32} {x5 : Int32} {x6 : Int32} {x7 : Int32} {r1 : Nat} {z : ow_MS} {Q : ow_MS → Prop} (H : Tt (fun K k => qm_X13_makeStates_0 K (q_X13_makeStates K k) x2 x3 x4 x5 x6 x7 r1 z) Q) : Tt (fun K k => q_X13_makeStates K k 0 x2 x3 x4 x5 x6 x7 r1 z) Q := w_un (fun _ _ => rfl) H
theorem tp_makeStates {n c P : Nat} {A : rn_L} {sg : Nat → Bool} (hn : mw_net n) (hA : oNet z n A sg) (hK : chOK A sg c P) : Te (fun K => qe_X13_makeStates K n z) (fun z1 => stI z1 A sg c ∧ fr stH z z1) := by
  obtain ⟨hok, hc, hC, hL9, hbs, -⟩ := hK
  have hV := okF_len hok
  have hmn := net_mod hn
  have h2c : 2 ^ c ≤ 256 := two_mono (b := 8) hc
  let Q : ow_MS → Prop := fun z1 => stI z1 A sg c ∧ fr stH z z1
  have oA : ∀ {y : ow_MS}, fr stH z y → oNet y n A sg := fun hf => oNet_fr hf (fun g hg => by unfold stH at hg; omega) hA
  have c1 : ∀ (d s : Nat) (y : ow_MS), s + d = 2 ^ c → fr stH z y → (∀ t, t < s → y.2.1 82 t = nI (LcN A sg t)) → (∀ t, t < s → y.2.1 83 t = nI (bsN A sg t)) → (∀ t g, t < s → g < A.flatten.length → inR y 81 (32 * t + g) (LcN A sg t)) → Tt (fun K i => q_X13_makeStates K i 1 (nI (eC A)) (nI c) (nI (bsN A sg s)) (nI s) 0 0 n y) Q := by
    intro d
    induction d with
    | zero =>
      intro s y hs hf h82 h83 h81
      have hs : s = 2 ^ c := by omega
      refine u_X13_makeStates_1 ?_; unfold qm_X13_makeStates_1
      rw [shl1 (by omega)]
      refine w_leT (by omega) (by omega) (w_wrI ml83 rfl (by omega) (w_some ⟨⟨fun t ht => rd_ot (by omega) (h82 t (by omega)), fun t ht => ?_, fun t g ht hg => inR_ot (by omega) (h81 t g (by omega) hg)⟩, fr_I2 hf (by unfold stH; omega)⟩))
      by_cases hts : t = 2 ^ c
      · rw [hts, po_usI_at, hs]
      · exact rd_ne hts (h83 t (by omega))
    | succ d ih =>
      intro s y hs hf h82 h83 h81
      have hs9 := hL9 s (by omega)
      have hb1 : bsN A sg (s + 1) ≤ 13122 := Nat.le_trans (bs_mono (by omega)) hbs
      rw [bs_s] at hb1
      refine u_X13_makeStates_1 ?_; unfold qm_X13_makeStates_1
      rw [shl1 (by omega)]
      refine w_leF (by omega) (by omega) (w_cs0 (tp_loops (st := nI s) hn (oA hf)) (fun y1 ⟨u1, f1⟩ => ?_))
      have hf1 : fr stH z y1 := fr_tr hf (fr_mono (fun g hg => Or.inl hg) f1)
      have hp : dn (lpA A sg (nI s) A.flatten.length) := u1.1
      have hLs : LcN A sg s = rtsN (lpA A sg (nI s) A.flatten.length) A.flatten.length + eC A := rfl
      generalize hpe : lpA A sg (nI s) A.flatten.length = p at u1 hp hLs
      have k82 : ∀ t, t < s → y1.2.1 82 t = nI (LcN A sg t) := fun t ht => by rw [(f1 82 (by omega)).2.1]; exact h82 t ht
      have k83 : ∀ t, t < s → y1.2.1 83 t = nI (bsN A sg t) := fun t ht => by rw [(f1 83 (by omega)).2.1]; exact h83 t ht
      have k81 : ∀ t g, t < s → g < A.flatten.length → inR y1 81 (32 * t + g) (LcN A sg t) := fun t g ht hg => inR_fr f1 (by omega) (h81 t g ht hg)
      have u81 : ∀ {y : ow_MS} {i : Nat} {x : Int32}, ufR y p → ufR (usI y 81 i x) p := fun h => ⟨h.1, fun g hg => rd_ot (by omega) (h.2 g hg)⟩
      have c4 : ∀ (d2 g : Nat) (y : ow_MS), g + d2 = A.flatten.length → ufR y p → fr stH z y → (∀ t, t < s → y.2.1 82 t = nI (LcN A sg t)) → (∀ t, t < s → y.2.1 83 t = nI (bsN A sg t)) → (∀ t g, t < s → g < A.flatten.length → inR y 81 (32 * t + g) (LcN A sg t)) → (∀ h, h < A.flatten.length → (h < g ∨ p h = h) → inR y 81 (32 * s + h) (LcN A sg s)) → Tt (fun K i => q_X13_makeStates K i 4 (nI (eC A)) (nI c) (nI (bsN A sg s)) (nI s) (nI (rtsN p A.flatten.length)) (nI g) n y) Q := by
        intro d2
        induction d2 with
        | zero =>
          intro g y hg hu hf h82 h83 h81 hR
          refine u_X13_makeStates_4 ?_; unfold qm_X13_makeStates_4
          rw [nI_add, shl1 (by omega), nI_add, nI_1, ← hLs, ← bs_s]
          refine w_rdF (oA hf).1.V (w_leT (by omega) (by omega) (w_wrI ml82 rfl (by omega) (w_wrI ml83 rfl (by omega) (ih (s + 1) _ (by omega) (fr_I2 (fr_I2 hf (by unfold stH; omega)) (by unfold stH; omega)) (fun t ht => ?_) (fun t ht => ?_) (fun t h ht hh => inR_ot (by omega) (inR_ot (by omega) ?_))))))
          · refine rd_ot (by omega) ?_
            by_cases hts : t = s
            · rw [hts, po_usI_at]
            · exact rd_ne hts (h82 t (by omega))
          · by_cases hts : t = s
            · rw [hts, po_usI_at]
            · exact rd_ne hts (rd_ot (by omega) (h83 t (by omega)))
          · by_cases hts : t = s
            · rw [hts]
              exact hR h hh (Or.inl (by omega))
            · exact h81 t h (by omega) hh
        | succ d2 ih4 =>
          intro g y hg hu hf h82 h83 h81 hR
          have hgl : g < A.flatten.length := by omega
          obtain ⟨r1, r2⟩ := rt_in hp g
          obtain ⟨l, hl, el⟩ := hR (rt p g) (by omega) (Or.inr r1)
          refine u_X13_makeStates_4 ?_; unfold qm_X13_makeStates_4
          refine w_rdF (oA hf).1.V (w_leF (by omega) hgl (w_cs1 (tp_root hu (by omega)) (fun a y2 e => ?_)))
          cases e
          rw [i32x, i32x, nI_1]
          refine w_rdI ml81 rfl (by omega) el (w_wrB ml81 rfl (by omega) ?_)
          rw [(byt ⟨l, by omega⟩).2]
          refine ih4 (g + 1) _ (by omega) (u81 hu) (fr_I2 hf (by unfold stH; omega)) (fun t ht => rd_ot (by omega) (h82 t ht)) (fun t ht => rd_ot (by omega) (h83 t ht)) (fun t h ht hh => ?_) (fun h hh h9 => ?_)
          · obtain ⟨i, k1, k2⟩ := h81 t h ht hh
            exact ⟨i, k1, rd_ne (by omega) k2⟩
          · by_cases hhg : h = g
            · rw [hhg]; exact inR_set hl
            · exact inR_keep (hR h hh (by omega)) ⟨l, hl, rfl⟩
      have c2 : ∀ (d2 g : Nat) (y : ow_MS), g + d2 = A.flatten.length → ufR y p → fr stH z y → (∀ t, t < s → y.2.1 82 t = nI (LcN A sg t)) → (∀ t, t < s → y.2.1 83 t = nI (bsN A sg t)) → (∀ t g, t < s → g < A.flatten.length → inR y 81 (32 * t + g) (LcN A sg t)) → (∀ h, h < g → p h = h → inR y 81 (32 * s + h) (LcN A sg s)) → Tt (fun K i => q_X13_makeStates K i 2 (nI (eC A)) (nI c) (nI (bsN A sg s)) (nI s) (nI (rtsN p g)) (nI g) n y) Q := by
        intro d2
        induction d2 with
        | zero =>
          intro g y hg hu hf h82 h83 h81 hR
          have hg : g = A.flatten.length := by omega
          subst hg
          refine u_X13_makeStates_2 ?_; unfold qm_X13_makeStates_2
          exact w_rdF (oA hf).1.V (w_leT (by omega) (by omega) (c4 A.flatten.length 0 y (by omega) hu hf h82 h83 h81 (fun h hh h9 => hR h hh (h9.resolve_left (by omega)))))
        | succ d2 ih2 =>
          intro g y hg hu hf h82 h83 h81 hR
          have hgl : g < A.flatten.length := by omega
          have h1 := hp g
          have hrm := rtsN_mono (p := p) (a := g + 1) A.flatten.length hgl
          rw [rtsN_s] at hrm
          refine u_X13_makeStates_2 ?_; unfold qm_X13_makeStates_2
          rw [i32x]
          refine w_rdF (oA hf).1.V (w_leF (by omega) hgl (w_rdI ml47 rfl (by omega) (hu.2 g (by omega)) (w_eqN (by omega) (by omega) (fun h9 => w_wrB ml81 rfl (by omega) ?_) (fun h9 => ?_))))
          · rw [if_pos h9] at hrm
            rw [(byt ⟨rtsN p g, by omega⟩).1]
            refine u_X13_makeStates_3 ?_; unfold qm_X13_makeStates_3
            rw [nI_1, nI_1]
            have := ih2 (g + 1) (usI y 81 (32 * s + g) (nI (rtsN p g))) (by omega) (u81 hu) (fr_I2 hf (by unfold stH; omega)) (fun t ht => rd_ot (by omega) (h82 t ht)) (fun t ht => rd_ot (by omega) (h83 t ht)) (fun t h ht hh => by
              obtain ⟨i, k1, k2⟩ := h81 t h ht hh
              exact ⟨i, k1, rd_ne (by omega) k2⟩) (fun h hh h8 => by
              by_cases hhg : h = g
              · rw [hhg]; exact inR_set (by omega)
              · exact inR_keep (hR h (by omega) h8) ⟨_, by omega, rfl⟩)
            rw [rtsN_s, if_pos h9] at this
            exact this
          · refine u_X13_makeStates_3 ?_; unfold qm_X13_makeStates_3
            rw [nI_1]
            have := ih2 (g + 1) y (by omega) hu hf h82 h83 h81 (fun h hh h8 => by
              by_cases hhg : h = g
              · rw [hhg] at h8
                exact absurd h8 h9
              · exact hR h (by omega) h8)
            rw [rtsN_s, if_neg h9] at this
            exact this
      exact c2 A.flatten.length 0 y1 (by omega) u1 hf1 k82 k83 k81 (fun h hh => absurd hh (by omega))
  refine e_X13_makeStates ?_
  refine u_X13_makeStates_0 ?_; unfold qm_X13_makeStates_0
  refine w_cs1 (tp_circles2 hn (by omega) (by omega) hA.1.1) (fun a y e => ?_)
  cases e
  refine w_rdF hA.1.V (w_nzI (by decide) ?_)
  rw [hV, half_V (by omega)]
  exact c1 (2 ^ c) 0 z (by omega) fr_rf (fun t ht => absurd ht (by omega)) (fun t ht => absurd ht (by omega)) (fun t g ht => absurd ht (by omega))
/-- the column of a generator -/
def qvN (A : rn_L) (sg : Nat → Bool) (c mi s m : Nat) : Nat := 2 * pc m + pc s + c + 40 - (LcN A sg s + 3 * mi)
theorem e_X13_qOf {x1 : Int32} {x2 : Int32} {x3 : Int32} {z : ow_MS} {Q : (Int32 × ow_MS) → Prop} (H : Tt (fun K _ => qm_X13_qOf_0 K x1 x2 x3 z) Q) : Te (fun K => qe_X13_qOf K x1 x2 x3 z) Q := w_te0 H
theorem tp_qOf {c P mi s m : Nat} {A : rn_L} {sg : Nat → Bool} (hK : chOK A sg c P) (hI : stI z A sg c) (h88 : z.1 88 = nI mi) (hmi : mi ≤ c) (hs : s < 2 ^ c) (hm : m < 2 ^ LcN A sg s) : Te (fun K => qe_X13_qOf K (nI s) (nI m) (nI c - nI mi) z) (fun r => r = (nI (qvN A sg c mi s m), z)) ∧ qvN A sg c mi s m < 80 := by
  obtain ⟨hok, hc, hC, hL9, -⟩ := hK
  have h2c : 2 ^ c ≤ 256 := two_mono (b := 8) hc
  have hL := hL9 s hs
  have h2L : 2 ^ LcN A sg s ≤ 512 := two_mono (b := 9) hL
  have hpm := pc_le hm
  have hps := pc_le hs
  constructor
  · refine e_X13_qOf ?_; unfold qm_X13_qOf_0
    refine w_rdI ml82 rfl (by omega) (hI.1 s hs) (w_rdF h88 (w_some ?_))
    rw [bc_pc (by omega), bc_pc (by omega)]
    congr 1
    unfold qvN
    rw [nI_iI (pc m), nI_iI (pc s), nI_iI (LcN A sg s), nI_iI c, nI_iI mi]
    show ((((iI 2 * iI (pc m : Nat)) - iI (LcN A sg s : Nat)) + iI (pc s : Nat)) + (iI (c : Nat) - iI (mi : Nat))) - (iI 2 * iI (mi : Nat)) + iI 40 = _
    rw [iI_mul, iI_sub, iI_add, iI_sub, iI_add, iI_mul, iI_sub, iI_add]
    exact iI_nI (by omega)
  · unfold qvN
    omega
/-- masks below k in one column -/
def cmN (A : rn_L) (sg : Nat → Bool) (c mi s q : Nat) : Nat → Nat
  | 0 => 0
  | m + 1 => cmN A sg c mi s q m + if qvN A sg c mi s m = q then 1 else 0
def cpN (r : Nat) : Nat → Nat
  | 0 => 0
  | m + 1 => cpN r m + if pc m = r then 1 else 0
def cpL (r n : Nat) : Nat := ((List.range n).filter (fun m => decide (pc m = r))).length
theorem cpN_L {r : Nat} : ∀ n, cpN r n = cpL r n
  | 0 => rfl
  | n + 1 => by
    unfold cpL
    rw [List.range_succ, List.filter_append, List.length_append]
    show cpN r n + _ = _
    rw [cpN_L n]
    by_cases h : pc n = r
    · rw [if_pos h, List.filter_cons_of_pos (p := fun m => decide (pc m = r)) (decide_eq_true h)]
      rfl
    · rw [if_neg h, List.filter_cons_of_neg (p := fun m => decide (pc m = r)) (by simpa using h)]
      rfl
theorem cpN_split {r j : Nat} (hj : j < 32) : ∀ i, i ≤ 2 ^ j → cpN r (2 ^ j + i) = cpN r (2 ^ j) + if r = 0 then 0 else cpN (r - 1) i
  | 0, _ => by
    show _ = _ + if r = 0 then 0 else 0
    split <;> rfl
  | i + 1, hi => by
    have ih := cpN_split (r := r) hj i (by omega)
    show cpN r (2 ^ j + i) + (if pc (2 ^ j + i) = r then 1 else 0) = _
    rw [ih, pc_hi hj (by omega)]
    by_cases h0 : r = 0
    · rw [if_pos h0, if_pos h0, if_neg (by omega)]
    · rw [if_neg h0, if_neg h0]
      show _ = _ + (cpN (r - 1) i + if pc i = r - 1 then 1 else 0)
      by_cases h1 : pc i + 1 = r
      · rw [if_pos h1, if_pos (by omega)]; omega
      · rw [if_neg h1, if_neg (by omega)]; omega
/-- binomial numbers -/
def biN : Nat → Nat → Nat
  | 0, r => if r = 0 then 1 else 0
  | j + 1, r => biN j r + if r = 0 then 0 else biN j (r - 1)
theorem cpN_bi : ∀ (j r : Nat), j < 32 → cpN r (2 ^ j) = biN j r
  | 0, r, _ => by
    show 0 + (if pc 0 = r then 1 else 0) = if r = 0 then 1 else 0
    rw [show pc 0 = 0 from by decide]
    by_cases h : r = 0
    · rw [if_pos h, if_pos h.symm]
    · rw [if_neg h, if_neg (fun e => h e.symm)]
  | j + 1, r, hj => by
    rw [show 2 ^ (j + 1) = 2 ^ j + 2 ^ j by rw [Nat.pow_succ]; omega, cpN_split (by omega) _ (Nat.le_refl _), cpN_bi j r (by omega)]
    show _ = biN j r + if r = 0 then 0 else biN j (r - 1)
    by_cases h : r = 0
    · rw [if_pos h, if_pos h]
    · rw [if_neg h, if_neg h, cpN_bi j _ (by omega)]
theorem bi_mbt : ∀ j : Fin 10, ∀ r : Fin 10, biN j.val r.val ≤ mbt j.val := by decide
theorem biN_0 : ∀ (j r : Nat), j < r → biN j r = 0
  | 0, r, h => if_neg (by omega)
  | j + 1, r, h => by
    show biN j r + (if r = 0 then 0 else biN j (r - 1)) = 0
    rw [biN_0 j r (by omega), if_neg (by omega), biN_0 j (r - 1) (by omega)]
theorem cpN_mono {r a : Nat} : ∀ b, a ≤ b → cpN r a ≤ cpN r b
  | 0, h => by rw [show a = 0 by omega]; exact Nat.le_refl _
  | b + 1, h => by
    by_cases e : a = b + 1
    · rw [e]; exact Nat.le_refl _
    · have := cpN_mono (r := r) (a := a) b (by omega)
      show cpN r a ≤ cpN r b + _
      omega
theorem cm_le {A : rn_L} {sg : Nat → Bool} {c mi s q m : Nat} (hL : LcN A sg s ≤ 9) (hmi : mi ≤ c) (hc : c ≤ 8) (hm : m ≤ 2 ^ LcN A sg s) : cmN A sg c mi s q m ≤ mbt (LcN A sg s) := by
  have key : ∀ m, ∃ r, cmN A sg c mi s q m ≤ cpN r m ∧ ∀ m', cmN A sg c mi s q m' ≤ cpN r m' := by
    intro m
    have h1 : ∀ m', cmN A sg c mi s q m' ≤ cpN ((q + (LcN A sg s + 3 * mi) - (pc s + c + 40)) / 2) m' := by
      intro m'
      induction m' with
      | zero => exact Nat.le_refl _
      | succ m' ih =>
        refine Nat.add_le_add ih ?_
        by_cases h9 : qvN A sg c mi s m' = q
        · rw [if_pos h9, if_pos (by unfold qvN at h9; omega)]
          exact Nat.le_refl _
        · rw [if_neg h9]
          exact Nat.zero_le _
    exact ⟨_, h1 m, h1⟩
  obtain ⟨r, h1, -⟩ := key m
  have h2 := cpN_mono (r := r) (a := m) (2 ^ LcN A sg s) hm
  rw [cpN_bi _ _ (by omega)] at h2
  have h3 : biN (LcN A sg s) r ≤ mbt (LcN A sg s) := by
    rcases Nat.lt_or_ge r 10 with h9 | h9
    · exact bi_mbt ⟨LcN A sg s, by omega⟩ ⟨r, h9⟩
    · rw [biN_0 _ _ (by omega)]; exact Nat.zero_le _
  omega
/-- what placeAll leaves -/
def plA (y : ow_MS) (A : rn_L) (sg : Nat → Bool) (c : Nat) : Prop := (∀ i, i < 800 → inR y 85 i 1141) ∧ ∀ i, i < bsN A sg (2 ^ c) → inR y 84 i 1200
abbrev plH (g : Nat) : Prop := 84 ≤ g ∧ g ≤ 87
theorem u_X13_placeAll_2 {x1 : Int32} {x2 : Int32} {x3 : Int32} {z : ow_MS} {Q : ow_MS → Prop} (H : Tt (fun K k => qm_X13_placeAll_2 K (q_X13_placeAll K k) x1 x2 x3 z) Q) : Tt (fun K k => q_X13_placeAll K k 2 x1 x2 x3 z) Q := w_un (fun _ _ => rfl) H
theorem u_X13_placeAll_3 {x1 : Int32} {x2 : Int32} {x3 : Int32} {z : ow_MS} {Q : ow_MS → Prop} (H : Tt (fun K k => qm_X13_placeAll_3 K (q_X13_placeAll K k) x1 x2 x3 z) Q) : Tt (fun K k => q_X13_placeAll K k 3 x1 x2 x3 z) Q := w_un (fun _ _ => rfl) H
theorem u_X13_placeAll_1 {x1 : Int32} {x2 : Int32} {x3 : Int32} {z : ow_MS} {Q : ow_MS → Prop} (H : Tt (fun K k => qm_X13_placeAll_1 K (q_X13_placeAll K k) x1 x2 x3 z) Q) : Tt (fun K k => q_X13_placeAll K k 1 x1 x2 x3 z) Q := w_un (fun _ _ => rfl) H
theorem e_X13_placeAll {x1 : Int32} {z : ow_MS} {Q : ow_MS → Prop} (H : Tt (fun K k => q_X13_placeAll K k 0 x1 0 0 z) Q) : Te (fun K => qe_X13_placeAll K x1 z) Q := w_te H
theorem u_X13_placeAll_0 {x1 : Int32} {x2 : Int32} {x3 : Int32} {z : ow_MS} {Q : ow_MS → Prop} (H : Tt (fun K k => qm_X13_placeAll_0 K (q_X13_placeAll K k) x1 x2 x3 z) Q) : Tt (fun K k => q_X13_placeAll K k 0 x1 x2 x3 z) Q := w_un (fun _ _ => rfl) H
theorem tp_placeAll {c P mi : Nat} {A : rn_L} {sg : Nat → Bool} (hK : chOK A sg c P) (hI : stI z A sg c) (h88 : z.1 88 = nI mi) (hmi : mi ≤ c) : Te (fun K => qe_X13_placeAll K (nI c) z) (fun z1 => plA z1 A sg c ∧ fr plH z z1) := by
  have hK' := hK
  obtain ⟨hok, hc, hC, hL9, hbs, hblk⟩ := hK
  have h2c : 2 ^ c ≤ 256 := two_mono (b := 8) hc
  let Q : ow_MS → Prop := fun z1 => plA z1 A sg c ∧ fr plH z z1
  have iF : ∀ {y : ow_MS}, fr plH z y → stI y A sg c := fun hf => stI_fr hf (by unfold plH; omega) (by unfold plH; omega) (by unfold plH; omega) hI
  let w : Nat → Nat := fun s => mbt (LcN A sg s)
  have wle : ∀ h s, s ≤ 2 ^ c → smH w h 0 s ≤ 1140 := fun h s hs => Nat.le_trans (smH_mono _ hs) (hblk h)
  have c2 : ∀ (d s : Nat) (y : ow_MS), s + d = 2 ^ c → fr plH z y → (∀ h q, h < 10 → q < 80 → ∃ v, v ≤ smH w h 0 s ∧ y.2.1 85 (80 * h + q) = nI v) → (∀ i, i < bsN A sg s → inR y 84 i 1200) → Tt (fun K i => q_X13_placeAll K i 2 (nI c) (nI s) 0 y) Q := by
    intro d
    induction d with
    | zero =>
      intro s y hs hf h85 h84
      have hs : s = 2 ^ c := by omega
      refine u_X13_placeAll_2 ?_; unfold qm_X13_placeAll_2
      rw [shl1 (by omega)]
      refine w_leT (by omega) (by omega) (w_some ⟨⟨fun i hi => ?_, fun i hi => h84 i (by rw [hs]; exact hi)⟩, hf⟩)
      obtain ⟨v, hv, ev⟩ := h85 (i / 80) (i % 80) (by omega) (by omega)
      rw [show 80 * (i / 80) + i % 80 = i by omega] at ev
      have := wle (i / 80) s (by omega)
      exact ⟨v, by omega, ev⟩
    | succ d ih =>
      intro s y hs hf h85 h84
      have hsl : s < 2 ^ c := by omega
      have hL := hL9 s hsl
      have h2L : 2 ^ LcN A sg s ≤ 512 := two_mono (b := 9) hL
      have hps := pc_le hsl
      have hb1 : bsN A sg (s + 1) ≤ 13122 := Nat.le_trans (bs_mono (by omega)) hbs
      rw [bs_s] at hb1
      have hss : ∀ h, smH w h 0 (s + 1) = smH w h 0 s + if pc s = h then w s else 0 := fun h => by
        show smH w h 0 s + (if pc s = h then w (0 + s) else 0) = _
        rw [Nat.zero_add]
      have c3 : ∀ (d2 m : Nat) (y : ow_MS), m + d2 = 2 ^ LcN A sg s → fr plH z y → (∀ h q, h < 10 → q < 80 → ∃ v, v ≤ smH w h 0 s + (if pc s = h then cmN A sg c mi s q m else 0) ∧ y.2.1 85 (80 * h + q) = nI v) → (∀ i, i < bsN A sg s + m → inR y 84 i 1200) → Tt (fun K i => q_X13_placeAll K i 3 (nI c) (nI s) (nI m) y) Q := by
        intro d2
        induction d2 with
        | zero =>
          intro m y hm hf h85 h84
          refine u_X13_placeAll_3 ?_; unfold qm_X13_placeAll_3
          refine w_rdI ml82 rfl (by omega) ((iF hf).1 s hsl) ?_
          rw [shl1 (by omega), nI_1]
          refine w_leT (by omega) (by omega) (ih (s + 1) y (by omega) hf (fun h q hh hq => ?_) (fun i hi => h84 i (by rw [bs_s] at hi; omega)))
          obtain ⟨v, hv, ev⟩ := h85 h q hh hq
          refine ⟨v, ?_, ev⟩
          rw [hss]
          have := cm_le (A := A) (sg := sg) (c := c) (mi := mi) (s := s) (q := q) (m := m) hL hmi hc (by omega)
          have this : cmN A sg c mi s q m ≤ w s := this
          by_cases hps2 : pc s = h
          · rw [if_pos hps2] at hv ⊢; omega
          · rw [if_neg hps2] at hv ⊢; omega
        | succ d2 ih3 =>
          intro m y hm hf h85 h84
          have hml : m < 2 ^ LcN A sg s := by omega
          have hIy := iF hf
          have h88y : y.1 88 = nI mi := by rw [(hf 88 (by unfold plH; omega)).1]; exact h88
          obtain ⟨tq, hq80⟩ := tp_qOf hK' hIy h88y hmi hsl hml
          obtain ⟨v, hv, ev⟩ := h85 (pc s) (qvN A sg c mi s m) (by omega) hq80
          rw [if_pos rfl] at hv
          have hcm := cm_le (A := A) (sg := sg) (c := c) (mi := mi) (s := s) (q := qvN A sg c mi s m) (m := m + 1) hL hmi hc (by omega)
          have hcs : cmN A sg c mi s (qvN A sg c mi s m) (m + 1) = cmN A sg c mi s (qvN A sg c mi s m) m + 1 := by
            show _ + (if _ then 1 else 0) = _
            rw [if_pos rfl]
          have hw1 := wle (pc s) (s + 1) (by omega)
          rw [hss, if_pos rfl] at hw1
          have hw1 : smH w (pc s) 0 s + mbt (LcN A sg s) ≤ 1140 := hw1
          refine u_X13_placeAll_3 ?_; unfold qm_X13_placeAll_3
          refine w_rdI ml82 rfl (by omega) (hIy.1 s hsl) ?_
          rw [shl1 (by omega)]
          refine w_leF (by omega) (by omega) (w_rdF h88y (w_cs1 tq (fun a y1 e1 => ?_)))
          cases e1
          rw [bc_pc (by omega), show (80 : Int32) * nI (pc s) = nI (80 * pc s) from pk_mul 80 _, nI_add, nI_1]
          refine w_rdI ml83 rfl (by omega) (hIy.2.1 s (by omega)) (w_rdI ml85 rfl (by omega) ev (w_wrI (i := bsN A sg s + m) ml84 (nI_add _ _) (by omega) (w_rdI (x := nI v) ml85 rfl (by omega) (rd_ot (by omega) ev) (w_wrI ml85 rfl (by omega) (ih3 (m + 1) _ (by omega) (fr_I2 (fr_I2 hf (by unfold plH; omega)) (by unfold plH; omega)) (fun h q hh hq => ?_) (fun i hi => inR_ot (by omega) ?_))))))
          · by_cases hat : 80 * h + q = 80 * pc s + qvN A sg c mi s m
            · have e1 : h = pc s := by omega
              have e2 : q = qvN A sg c mi s m := by omega
              rw [e1, e2]
              refine ⟨v + 1, ?_, po_usI_at.trans (nI_1 v)⟩
              rw [if_pos rfl, hcs]
              omega
            · obtain ⟨v2, hv2, ev2⟩ := h85 h q hh hq
              refine ⟨v2, Nat.le_trans hv2 ?_, rd_ne hat (rd_ot (by omega) ev2)⟩
              by_cases hps2 : pc s = h
              · rw [if_pos hps2, if_pos hps2]
                exact Nat.add_le_add_left (Nat.le_add_right _ _) _
              · rw [if_neg hps2, if_neg hps2]
                exact Nat.le_refl _
          · by_cases hi2 : i = bsN A sg s + m
            · rw [hi2]; exact inR_set (by omega)
            · exact inR_keep (h84 i (by omega)) ⟨v, by omega, rfl⟩
      refine u_X13_placeAll_2 ?_; unfold qm_X13_placeAll_2
      rw [shl1 (by omega)]
      refine w_leF (by omega) (by omega) (c3 (2 ^ LcN A sg s) 0 y (by omega) hf (fun h q hh hq => ?_) (fun i hi => h84 i (by omega)))
      obtain ⟨v, hv, ev⟩ := h85 h q hh hq
      exact ⟨v, by omega, ev⟩
  have c1 : ∀ (d i : Nat) (y : ow_MS), i + d = 800 → fr plH z y → (∀ k, k < i → y.2.1 85 k = 0) → Tt (fun K t => q_X13_placeAll K t 1 (nI c) (nI i) 0 y) Q := by
    intro d
    induction d with
    | zero =>
      intro i y hi hf h0
      refine u_X13_placeAll_1 ?_; unfold qm_X13_placeAll_1
      exact w_leT (a := 800) (by omega) (by omega) (c2 (2 ^ c) 0 y (by omega) hf (fun h q hh hq => ⟨0, Nat.zero_le _, h0 _ (by omega)⟩) (fun k hk => absurd hk (by show ¬ k < 0; omega)))
    | succ d ih =>
      intro i y hi hf h0
      refine u_X13_placeAll_1 ?_; unfold qm_X13_placeAll_1
      rw [nI_1]
      refine w_leF (a := 800) (by omega) (by omega) (w_wrI ml85 rfl (by omega) (w_wrI ml86 rfl (by omega) (w_wrI ml87 rfl (by omega) (ih (i + 1) _ (by omega) (fr_I2 (fr_I2 (fr_I2 hf (by unfold plH; omega)) (by unfold plH; omega)) (by unfold plH; omega)) (fun k hk => rd_ot (by omega) (rd_ot (by omega) ?_))))))
      by_cases hki : k = i
      · rw [hki, po_usI_at]
      · exact rd_ne hki (h0 k (by omega))
  refine e_X13_placeAll ?_
  refine u_X13_placeAll_0 ?_; unfold qm_X13_placeAll_0
  exact c1 800 0 z (by omega) fr_rf (fun k hk => absurd hk (by omega))
end CHA
