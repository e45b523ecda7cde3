/-! maps: what the class answers -/
def mxQ (g : Nat) : Prop := 4001 ≤ g ∧ g ≤ 4011 ∨ 41001 ≤ g ∧ g ≤ 41002 ∨ 41008 ≤ g ∧ g ≤ 41016
section XMK
theorem at9_24 {g n : Nat} {L : List Nat} (hg : g ≤ 24) (h1 : L.length = n) (h : ∀ b, b < n → at9 L b < g) (b : Nat) : at9 L b < 24 := by
  rcases Nat.lt_or_ge b n with h9 | h9
  · have := h b h9
    omega
  · unfold at9
    rw [List.getElem?_eq_none (by omega)]
    decide
theorem sP_ar {g n c p : Nat} {S : ow_NP} {ng : Nat → Bool} {lab pr : Nat → Nat} {P : List sT9} {U : List Nat} (hg : g ≤ 24) (hI : pI9 c S ng lab pr p P U) (hU : ∀ x, x < c → pr (2 * x) = p → x ∈ U) (hT : ∀ w, w < 2 * c → pr w = p → lab w ∈ tos P) (L : List Nat) : sP9 g n P L ↔ ar9 g (fun x o i => cjS (ng x) o i) n c S (fun w => decide (pr w = p)) lab L := by
  have us : ∀ b, b ∈ tos P ↔ us9 c (fun w => decide (pr w = p)) lab b := fun b => by
    constructor
    · intro hb
      obtain ⟨w, w1, w2, w3⟩ := tos_part hI hb
      exact ⟨w, w1, decide_eq_true w2, w3⟩
    · rintro ⟨w, w1, w2, w3⟩
      rw [← w3]
      exact hT w w1 (of_decide_eq_true w2)
  constructor
  · rintro ⟨h1, h2, h3⟩
    have b24 := at9_24 hg h1 (fun b hb => (h2 b hb).1)
    refine ⟨h1, fun b hb => ⟨(h2 b hb).1, fun h9 => (h2 b hb).2 (fun h8 => h9 ((us b).mp h8))⟩, fun x hx hp => ?_⟩
    obtain ⟨-, -, t, t1, t2, t3⟩ := hI.2.1 x (hU x hx (of_decide_eq_true hp))
    exact (t3 _ b24).mp (h3 t t1 t2)
  · rintro ⟨h1, h2, h3⟩
    have b24 := at9_24 hg h1 (fun b hb => (h2 b hb).1)
    refine ⟨h1, fun b hb => ⟨(h2 b hb).1, fun h9 => (h2 b hb).2 (fun h8 => h9 ((us b).mpr h8))⟩, fun t t1 t2 => ?_⟩
    obtain ⟨x, x1, x2, x3⟩ := (hI.2.2.1 t t1).2 t2
    exact (x3 _ b24).mpr (h3 x x1 (decide_eq_true x2))
variable {vl : Nat → Nat} {y : ow_MS} {x x' : Int32} {St : plT}
theorem xc_countMaps {A : rn_L} {sg : Nat → Bool} {c m : Nat} {S : ow_NP} {G : Nat → Int32} (hJ : jnN A sg c S G) (hy : cAt y 4000 (c, cirs A, S, G)) (hm1 : 1 ≤ m) (hm4 : m ≤ 4) (hc7 : c ≤ 7) (hA4 : A.length ≤ 4) (hcj : cjT y) (hv9 : ∃ v, vR9 y v) : Te (fun K => ce_X0_countMaps vl K 41000 4000 (nI m) y) (fun r => (∃ N, r.1 = Int64.ofNat (N * thM m ^ cirs A) ∧ cnt9 (cl9 (thM m) (fun x o i => cjS (sg x) o i) c S (fun _ => true)) N) ∧ fr mxQ y r.2) := by
  let Q : Int64 × ow_MS → Prop := fun r => (∃ N, r.1 = Int64.ofNat (N * thM m ^ cirs A) ∧ cnt9 (cl9 (thM m) (fun x o i => cjS (sg x) o i) c S (fun _ => true)) N) ∧ fr mxQ y r.2
  obtain ⟨hA, hi, hv, hG⟩ := hJ
  have hc := hA.2.2.2.1
  have h6 := hA.2.2.2.2
  have nc := neC_cirs A
  have h24 := (thM_le m).2
  obtain ⟨q, q1, q2, q3, R, q4, q5⟩ := iso_q hi hv
  obtain ⟨v0, hv0⟩ := hv9
  have c1 : Tt (fun K k => c_X0_countMaps vl K k 1 (nI m) 0 0 0 41000 4000 (nI (thM m)) y) Q := by
    refine u_X0_countMaps_1 ?_; unfold cm_X0_countMaps_1
    refine w_cs0 (xc_markArcs (m := neC A) nH4 hy hv hc (by omega) q2 q3 q4 q5 (by omega)) ?_
    rintro y1 ⟨⟨a, n, hs, n1, n2, hA9⟩, f1⟩
    have hlb := arc_lb hv q2 q3 hs hA9
    obtain ⟨s1, s2, s3, s4, s5⟩ := hs
    have hy1 : cAt y1 4000 (c, cirs A, S, G) := cAt_fr f1 (fun g hg h9 => by unfold cP at hg; unfold arP at h9; omega) hy
    refine w_cs0 (tc_markParts nH4 hy1 (fun k hk => (hv k hk).1) hc) ?_
    rintro y2 ⟨g1, g2, f2⟩
    obtain ⟨m1, m2⟩ := np_parts_of (fun a ha => (hv a ha).1) hc (y1.2.1 (4000 + 6))
    have g2 : y2.1 4011 = nI (np_parts c S.1).2 := by
      rw [← m2]
      exact g2
    have g1 : ∀ w, w < 2 * c → y2.2.1 4006 w = (np_parts c S.1).1 w := fun w hw => by
      rw [← m1 w hw]
      exact g1 w
    obtain ⟨pi1, pi2, pi3, pi4⟩ := parts_I hv hc
    have pl : (np_parts c S.1).2 ≤ 2 * c := mp_out_le S.1 (2 * c) (fun _ => -1) (2 * c)
    generalize np_parts c S.1 = PT at g1 g2 pi1 pi2 pi3 pi4 pl
    obtain ⟨pr, hpr⟩ : ∃ pr : Nat → Nat, ∀ w, w < 2 * c → pr w < PT.2 ∧ PT.1 w = nI (pr w) := by
      refine Classical.axiomOfChoice (r := fun w r => w < 2 * c → r < PT.2 ∧ PT.1 w = nI r) (fun w => ?_)
      by_cases hw : w < 2 * c
      · obtain ⟨r, r1, r2⟩ := pi2 w hw
        exact ⟨r, fun _ => ⟨r1, r2⟩⟩
      · exact ⟨0, fun h9 => absurd h9 hw⟩
    have prE : ∀ w u, w < 2 * c → u < 2 * c → PT.1 w = PT.1 u → pr w = pr u := fun w u hw hu e => by
      obtain ⟨a1, a2⟩ := hpr w hw
      obtain ⟨b1, b2⟩ := hpr u hu
      exact nI_inj9 (by omega) (by omega) (a2.symm.trans (e.trans b2))
    have hd : ∀ w, w < 2 * c → pr (S.2 w) = pr w := fun w hw => by
      obtain ⟨-, b2, -, b4⟩ := hv w hw
      refine prE _ _ b2 hw ?_
      have := (pi1 _ b2).1
      rw [b4] at this
      exact this.symm
    have hd2 : ∀ x, x < c → pr (2 * x + 1) = pr (2 * x) := fun x hx => by
      refine prE _ _ (by omega) (by omega) ?_
      have := (pi1 (2 * x) (by omega)).2
      rw [mt_ev x] at this
      exact this
    have hy2 : cAt y2 4000 (c, cirs A, S, G) := cAt_fr f2 (fun g hg h9 => by unfold cP at hg; unfold cQ at h9; omega) hy1
    have f02 : fr (fun g => 4001 ≤ g ∧ g ≤ 4011 ∨ g = 41001 ∨ g = 41002) y y2 := fr_tr (fr_mono (fun g hg => by unfold arP at hg; omega) f1) (fr_mono (fun g hg => by unfold cQ at hg; omega) f2)
    have hcj2 : cjT y2 := ⟨fun o x ho hx => by rw [(f02 41006 (by omega)).2.1]; exact hcj.1 o x ho hx, fun o ho => by rw [(f02 41007 (by omega)).2.1]; exact hcj.2 o ho⟩
    refine w_cs0 (xc_findCl h24 hcj2) ?_
    rintro y3 ⟨hcl3, f3⟩
    have f03 : fr mxQ y y3 := fr_tr (fr_mono (fun g hg => by unfold mxQ; omega) f02) (fr_mono (fun g hg => by unfold mxQ; omega) f3)
    have hN3 : plN y3 c (cirs A) S G a (n + cirs A) := by
      refine plN_fr f3 (fun g hg => by unfold cP; omega) ⟨hy2, hv, hc, by omega, fun v hv2 => ?_, ?_⟩
      · rw [(f2 41001 (by unfold cQ; omega)).2.1]
        exact ⟨(s1 v hv2).1, by have := (s1 v hv2).2; omega⟩
      · rw [(f2 41002 (by unfold cQ; omega)).1]
        exact s5
    have hcj3 : cjT y3 := ⟨fun o x ho hx => by rw [(f3 41006 (by omega)).2.1]; exact hcj2.1 o x ho hx, fun o ho => by rw [(f3 41007 (by omega)).2.1]; exact hcj2.2 o ho⟩
    have hv3 : vR9 y3 v0 := fun b hb => by
      rw [(f3 41009 (by omega)).2.1, (f02 41009 (by omega)).2.1]
      exact hv0 b hb
    have hr3 : ∀ w, w < 2 * c → y3.2.1 4006 w = nI (pr w) := fun w hw => by
      rw [(f3 4006 (by omega)).2.1, g1 w hw]
      exact (hpr w hw).2
    have e3 : y3.1 4011 = nI PT.2 := (f3 4011 (by decide)).1.trans g2
    have hng : ∀ x, x < c → sg x = decide (G x ≤ 0) := fun x hx => by
      rw [hG x hx]
      cases sg x <;> decide
    have tg : (nI (thM m)).toInt64 = Int64.ofNat (thM m) := i64_24 ⟨thM m, by omega⟩
    have c3 : ∀ (d i : Nat) (f : Nat → Nat) (v : Nat → Nat) (z : ow_MS), i + d = PT.2 → vR9 z v → fr (fun g => 41009 ≤ g ∧ g ≤ 41016) y3 z → (∀ p, p < i → cnt9 (cl9 (thM m) (fun x o i => cjS (sg x) o i) c S (fun w => decide (pr w = p))) (f p)) → Tt (fun K k => c_X0_countMaps vl K k 3 (nI m) (nI (thM m)) (nI i) (Int64.ofNat (pd9 f i * thM m ^ cirs A)) 41000 4000 0 z) Q := by
      intro d
      induction d with
      | zero =>
        intro i f v z hi2 hz hf hF
        have ei : i = PT.2 := by omega
        rw [ei] at hF
        refine u_X0_countMaps_3 ?_; unfold cm_X0_countMaps_3
        refine w_rdF ((hf 4011 (by omega)).1.trans e3) (w_leT (by omega) (by omega) (w_some ⟨⟨pd9 f i, rfl, ?_⟩, fr_tr f03 (fr_mono (fun g hg => by unfold mxQ; omega) hf)⟩))
        rw [ei]
        exact cl_prod hv (thM_pos m) (fun w hw => ⟨(hpr w hw).1, hd w hw⟩) hd2 hF
      | succ d ih =>
        intro i f v z hi2 hz hf hF
        refine u_X0_countMaps_3 ?_; unfold cm_X0_countMaps_3
        refine w_rdF ((hf 4011 (by omega)).1.trans e3) (w_leF (by omega) (by omega) (w_cs0 (xc_planPart (ng := sg) (pr := pr) (p := i) (plN_fr hf (fun g hg => by unfold cP; omega) hN3) hng hd hd2 (fun w hw => ⟨by rw [(hf 4006 (by omega)).2.1]; exact hr3 w hw, by have := (hpr w hw).1; omega⟩) (by omega) hc7 (by omega) ?_) ?_))
        · obtain ⟨w, w1, w2⟩ := pi3 i (by omega)
          exact ⟨w, w1, nI_inj9 (by have := (hpr w w1).1; omega) (by omega) ((hpr w w1).2.symm.trans w2)⟩
        · rintro z1 ⟨k1, P, U, k2, k3, k4, k5, k6⟩
          have ok : okP9 n P := ⟨k4.2.2.2, fun b hb => by
            obtain ⟨w, w1, -, w3⟩ := tos_part k4 hb
            rw [← w3]
            exact (s1 w w1).2⟩
          have f31 : fr (fun g => 41009 ≤ g ∧ g ≤ 41016) y3 z1 := fr_tr hf (fr_mono (fun g hg => by unfold plR at hg; omega) k1)
          have hz1 : vR9 z1 v := fun b hb => by
            rw [(k1 41009 (by unfold plR; omega)).2.1]
            exact hz b hb
          have hcjz : cjT z1 := ⟨fun o x ho hx => by rw [(f31 41006 (by omega)).2.1]; exact hcj3.1 o x ho hx, fun o ho => by rw [(f31 41007 (by omega)).2.1]; exact hcj3.2 o ho⟩
          refine w_cs1 (xc_countF (n := n) hm1 hm4 ok (by omega) k3 19 0 0 20 v z1 (by omega) (by omega) (Nat.zero_le _) (Nat.zero_le _) (fun _ => rfl) hz1 k2 hcjz (fun l hl => ?_) (fun b hb => absurd hb List.not_mem_nil) (fun i t hi => absurd hi (Nat.not_lt_zero _))) ?_
          · rw [(f31 41008 (by omega)).2.1]
            exact hcl3 l hl
          · rintro u z2 ⟨⟨v', a1, -⟩, a2, M, a3, a4⟩
            have a3 : u = Int64.ofNat M := a3
            have a2 : fr (fun q => q = 41009) z1 z2 := a2
            have a1 : vR9 z2 v' := a1
            rw [nI_1, a3, ← Int64.ofNat_mul]
            have hM : cnt9 (cl9 (thM m) (fun x o i => cjS (sg x) o i) c S (fun w => decide (pr w = i))) M := by
              refine ar_cl hv ⟨fun w hw => by dsimp only; rw [hd w hw], fun x hx => by dsimp only; rw [hd2 x hx]⟩ hlb (thM_pos m) (cnt_cg (fun L => ?_) a4)
              refine Iff.trans ⟨fun h9 => h9.1, fun h9 => ⟨h9, fun b hb => absurd hb List.not_mem_nil⟩⟩ (sP_ar h24 k4 k5 k6 L)
            have := ih (i + 1) (ud9 f i M) v' z2 (by omega) a1 (fr_tr f31 (fr_mono (fun g hg => by omega) a2)) (fun p hp => ?_)
            · have e9 : pd9 (ud9 f i M) (i + 1) = pd9 f i * M := by
                show pd9 (ud9 f i M) i * ud9 f i M i = _
                rw [ud9_at, pd9_cg i (fun q hq => ud9_ne (by omega))]
              rw [e9, Nat.mul_right_comm] at this
              exact this
            · by_cases ep : p = i
              · rw [ep, ud9_at]
                exact hM
              · rw [ud9_ne ep]
                exact hF p (by omega)
    have c2 : ∀ (d i : Nat), i + d = cirs A → Tt (fun K k => c_X0_countMaps vl K k 2 (nI m) (nI (thM m)) (nI i) (Int64.ofNat (thM m ^ i)) 41000 4000 0 y3) Q := by
      intro d
      induction d with
      | zero =>
        intro i hi2
        have ei : i = cirs A := by omega
        subst ei
        have := c3 PT.2 0 (fun _ => 0) v0 y3 (by omega) hv3 fr_rf (fun p hp => absurd hp (Nat.not_lt_zero _))
        rw [show pd9 (fun _ => 0) 0 * thM m ^ cirs A = thM m ^ cirs A from Nat.one_mul _] at this
        refine u_X0_countMaps_2 ?_; unfold cm_X0_countMaps_2
        exact w_rdF (x := nI (cirs A)) hN3.1.2.1 (w_leT (by omega) (by omega) this)
      | succ d ih =>
        intro i hi2
        have := ih (i + 1) (by omega)
        rw [Nat.pow_succ, Int64.ofNat_mul] at this
        refine u_X0_countMaps_2 ?_; unfold cm_X0_countMaps_2
        rw [nI_1, tg]
        exact w_rdF (x := nI (cirs A)) hN3.1.2.1 (w_leF (by omega) (by omega) this)
    exact c2 (cirs A) 0 (by omega)
  refine e_X0_countMaps ?_
  refine u_X0_countMaps_0 ?_; unfold cm_X0_countMaps_0
  have mm : m = 1 ∨ m = 2 ∨ m = 3 ∨ m = 4 := by omega
  rcases mm with rfl | rfl | rfl | rfl
  · exact w_ifF (by decide) (w_ifF (by decide) c1)
  · exact w_ifF (by decide) (w_ifF (by decide) c1)
  · exact w_ifF (by decide) (w_ifT (by decide) c1)
  · exact w_ifT (by decide) c1
def mC9 (A : rn_L) (sg : Nat → Bool) (m : Nat) (v : Int32) : Prop := ∃ c S G N, jnN A sg c S G ∧ v = nI (N * thM m ^ cirs A) ∧ cnt9 (cl9 (thM m) (fun x o i => cjS (sg x) o i) c S (fun _ => true)) N
theorem xc_maps (hM : gM y) (hC : relC y St) (hS : okS St) (hcj : cjT y) (hp : mpC y) : Te (fun K => ce_X11_maps vl K 0 x x' y) (fun r => fr mxQ y r.2.2 ∧ ((r.1 = 1 ∧ ∀ d, d < 40 → x = nI d → St d = none) ∨ ∃ d A sg, d < 40 ∧ x = nI d ∧ St d = some (A, sg) ∧ (r.1 = 2 ∧ (x' < 1 ∨ ¬ x' ≤ 4) ∨ (¬ x' < 1 ∧ x' ≤ 4) ∧ (r.1 = 4 ∧ (14 < A.flatten.length ∨ 4 < A.length) ∨ r.1 = 0 ∧ A.flatten.length ≤ 14 ∧ A.length ≤ 4 ∧ ∀ m, 1 ≤ m → m ≤ 4 → x' = nI m → mC9 A sg m r.2.1)))) := by
  refine e_X11_maps ?_; unfold cm_X11_maps_0
  refine w_tc0 (xc_need hM.1.1 hC hS) ?_ ?_
  · rintro y1 ⟨h1, rfl⟩
    rcases h1 with h1 | ⟨-, d, A, sg, c, hd, rfl, hSt, hs, hA, hne, hpl⟩
    · exact absurd (show (0 : Nat) = 1 from h1.1) (by decide)
    · have hl := okF_len hA.1
      refine w_if (fun h9 => w_some ⟨fr_rf, Or.inr ⟨d, A, sg, hd, rfl, hSt, Or.inl ⟨rfl, Or.inl h9⟩⟩⟩) (fun h0 => w_if (fun h4 => ?_) (fun h9 => w_some ⟨fr_rf, Or.inr ⟨d, A, sg, hd, rfl, hSt, Or.inl ⟨rfl, Or.inr h9⟩⟩⟩))
      refine w_cs0 (tc_ld3 nH4 hM.1 hd hs hA) ?_
      rintro y2 ⟨g1, g2, S, G, g3, g4⟩
      have hc12 := hA.2.2.2.1
      have f2 : fr mxQ y1 y2 := fr_mono (fun g hg => by unfold cL at hg; unfold mxQ; omega) g2
      have hcj2 : cjT y2 := ⟨fun o x ho hx => by rw [(g2 41006 (by unfold cL; omega)).2.1]; exact hcj.1 o x ho hx, fun o ho => by rw [(g2 41007 (by unfold cL; omega)).2.1]; exact hcj.2 o ho⟩
      have hv2 : ∃ v, vR9 y2 v := by
        obtain ⟨v, hv⟩ : ∃ v : Nat → Nat, ∀ b, b < 18 → v b < 24 ∧ y1.2.1 41009 b = nI (v b) := by
          refine Classical.axiomOfChoice (r := fun b k => b < 18 → k < 24 ∧ y1.2.1 41009 b = nI k) (fun b => ?_)
          by_cases hb : b < 18
          · obtain ⟨k, k1, k2⟩ := hp.2.2 b hb
            exact ⟨k, fun _ => ⟨k1, k2⟩⟩
          · exact ⟨0, fun h9 => absurd h9 hb⟩
        refine ⟨v, fun b hb => ?_⟩
        rw [(g2 41009 (by unfold cL; omega)).2.1]
        exact ⟨(hv b hb).2, (hv b hb).1⟩
      refine w_rdF g3.1.1 (w_lt (a := 7) (by omega) (by omega) (fun h9 => w_some ⟨f2, Or.inr ⟨d, A, sg, hd, rfl, hSt, Or.inr ⟨⟨h0, h4⟩, Or.inl ⟨rfl, Or.inl (by omega)⟩⟩⟩⟩) (fun h7 => w_rdF g3.2.2.2.2.2 (w_le (b := 4) (by have := hA.2.2.2.2; omega) (by omega) (fun h44 => ?_) (fun h9 => w_some ⟨f2, Or.inr ⟨d, A, sg, hd, rfl, hSt, Or.inr ⟨⟨h0, h4⟩, Or.inl ⟨rfl, Or.inr h9⟩⟩⟩⟩))))
      obtain ⟨m, m31, rfl⟩ := nI_of (x := x') (fun h => h0 (by
        rw [Int32.lt_iff_toInt_lt] at h ⊢
        exact Int.lt_trans h (by decide)))
      have hm4 : m ≤ 4 := (nI_leI m31 (by omega)).mp h4
      have hm1 : 1 ≤ m := by
        rcases Nat.eq_zero_or_pos m with h9 | h9
        · exact absurd (show nI m < 1 by rw [h9]; decide) h0
        · exact h9
      refine w_cs1 (xc_countMaps g4 g3.1 hm1 hm4 (by omega) h44 hcj2 hv2) ?_
      rintro v y3 ⟨⟨N, e1, e2⟩, f3⟩
      have f3 : fr mxQ y2 y3 := f3
      have e1 : v = Int64.ofNat (N * thM m ^ cirs A) := e1
      refine w_some ⟨fr_tr f2 f3, Or.inr ⟨d, A, sg, hd, rfl, hSt, Or.inr ⟨⟨h0, h4⟩, Or.inr ⟨rfl, by omega, h44, fun m' k1 k2 k3 => ?_⟩⟩⟩⟩
      rw [← nI_inj9 (a := m) (b := m') (by omega) (by omega) k3]
      refine ⟨c, S, G, N, g4, ?_, e2⟩
      show v.toInt32 = _
      rw [e1, Int64.toInt32_ofNat']
      rfl
  · rintro a y1 ha ⟨h1, rfl⟩
    rcases h1 with h1 | h1
    · exact w_some ⟨fr_rf, Or.inl ⟨h1.1, h1.2⟩⟩
    · exact absurd h1.1 ha
end XMK
