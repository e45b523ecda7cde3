section
/-! 99zzzzzzzzzzzzzi.xsu17 -/
/-! summands: both sides -/
section XTD
variable {vl : Nat → Nat} {y : ow_MS} {St : plT} {x : Int32}
theorem xc_summands (hN : gM y) (hC : relC y St) (hS : okS St) : Te (fun K => ce_X11_summands vl K 0 x y) (fun r => (r.1 = 1 ∧ r.2.2 = y ∧ ∀ d, d < 40 → x = nI d → St d = none) ∨ ∃ d A sg c, d < 40 ∧ x = nI d ∧ St d = some (A, sg) ∧ okL A c ∧ A ≠ [] ∧ plnA A sg ∧ r.1 = 0 ∧ ∃ T Cs os, nv T ∧ isoV A sg (fun x => x) T ∧ pm1 T ∧ nt_plane T = true ∧ cpZ (ntS T (np_all T.1 12 T.2.2.1)) (np_parts T.1 (np_all T.1 12 T.2.2.1).1).2 Cs os ∧ tbO r.2.2 3000 12 Cs os ∧ r.2.1 = nI os.length) := by
  refine e_X11_summands ?_; unfold cm_X11_summands_0
  refine w_tc0 (xc_need hN.1.1 hC hS) ?_ ?_
  · rintro y1 ⟨h1, rfl⟩
    rcases h1 with h1 | ⟨-, d, A, sg, c, hd, rfl, hSt, hs, hA, hne, hpl⟩
    · exact absurd (show (0 : Nat) = 1 from h1.1) (by decide)
    · refine w_cs0 (xc_ld hN.1 hd hs hA hpl) ?_
      rintro y3 ⟨hN3, f3, T, hT, hT1, hV, hpm, hplT⟩
      have hv := hT.2.2.1
      have hb3 : tbs y3 := tbs_fr f3 (fun g hg => by unfold cL at hg; omega) hN.2
      refine w_cs0 (tc_partAll nH4 hT.1 hv.2.2.1 hv.1 hv.2.1) ?_
      rintro y4 ⟨g1, g2⟩
      have hfw : fwR T.1 T.2.2.1 := by
        have h6 := hv.2.2.2
        unfold fwR
        rcases Nat.eq_zero_or_pos T.1 with e | e
        · have : np_rg T.1 T.2.2.1 = 0 := by
            rw [e]
            rfl
          omega
        · have hp : 0 < (np_parts T.1 T.2.2.1.1).2 := by
            obtain ⟨r, r1, -⟩ := (parts_I hv.1 hv.2.1).2.1 0 (by omega)
            omega
          omega
      obtain ⟨n1, n2, n3⟩ := all_ok hv.2.1 12 T.2.2.1 hv.1 hv.2.2.1 hfw
      have hci : T.2.1 ≤ 6 := by have := hv.2.2.2; omega
      have hN4 : gN y4 := gN_net nH4 g2 (fun g hg => by unfold cO cP cR cQ at hg; omega) ⟨_, g1, n2⟩ hN3
      have hb4 : tbs y4 := tbs_fr g2 (fun g hg => by unfold cO cP cR cQ at hg; omega) hb3
      have hk7 := hN4.2.2 7000 (Or.inl rfl)
      obtain ⟨C3, o3, t3⟩ := hb4.2.1
      refine w_cs0 (tc_collectParts (Or.inl rfl) nH4 tH3 (by omega) (by omega) g1 n1 hv.2.1 n2 (fun r hr => (fwR_pt n1 hv.2.1 n3 hr).2) hk7.2.1 t3.2.2.2.2) ?_
      rintro y5 ⟨⟨Cs, os, z1, z2⟩, b1, b2, hy5, f5⟩
      have hl : os.length ≤ 12 := by
        have h9 := parts_le n1 hv.2.1
        have h8 : Cs.length = os.length := z2.2.1
        have h7 : Cs.length = (np_parts T.1 (np_all T.1 12 T.2.2.1).1).2 := z1.1
        have h6 : (np_parts T.1 (np_all T.1 12 T.2.2.1).1).2 ≤ T.1 := h9
        have := hv.2.1
        omega
      have ht5 : tbO y5 3000 12 Cs os := by
        refine ⟨z2, z1.2.2.2, fun C hC => ?_, hl, b2⟩
        obtain ⟨r, hr⟩ := List.getElem?_of_mem hC
        have hr2 := (List.getElem?_eq_some_iff.mp hr).1
        obtain ⟨e1, e2⟩ := z1.2.1 r C hr
        exact part_okC (T := ntS T (np_all T.1 12 T.2.2.1)) n1 hv.2.1 hci n3 (by rw [← z1.1]; exact hr2) e1 e2
      exact w_rdF (x := nI os.length) z2.1 (w_some (Or.inr ⟨d, A, sg, c, hd, rfl, hSt, hA, hne, hpl, rfl, T, Cs, os, hv, hV, hpm, hplT, z1, ht5, rfl⟩))
  · rintro a y1 ha ⟨h1, rfl⟩
    rcases h1 with h1 | h1
    · exact w_some (Or.inl ⟨h1.1, rfl, h1.2⟩)
    · exact absurd h1.1 ha
/-- the reference's end is the class's -/
theorem sm_fin {T : ow_NT} {r : Int32 × ow_MS} (hT : nv T) (h : smE T r) : ∃ D, prtD (ntS T (np_all T.1 12 T.2.2.1)) D ∧ ∃ Ms, rlR 35 39 36 16 r.2 Ms ∧ r.1 = nI Ms.length ∧ srM Ms ∧ (D.map ptM).Perm Ms := by
  obtain ⟨e1, Ms, Dn, n, S, a1, a2, a3, a4, a5, a6, a7, a8⟩ := h
  obtain ⟨⟨n', b1⟩, b2⟩ := all_end hT.1 hT.2.1
  have he := end_one (bj_vn hT.1) a7 b1 (prt_end (T := ntS T S) a8 a6 a5) b2
  exact ⟨Dn, ⟨fun d hd => row_cg he (a8.1 d hd), a8.2.1, a8.2.2⟩, Ms, a1, a2, a3, a4⟩
theorem all_vn {T : ow_NT} (hT : nv T) : vn T.1 (np_all T.1 12 T.2.2.1) := by
  have hfw : fwR T.1 T.2.2.1 := by
    have h6 := hT.2.2.2
    unfold fwR
    rcases Nat.eq_zero_or_pos T.1 with e | e
    · have : np_rg T.1 T.2.2.1 = 0 := by
        rw [e]
        rfl
      omega
    · have hp : 0 < (np_parts T.1 T.2.2.1.1).2 := by
        obtain ⟨r, r1, -⟩ := (parts_I hT.1 hT.2.1).2.1 0 (by omega)
        omega
      omega
  exact (all_ok hT.2.1 12 T.2.2.1 hT.1 hT.2.2.1 hfw).1
end XTD
section XTE
variable {X : (Nat → Nat → Int32) → Prop} {z y : ow_MS} {vl : Nat → Nat} {x : Int32}
theorem c_summands (h : rel3 X z y) : Te (fun K => qe_X13_summands K x z) (fun rr => Te (fun K => ce_X11_summands vl K 0 x y) (fun rc => rel3 X rr.2 rc.2.2 ∧ ansI [(1, 1)] rr rc)) := by
  obtain ⟨⟨St, k⟩, hM, h2⟩ := id h
  refine te_sw (te_and (te_fo (tc_summands (x := x) hM) (fun K => ff_X11_summands)) (xc_summands hM k.2.2.2.1 k.2.2.2.2)) (fun rc ⟨⟨⟨hG, _⟩, fC⟩, hc⟩ => ?_)
  rcases hc with ⟨c1, c2, c3⟩ | ⟨d, A, sg, c, hd, rfl, hSt, hA, hne, hpl, c1, T, Cs, os, t1, t2, t3, t4, t5, t6, t7⟩
  · exact w_monoE (xq_sumN k.1 k.2.2.1 c3) (fun rr hr => both_3 h (bo_fail k hr (by simp) c1 (by rw [c2]; exact k.2.1) (by rw [c2]; exact fr_rf) (by rw [c2]; exact k.2.2.2.1)))
  · refine w_monoE (te_and (te_fo (tp_summands (d := nI d) k.1) (fun K => ff_X13_summands)) (xq_sum k.2.2.1 hd hSt (isoS_iff.mp t2.1) t1.1)) (fun rr ⟨⟨hgI, fR⟩, hsm⟩ => ?_)
    obtain ⟨D, hD, Ms, m1, m2, m3, m4⟩ := sm_fin t1 hsm
    have n1 := all_vn t1
    obtain ⟨j1, j2, j3⟩ := sum_join hD n1 t1.2.1 t5 m3 m4
    have hpl2 : nt_plane (ntS T (np_all T.1 12 T.2.2.1)) = true := all_pl t1.2.1 12 T.2.2.1 t1.1 t4
    have hokM : okM Ms := fun k9 A' sg' hk9 => by
      obtain ⟨d9, hd9, e9⟩ := j3 _ (List.mem_of_getElem? hk9)
      cases e9
      have hr := hD.1 d9 hd9
      refine ⟨fun e => hr.2.1.1 (by rw [e]; rfl), em_pl hr.1 n1 (fun x hx => t3 x hx) hpl2, (prt_perm hD n1 t1.2.1 t5).2 d9 hd9⟩
    have fC : fr (fun g => 0 + 3001 ≤ g ∧ g ≤ 0 + 3005 ∨ 0 + 4001 ≤ g ∧ g ≤ 0 + 4011 ∨ 0 + 7004 ≤ g ∧ g ≤ 0 + 7006 ∨ 0 + 9001 ≤ g ∧ g ≤ 0 + 9003) y rc.2.2 := fC
    obtain ⟨k1, k2, k3, ⟨Ns, q1, q2, q3⟩, -⟩ := h2
    refine ⟨⟨⟨St, hgI, hG.1, relR_fr fR (by decide) k.2.2.1, relC_fr fC (fun q hq h9 => by unfold cW at hq; omega) k.2.2.2.1, k.2.2.2.2⟩, hG, relT_k fR fC (by decide) (by omega) k1, relB_k fR fC (by decide) (by omega) k2, brC_fr fC (by omega) k3, ⟨Ns, rlR_k fR (by decide) q1, rlC_k fC (fun q hq => by unfold cV at hq; omega) q2, q3⟩, Ms, m1, ⟨Cs, os, t6, j1, j2⟩, hokM⟩, Or.inl ⟨hsm.1, c1, ?_⟩⟩
    rw [m2, t7, j1]
theorem nm_summands (h : rel3 X z y) (hm : NM y) : Te (fun K => ce_X11_summands vl K 0 x y) (fun r => NM r.2.2) := by
  obtain ⟨⟨St, k⟩, hM, -⟩ := id h
  refine w_monoE (te_fo (xc_summands hM k.2.2.2.1 k.2.2.2.2) (fun K => ff_X11_summands)) (fun r ⟨hr, hf⟩ => ?_)
  have hf : fr (fun g => 0 + 3001 ≤ g ∧ g ≤ 0 + 3005 ∨ 0 + 4001 ≤ g ∧ g ≤ 0 + 4011 ∨ 0 + 7004 ≤ g ∧ g ≤ 0 + 7006 ∨ 0 + 9001 ≤ g ∧ g ≤ 0 + 9003) y r.2.2 := hf
  rcases hr with ⟨-, e, -⟩ | ⟨d, A, sg, c, hd, -, hSt, hA, hne, hpl, -, T, Cs, os, t1, t2, t3, t4, t5, t6, t7⟩
  · rw [e]
    exact hm
  · have hb := fr_sym hf
    refine ⟨fun d A sg c hd hs hA hne => hm.1 d A sg c hd (slC_fr hb (fun q hq h9 => by unfold cW at hq; omega) hs) hA hne, fun Cs os ht => hm.2.1 Cs os (tbO_fr hb (fun q hq h9 => by unfold cV at hq; omega) ht), fun Cs' os' ht C hC => ?_⟩
    have l1 := ht.2.2.2.1
    have l2 := t6.2.2.2.1
    rw [tab_uni ht.1 t6.1 (by omega) (by omega)] at hC
    obtain ⟨rr, -, hsm⟩ := xq_sum k.2.2.1 hd hSt (isoS_iff.mp t2.1) t1.1
    obtain ⟨D, hD, -⟩ := sm_fin t1 hsm
    have n1 := all_vn t1
    obtain ⟨p1, p2⟩ := prt_perm hD n1 t1.2.1 t5
    obtain ⟨d9, hd9, e9⟩ := List.mem_map.mp (p1.mem_iff.mpr hC)
    obtain ⟨c9, o9⟩ := p2 d9 hd9
    exact ⟨d9.1, d9.2.1, c9, o9, e9.symm, row_nrm (hD.1 d9 hd9) n1⟩
theorem s2_summands : stp2 lst_summands := by
  intro S x1 x2 x3 x4 x5 h
  have hc := rel_of (vl := S.1) (y := S.2.1) (z := S.2.2) (em := [(1, 1)]) (fc := fun K => ce_X11_summands S.1 K 0 x1 S.2.1) (fm := fun K => qe_X13_summands K x1 S.2.2) h.1 (c_summands h.1.1) (fun K => ff_X13_summands) (fun K => ff_X11_summands) (by decide) (fun g hg h9 => by unfold ciH at h9; omega)
  have hn : Te (fun K => ce_X11_summands S.1 K 0 x1 S.2.1) (fun rc => NM rc.2.2) := nm_summands h.1.1 h.2
  have hs : Te (lsV S.1 (fun K => ce_X11_summands S.1 K 0 x1 S.2.1) (fun k z => if k = 1 then some (1, z) else none) (fun K => qe_X13_summands K x1 S.2.2)) (fun S1 => REL S1 ∧ dPhi S.1 ≤ dPhi S1.1) := by
    refine st_int hc (fun j k hm => ?_)
    simp only [List.mem_cons, List.not_mem_nil, or_false, Prod.mk.injEq] at hm
    obtain ⟨rfl, rfl⟩ := hm
    exact ⟨by decide, by decide, by decide, fun _ => rfl⟩
  exact w_monoE (lsV_nm hs hn (fun k z r hr => by
    have hr : (if k = 1 then some (1, z) else none) = some r := hr
    by_cases c0 : k = 1
    · rw [if_pos c0] at hr
      cases hr
      rfl
    rw [if_neg c0] at hr
    cases hr)) (fun S1 ⟨⟨q1, q2⟩, q3⟩ => ⟨⟨q1, q3⟩, q2⟩)
end XTE
end
section
/-! 99zzzzzzzzzzzzzj.xcw1 -/
/-! conway: the tree of both sides on lists of components -/
/-- v is the first visit that comes to its crossing first, and under -/
def bdF (A : rn_L) (v : Nat) : Prop := v < A.flatten.length ∧ (∀ u, u < v → crs A u ≠ crs A v) ∧ uns A v ≠ 0 ∧ ∀ u, u < v → (∀ t, t < u → crs A t ≠ crs A u) → uns A u = 0
noncomputable def fbV (A : rn_L) : Option Nat := @dite _ (∃ v, bdF A v) (Classical.propDecidable _) (fun h => some (Classical.choose h)) (fun _ => none)
def chA (A : rn_L) (x : Nat) : rn_L := A.map (List.map (flp (fun y => decide (y = x))))
def chS (sg : Nat → Bool) (x : Nat) : Nat → Bool := fun y => if y = x then !sg y else sg y
noncomputable def skV : Nat → rn_L → (Nat → Bool) → Nat → Int
  | 0, _, _, _ => 0
  | F + 1, A, sg, k => match fbV A with
    | none => if A.length = 1 ∧ k = 0 then 1 else 0
    | some v => (if sg (crs A v) then -1 else 1) * (if k = 0 then 0 else skV F (smV A v (mtf A v)) sg (k - 1)) + skV F (chA A (crs A v)) (chS sg (crs A v)) k
section XCA
variable {A : rn_L} {sg : Nat → Bool} {v w k f F : Nat}
theorem bd_uni (h : bdF A v) (h' : bdF A w) : v = w := by
  obtain ⟨a1, a2, a3, a4⟩ := h
  obtain ⟨b1, b2, b3, b4⟩ := h'
  rcases Nat.lt_trichotomy v w with q | q | q
  · exact absurd (b4 v q (fun t ht => a2 t ht)) a3
  · exact q
  · exact absurd (a4 w q (fun t ht => b2 t ht)) b3
theorem fb_some (h : bdF A v) : fbV A = some v := by
  unfold fbV
  have hx : ∃ v, bdF A v := ⟨v, h⟩
  rw [dif_pos hx]
  exact congrArg some (bd_uni (Classical.choose_spec hx) h)
theorem fb_none (h : ∀ v, ¬ bdF A v) : fbV A = none := by
  unfold fbV
  rw [dif_neg (fun ⟨v, hv⟩ => h v hv)]
theorem sk_none (h : ∀ v, ¬ bdF A v) : skV (F + 1) A sg k = if A.length = 1 ∧ k = 0 then 1 else 0 := by
  rw [skV, fb_none h]
theorem sk_some (h : bdF A v) : skV (F + 1) A sg k = (if sg (crs A v) then -1 else 1) * (if k = 0 then 0 else skV F (smV A v (mtf A v)) sg (k - 1)) + skV F (chA A (crs A v)) (chS sg (crs A v)) k := by
  rw [skV, fb_some h]
theorem bd_lt (hF : wkF A.flatten) (h : bdF A v) : v < mtf A v ∧ mtf A v < A.flatten.length ∧ crs A (mtf A v) = crs A v := by
  have hd := wkF_ok hF
  have h1 := mtf_lt hd h.1
  have h2 := crs_mtf hd h.1
  have h3 := mtf_ne hd h.1
  refine ⟨?_, h1, h2⟩
  rcases Nat.lt_or_ge (mtf A v) v with h8 | h8
  · exact absurd h2 (h.2.1 _ h8)
  · omega
theorem cps_fl {a : Nat} : ∀ {b : Nat}, a ≤ b → (cps A a b).flatten = seg (rn_b A a) (rn_b A b) := by
  intro b hab
  obtain ⟨d, rfl⟩ : ∃ d, b = a + d := ⟨b - a, by omega⟩
  induction d with
  | zero => rw [Nat.add_zero, cps_0, seg_0]; rfl
  | succ d ih =>
    have m1 := rn_b_mono2 (A := A) (show a ≤ a + d by omega)
    have m2 := rn_b_mono2 (A := A) (show a + d ≤ a + d + 1 by omega)
    rw [show a + (d + 1) = (a + d) + 1 by omega, cps_s (by omega), List.flatten_append, ih (by omega), seg_app m1 m2]
    show _ ++ (_ ++ []) = _
    rw [List.append_nil]
theorem mem_seg {a b j : Nat} : j ∈ seg a b ↔ a ≤ j ∧ j < b := by
  unfold seg
  rw [List.mem_map]
  constructor
  · rintro ⟨i, hi, rfl⟩
    have := List.mem_range.mp hi
    omega
  · rintro ⟨h1, h2⟩
    exact ⟨j - a, List.mem_range.mpr (by omega), by omega⟩
theorem seg_get {b j : Nat} (h : j < b) (Y : List Nat) : (seg 0 b ++ Y)[j]? = some j := by
  rw [List.getElem?_append_left (by rw [seg_len]; omega)]
  unfold seg
  rw [List.getElem?_map, List.getElem?_range (by omega)]
  exact congrArg some (Nat.zero_add j)
/-- what stands where after a smoothing -/
theorem smC_fl (hvw : v < w) (hw : w < A.flatten.length) : ∃ Y, (smC A (rn_c A v) v w (rn_c A w)).flatten = seg 0 v ++ Y ∧ ∀ j, j ∈ seg 0 v ++ Y ↔ j < A.flatten.length ∧ j ≠ v ∧ j ≠ w := by
  obtain ⟨c1, c2, c3⟩ := rn_c_in A v (by omega)
  obtain ⟨j1, j2, j3⟩ := rn_c_in A w hw
  generalize rn_c A v = c at c1 c2 c3
  generalize rn_c A w = J at j1 j2 j3
  have hb0 : rn_b A 0 = 0 := rfl
  have hbn : rn_b A A.length = A.flatten.length := rn_b_len A
  have e0 : (cps A 0 c).flatten = seg 0 (rn_b A c) := by rw [cps_fl (Nat.zero_le c), hb0]
  unfold smC
  by_cases hone : w < rn_b A (c + 1)
  · rw [if_pos hone]
    have m1 := rn_b_le A (c + 1)
    refine ⟨seg (w + 1) (rn_b A (c + 1)) ++ seg (rn_b A (c + 1)) A.flatten.length ++ seg (v + 1) w, ?_, fun j => ?_⟩
    · rw [List.flatten_append, List.flatten_append, List.flatten_append, e0, cps_fl (show c + 1 ≤ A.length by omega), hbn, seg_app (Nat.zero_le _) c2]
      show _ ++ ((_ ++ _) ++ []) ++ _ ++ (_ ++ []) = _
      simp only [List.append_assoc, List.append_nil]
    · simp only [List.mem_append, mem_seg]
      omega
  · rw [if_neg hone]
    have hcJ : c < J := by
      rcases Nat.lt_or_ge c J with h9 | h9
      · exact h9
      · have := rn_b_mono2 (A := A) (show J + 1 ≤ c + 1 by omega)
        omega
    have m1 := rn_b_mono2 (A := A) (show c + 1 ≤ J by omega)
    have m2 := rn_b_le A (J + 1)
    refine ⟨seg (w + 1) (rn_b A (J + 1)) ++ seg (rn_b A J) w ++ seg (v + 1) (rn_b A (c + 1)) ++ seg (rn_b A (c + 1)) (rn_b A J) ++ seg (rn_b A (J + 1)) A.flatten.length, ?_, fun j => ?_⟩
    · rw [List.flatten_append, List.flatten_append, List.flatten_append, e0, cps_fl (show c + 1 ≤ J by omega), cps_fl (show J + 1 ≤ A.length by omega), hbn, seg_app (Nat.zero_le _) c2]
      show _ ++ ((_ ++ _ ++ _ ++ _) ++ []) ++ _ ++ _ = _
      simp only [List.append_assoc, List.append_nil]
    · simp only [List.mem_append, mem_seg]
      omega
theorem smC_ok (hF : wkF A.flatten) (hvw : v < w) (hw : w < A.flatten.length) : (smC A (rn_c A v) v w (rn_c A w)).flatten.Nodup ∧ (∀ j, j ∈ (smC A (rn_c A v) v w (rn_c A w)).flatten ↔ j < A.flatten.length ∧ j ≠ v ∧ j ≠ w) ∧ ∀ j, j < v → (smC A (rn_c A v) v w (rn_c A w)).flatten[j]? = some j := by
  obtain ⟨Y, y1, y2⟩ := smC_fl hvw hw
  refine ⟨?_, fun j => by rw [y1]; exact y2 j, fun j hj => by rw [y1]; exact seg_get hj Y⟩
  have pm := (sm_perm hvw hw).nodup_iff.mp hF.1
  have n4 := (List.nodup_cons.mp (List.nodup_cons.mp pm).2).2
  unfold smV at n4
  rw [fl_map] at n4
  exact (List.pairwise_map.mp n4).imp (fun h e => h (by rw [e]))
theorem sm_pre (hF : wkF A.flatten) (hvw : v < w) (hw : w < A.flatten.length) {j : Nat} (hj : j < v) : vAt (smV A v w) j = vAt A j := sk_pre (smC_ok hF hvw hw).2.2 hj
/-- the fuel does not matter where it is enough -/
theorem sk_fu : ∀ (f F k0 : Nat) (A : rn_L) (sg : Nat → Bool) (k : Nat), wkF A.flatten → gPre A k0 → ouT A k0 f → f < F → skV F A sg k = skV (f + 1) A sg k := by
  intro f
  induction f using Nat.strongRecOn with
  | ind f ih =>
  intro F k0 A sg k hF hg ho hfF
  obtain ⟨F, rfl⟩ : ∃ F', F = F' + 1 := ⟨F - 1, by omega⟩
  by_cases hx : ∃ v, bdF A v
  · obtain ⟨v, hv⟩ := hx
    obtain ⟨b1, b2, b3⟩ := bd_lt hF hv
    obtain ⟨c1, c2, c3⟩ := smC_ok hF b1 b2
    obtain ⟨f1, h1, h2, h3, h4, -⟩ := sk_sm hF hg ho hv.1 b2 b1 b3 hv.2.1 hv.2.2.1 hv.2.2.2 c1 c2 c3
    obtain ⟨f2, g1, g2, g3, g4⟩ := sk_ch (x := crs A v) hF hg ho hv.1 rfl hv.2.1 hv.2.2.1 hv.2.2.2
    obtain ⟨f, rfl⟩ : ∃ f', f = f' + 1 := ⟨f - 1, by omega⟩
    have e1 : ∀ k, skV F (smV A v (mtf A v)) sg k = skV (f + 1) (smV A v (mtf A v)) sg k := fun k => (ih f1 (by omega) F v _ sg k h2 h3 h4 (by omega)).trans (ih f1 (by omega) (f + 1) v _ sg k h2 h3 h4 (by omega)).symm
    have e2 : skV F (chA A (crs A v)) (chS sg (crs A v)) k = skV (f + 1) (chA A (crs A v)) (chS sg (crs A v)) k := (ih f2 (by omega) F (v + 1) _ _ k g2 g3 g4 (by omega)).trans (ih f2 (by omega) (f + 1) (v + 1) _ _ k g2 g3 g4 (by omega)).symm
    rw [sk_some hv, sk_some (F := f + 1) hv, e1, e2]
  · have hn : ∀ v, ¬ bdF A v := fun v hv => hx ⟨v, hv⟩
    rw [sk_none hn, sk_none hn]
theorem ou_all (hF : wkF A.flatten) (hl : A.flatten.length ≤ 24) : gPre A 0 ∧ ouT A 0 12 := by
  refine ⟨fun v hv => absurd hv (Nat.not_lt_zero _), crL A, ?_, fun v hv => Or.inr (crL_m hF (u := uns A v) (vAt_mem hv))⟩
  have := crL_len hF
  omega
/-- one step, the fuel kept -/
theorem sk_st (hF : wkF A.flatten) (hl : A.flatten.length ≤ 24) (h : bdF A v) : skV 13 A sg k = (if sg (crs A v) then -1 else 1) * (if k = 0 then 0 else skV 13 (smV A v (mtf A v)) sg (k - 1)) + skV 13 (chA A (crs A v)) (chS sg (crs A v)) k := by
  obtain ⟨hg, ho⟩ := ou_all hF hl
  obtain ⟨b1, b2, b3⟩ := bd_lt hF h
  obtain ⟨c1, c2, c3⟩ := smC_ok hF b1 b2
  obtain ⟨f1, h1, h2, h3, h4, -⟩ := sk_sm hF hg ho h.1 b2 b1 b3 h.2.1 h.2.2.1 h.2.2.2 c1 c2 c3
  obtain ⟨f2, g1, g2, g3, g4⟩ := sk_ch (x := crs A v) hF hg ho h.1 rfl h.2.1 h.2.2.1 h.2.2.2
  have e1 : ∀ k, skV 12 (smV A v (mtf A v)) sg k = skV 13 (smV A v (mtf A v)) sg k := fun k => (sk_fu f1 12 v _ sg k h2 h3 h4 (by omega)).trans (sk_fu f1 13 v _ sg k h2 h3 h4 (by omega)).symm
  have e2 : skV 12 (chA A (crs A v)) (chS sg (crs A v)) k = skV 13 (chA A (crs A v)) (chS sg (crs A v)) k := (sk_fu f2 12 (v + 1) _ _ k g2 g3 g4 (by omega)).trans (sk_fu f2 13 (v + 1) _ _ k g2 g3 g4 (by omega)).symm
  rw [sk_some (F := 12) h, e1, e2]
theorem ch_len (x : Nat) : (chA A x).flatten.length = A.flatten.length := flp_len
theorem ch_wk (hF : wkF A.flatten) (x : Nat) : wkF (chA A x).flatten := by
  unfold chA
  rw [fl_map2]
  exact wkF_flp hF
/-- powers above the number of crossings do not occur -/
theorem sk_deg : ∀ (F : Nat) (A : rn_L) (sg : Nat → Bool) (k : Nat), wkF A.flatten → A.flatten.length < 2 * k → skV F A sg k = 0
  | 0, _, _, _, _, _ => rfl
  | F + 1, A, sg, k, hF, hl => by
    by_cases hx : ∃ v, bdF A v
    · obtain ⟨v, hv⟩ := hx
      obtain ⟨b1, b2, b3⟩ := bd_lt hF hv
      obtain ⟨c1, c2, c3⟩ := smC_ok hF b1 b2
      have pm := (sm_perm b1 b2).length_eq
      rw [List.length_cons, List.length_cons] at pm
      obtain ⟨hg, ho⟩ : gPre A 0 ∧ ouT A 0 (crL A).length := ⟨fun v hv => absurd hv (Nat.not_lt_zero _), crL A, Nat.le_refl _, fun v hv => Or.inr (crL_m hF (u := uns A v) (vAt_mem hv))⟩
      obtain ⟨f1, h1, h2, h3, h4, -⟩ := sk_sm hF hg ho hv.1 b2 b1 b3 hv.2.1 hv.2.2.1 hv.2.2.2 c1 c2 c3
      rw [sk_some hv, if_neg (show ¬ k = 0 by omega), sk_deg F (smV A v (mtf A v)) sg (k - 1) h2 (by omega), sk_deg F (chA A (crs A v)) _ k (ch_wk hF _) (by rw [ch_len]; exact hl), Int.mul_zero, Int.add_zero]
    · have hn : ∀ v, ¬ bdF A v := fun v hv => hx ⟨v, hv⟩
      rw [sk_none hn, if_neg (by omega)]
/-- the first component is come to over everywhere first, and there are others -/
def gdC (A : rn_L) : Prop := gPre A (rn_b A 1) ∧ 2 ≤ A.length
theorem b1_eq {A B : rn_L} (h : A.head? = B.head?) : rn_b A 1 = rn_b B 1 := by
  cases A with
  | nil => cases B with
    | nil => rfl
    | cons b B => cases h
  | cons a A => cases B with
    | nil => cases h
    | cons b B =>
      cases h
      rfl
theorem gd_sm (hF : wkF A.flatten) (h : gdC A) (hvw : v < w) (hw : w < A.flatten.length) (hv1 : rn_b A 1 ≤ v) : gdC (smV A v w) := by
  obtain ⟨h1, h2⟩ := h
  obtain ⟨c1, c2, c3⟩ := rn_c_in A v (by omega)
  obtain ⟨j1, j2, j3⟩ := rn_c_in A w hw
  have pre : ∀ {j}, j < v → vAt (smV A v w) j = vAt A j := fun hj => sm_pre hF hvw hw hj
  have hc1 : 1 ≤ rn_c A v := by
    rcases Nat.eq_zero_or_pos (rn_c A v) with e | e
    · rw [e] at c3
      have c3 : v < rn_b A 1 := c3
      omega
    · exact e
  have hb : (smV A v w).head? = A.head? ∧ 2 ≤ (smV A v w).length := by
    have hd0 : ∀ Y : rn_L, ((cps A 0 (rn_c A v)).map (List.map (vAt A)) ++ Y).head? = A.head? := fun Y => by
      rw [cps_cons (show 0 < rn_c A v by omega), List.map_cons, List.cons_append, List.head?_cons, cmp_seg (show 0 < A.length by omega)]
      cases A with
      | nil => exact absurd h2 (by decide)
      | cons a A => rfl
    unfold smV smC
    by_cases hone : w < rn_b A (rn_c A v + 1)
    · rw [if_pos hone]
      refine ⟨?_, ?_⟩
      · rw [List.map_append, List.map_append, List.map_append, List.append_assoc, List.append_assoc]
        exact hd0 _
      · rw [List.length_map, List.length_append, List.length_append, List.length_append, cps_n, cps_n]
        show 2 ≤ rn_c A v - 0 + 1 + (A.length - (rn_c A v + 1)) + 1
        omega
    · rw [if_neg hone]
      have hcJ : rn_c A v < rn_c A w := by
        rcases Nat.lt_or_ge (rn_c A v) (rn_c A w) with h9 | h9
        · exact h9
        · have := rn_b_mono2 (A := A) (show rn_c A w + 1 ≤ rn_c A v + 1 by omega)
          omega
      refine ⟨?_, ?_⟩
      · rw [List.map_append, List.map_append, List.map_append, List.append_assoc, List.append_assoc]
        exact hd0 _
      · rw [List.length_map, List.length_append, List.length_append, List.length_append, cps_n, cps_n, cps_n]
        show 2 ≤ rn_c A v - 0 + 1 + (rn_c A w - (rn_c A v + 1)) + (A.length - (rn_c A w + 1))
        omega
  refine ⟨fun u hu hul hfu => ?_, hb.2⟩
  rw [b1_eq hb.1] at hu
  have e1 : uns (smV A v w) u = uns A u := by unfold uns; rw [pre (by omega)]
  rw [e1]
  refine h1 u hu (by omega) (fun t ht e9 => hfu t ht ?_)
  unfold crs at e9 ⊢
  rw [pre (by omega), pre (by omega)]
  exact e9
theorem b1_ch (x : Nat) : rn_b (chA A x) 1 = rn_b A 1 := by
  cases A with
  | nil => rfl
  | cons a A =>
    show ((([a].map (List.map (flp _))) : rn_L).flatten).length = ([a].flatten).length
    rw [fl_map2, List.length_map]
theorem ch_crs {u x : Nat} (hu : u < A.flatten.length) : crs (chA A x) u = crs A u := by
  unfold crs chA
  rw [flp_vAt hu, flp_1]
theorem ch_uns {u x : Nat} (hu : u < A.flatten.length) : uns (chA A x) u = if crs A u = x then 1 - uns A u else uns A u := by
  unfold uns chA
  rw [flp_vAt hu, flp_2]
  by_cases h9 : crs A u = x
  · rw [if_pos h9, if_pos (by exact decide_eq_true h9)]
  · rw [if_neg h9]
    exact if_neg (fun h8 => h9 (of_decide_eq_true h8))
theorem gd_ch {x : Nat} (h : gdC A) (hx : ∀ u, u < rn_b A 1 → u < A.flatten.length → crs A u ≠ x) : gdC (chA A x) := by
  obtain ⟨h1, h2⟩ := h
  refine ⟨fun u hu hul hfu => ?_, by unfold chA; rw [List.length_map]; exact h2⟩
  rw [b1_ch] at hu
  rw [ch_len] at hul
  rw [ch_uns hul, if_neg (hx u hu hul)]
  refine h1 u hu hul (fun t ht e9 => hfu t ht ?_)
  rw [ch_crs (by omega), ch_crs hul]
  exact e9
/-- then nothing is counted -/
theorem sk_zero : ∀ (F : Nat) (A : rn_L) (sg : Nat → Bool) (k : Nat), wkF A.flatten → gdC A → skV F A sg k = 0
  | 0, _, _, _, _, _ => rfl
  | F + 1, A, sg, k, hF, hg => by
    by_cases hx : ∃ v, bdF A v
    · obtain ⟨v, hv⟩ := hx
      obtain ⟨b1, b2, b3⟩ := bd_lt hF hv
      have hv1 : rn_b A 1 ≤ v := by
        rcases Nat.lt_or_ge v (rn_b A 1) with h9 | h9
        · exact absurd (hg.1 v h9 hv.1 hv.2.1) hv.2.2.1
        · exact h9
      obtain ⟨c1, c2, c3⟩ := smC_ok hF b1 b2
      obtain ⟨hg0, ho⟩ : gPre A 0 ∧ ouT A 0 (crL A).length := ⟨fun v hv => absurd hv (Nat.not_lt_zero _), crL A, Nat.le_refl _, fun v hv => Or.inr (crL_m hF (u := uns A v) (vAt_mem hv))⟩
      obtain ⟨f1, h1, h2, h3, h4, -⟩ := sk_sm hF hg0 ho hv.1 b2 b1 b3 hv.2.1 hv.2.2.1 hv.2.2.2 c1 c2 c3
      have z1 : ∀ k, skV F (smV A v (mtf A v)) sg k = 0 := fun k => sk_zero F _ sg k h2 (gd_sm hF hg b1 b2 hv1)
      rw [sk_some hv, z1, sk_zero F (chA A (crs A v)) _ k (ch_wk hF _) (gd_ch hg (fun u hu hul => hv.2.1 u (by omega)))]
      split <;> omega
    · have hn : ∀ v, ¬ bdF A v := fun v hv => hx ⟨v, hv⟩
      have := hg.2
      rw [sk_none hn, if_neg (by omega)]
/-- one component that is come to over everywhere first -/
theorem sk_one (h1 : A.length = 1) (hg : gPre A (rn_b A 1)) : skV (F + 1) A sg k = if k = 0 then 1 else 0 := by
  have hb : rn_b A 1 = A.flatten.length := by rw [← h1]; exact rn_b_len A
  have hn : ∀ v, ¬ bdF A v := fun v hv => hv.2.2.1 (hg v (by rw [hb]; exact hv.1) hv.1 hv.2.1)
  rw [sk_none hn]
  by_cases e : k = 0
  · rw [if_pos ⟨h1, e⟩, if_pos e]
  · rw [if_neg (fun h => e h.2), if_neg e]
end XCA
end
section
/-! 99zzzzzzzzzzzzzk.xcw2 -/
/-! conway: the reference's skein, exactly -/
def cwA (z : ow_MS) (n : Nat → Int) : Prop := ∀ t, t < 40 → z.2.2 42 t = Int64.ofInt (n t)
def shf (j : Nat) (V : Nat → Int) (t : Nat) : Int := if j ≤ t then V (t - j) else 0
theorem cwA_fr {P : Nat → Prop} {z z1 : ow_MS} {n : Nat → Int} (hf : fr P z z1) (hP : ¬ P 42) (h : cwA z n) : cwA z1 n := fun t ht => by
  rw [(hf 42 hP).2.2]
  exact h t ht
theorem cwA_cg {z : ow_MS} {n n' : Nat → Int} (h : cwA z n) (e : ∀ t, t < 40 → n t = n' t) : cwA z n' := fun t ht => by
  rw [← e t ht]
  exact h t ht
theorem smV_n {A : rn_L} {v w : Nat} (hvw : v < w) (hw : w < A.flatten.length) : (smV A v w).length ≤ A.length + 1 := by
  obtain ⟨c1, c2, c3⟩ := rn_c_in A v (by omega)
  obtain ⟨j1, j2, j3⟩ := rn_c_in A w hw
  unfold smV smC
  by_cases hone : w < rn_b A (rn_c A v + 1)
  · rw [if_pos hone, List.length_map, List.length_append, List.length_append, List.length_append, cps_n, cps_n]
    show rn_c A v - 0 + 1 + (A.length - (rn_c A v + 1)) + 1 ≤ A.length + 1
    omega
  · rw [if_neg hone]
    have hcJ : rn_c A v < rn_c A w := by
      rcases Nat.lt_or_ge (rn_c A v) (rn_c A w) with h9 | h9
      · exact h9
      · have := rn_b_mono2 (A := A) (show rn_c A w + 1 ≤ rn_c A v + 1 by omega)
        omega
    rw [List.length_map, List.length_append, List.length_append, List.length_append, cps_n, cps_n, cps_n]
    show rn_c A v - 0 + 1 + (rn_c A w - (rn_c A v + 1)) + (A.length - (rn_c A w + 1)) ≤ A.length + 1
    omega
theorem xr_leaf {c j : Nat} {σ : Int} {a : Int32} {z : ow_MS} {n : Nat → Int} (hc : c < 100) (hj : j ≤ 12) (h46 : z.1 46 = 0) (hn : cwA z n) : Te (fun K => qe_X13_leaf K (nI c) (Int64.ofInt σ) a (nI j) z) (fun z1 => fr (fun g => g = 42) z z1 ∧ cwA z1 (fun t => n t + σ * (if c = 1 ∧ t = j then 1 else 0))) := by
  have out : ∀ x : Int64, x = (if c = 1 then Int64.ofInt σ else 0) → cwA (usJ z 42 j (Int64.ofInt (n j) + x)) (fun t => n t + σ * (if c = 1 ∧ t = j then 1 else 0)) := fun x hx t ht => by
    show (usJ z 42 j (Int64.ofInt (n j) + x)).2.2 42 t = Int64.ofInt (n t + σ * (if c = 1 ∧ t = j then 1 else 0))
    by_cases e : t = j
    · rw [e, usJ_at, hx]
      by_cases e1 : c = 1
      · rw [if_pos e1, if_pos ⟨e1, rfl⟩, Int.mul_one, Int64.ofInt_add]
      · rw [if_neg e1, if_neg (fun h => e1 h.1), Int.mul_zero, Int.add_zero, Int64.add_zero]
    · rw [usJ_ne e, if_neg (fun h => e h.2), Int.mul_zero, Int.add_zero]
      exact hn t ht
  refine e_X13_leaf ?_
  refine u_X13_leaf_0 ?_; unfold qm_X13_leaf_0
  refine w_rdF h46 (w_ifT rfl (w_rdJ ml42 rfl (by omega) (hn j (by omega)) ?_))
  refine w_eqN (b := 1) (by omega) (by omega) (fun e1 => w_wrJ ml42 rfl (by omega) (w_some ⟨fr_J rfl, out _ (by rw [if_pos e1])⟩)) (fun e1 => w_wrJ ml42 rfl (by omega) (w_some ⟨fr_J rfl, out _ (by rw [if_neg e1])⟩))
theorem sg_sm {z z1 : ow_MS} {o n v w : Nat} {A : rn_L} {sg : Nat → Bool} (hF : wkF A.flatten) (hvw : v < w) (hw : w < A.flatten.length) (h : rn_sg z o A.flatten sg) (e : ∀ x, x < 40 → z1.2.1 (n + 6) x = z.2.1 (o + 6) x) : rn_sg z1 n (smV A v w).flatten sg := fun p hp => by
  have hp' := (sm_perm hvw hw).mem_iff.mpr (List.mem_cons_of_mem _ (List.mem_cons_of_mem _ hp))
  rw [e _ (hF.2 p hp').1]
  exact h p hp'
theorem sg_ch {z z1 z2 : ow_MS} {o n x : Nat} {A : rn_L} {sg : Nat → Bool} (hF : wkF A.flatten) (h : rn_sg z o A.flatten sg) (e : ∀ x, x < 40 → z1.2.1 (n + 6) x = z.2.1 (o + 6) x) (e1 : z2.2.1 (n + 6) x = 0 - z1.2.1 (n + 6) x) (e2 : ∀ y, y ≠ x → z2.2.1 (n + 6) y = z1.2.1 (n + 6) y) : rn_sg z2 n (chA A x).flatten (chS sg x) := fun p hp => by
  unfold chA at hp
  rw [fl_map2] at hp
  obtain ⟨q, hq, e9⟩ := List.mem_map.mp hp
  have ep : p.1 = q.1 := by rw [← e9, flp_1]
  have h4 := (hF.2 q hq).1
  rw [ep]
  unfold chS
  by_cases hx : q.1 = x
  · rw [hx, e1, if_pos rfl, e x (by omega), ← hx, h q hq]
    cases sg q.1 <;> rfl
  · rw [e2 _ hx, if_neg hx, e _ h4]
    exact h q hq
theorem xr_skein : ∀ (f depth dd k j : Nat) (A : rn_L) (sg : Nat → Bool) (σ : Int) (n : Nat → Int) (z : ow_MS), f < dd → depth + f ≤ 12 → j ≤ depth → wkF A.flatten → A.flatten.length ≤ 24 → A.length ≤ 6 + j → rn_At z (1000 * (depth + 4)) A [] → rn_sg z (1000 * (depth + 4)) A.flatten sg → gPre A k → ouT A k f → z.1 46 = 0 → cwA z n → Te (fun K => qd_X13_skein K dd (nI depth) (Int64.ofInt σ) 0 (nI j) z) (fun z1 => fr (skH depth) z z1 ∧ cwA z1 (fun t => n t + σ * shf j (skV 13 A sg) t)) := by
  intro f
  induction f using Nat.strongRecOn with
  | ind f ih =>
  intro depth dd k j A sg σ n z hdd hdf hj hF hl hC hA hS hg ho h46 hcw
  obtain ⟨dd, rfl⟩ : ∃ d', dd = d' + 1 := ⟨dd - 1, by omega⟩
  have hd := wkF_ok hF
  have hn : mw_net (1000 * (depth + 4)) := pnL (by omega)
  have hn2 : mw_net (1000 * (depth + 1 + 4)) := pnL (by omega)
  have cx : ∀ {i}, i < A.flatten.length → crs A i < 40 ∧ uns A i < 2 := fun hi => by
    obtain ⟨g1, g2, -⟩ := hF.2 _ (List.mem_of_getElem? (vAt_of hi))
    exact ⟨g1, g2⟩
  let Q : ow_MS → Prop := fun z1 => fr (skH depth) z z1 ∧ cwA z1 (fun t => n t + σ * shf j (skV 13 A sg) t)
  have mono41 : ∀ {y : ow_MS}, fr (fun g => g = 41) z y → fr (skH depth) z y := fun hf => fr_mono (fun g hg => Or.inr (Or.inl hg)) hf
  have aA : ∀ {y : ow_MS}, fr (fun g => g = 41) z y → rn_At y (1000 * (depth + 4)) A [] := fun hf => fr_At hf (fun g hg => by omega) hA
  have aV : ∀ {y : ow_MS}, fr (fun g => g = 41) z y → y.1 (1000 * (depth + 4) + 1) = nI A.flatten.length := fun hf => by rw [(aA hf).1, List.append_nil]
  have c5 : (∀ v, ¬ bdF A v) → ∀ (x8 : Int32) (y : ow_MS), fr (fun g => g = 41) z y → Tt (fun K i => q_X13_skein K (qd_X13_skein K dd) i 5 (nI depth) 0 (nI j) (-1) x8 0 0 0 (Int64.ofInt σ) (1000 * (depth + 4)) 0 0 0 0 0 0 0 0 y) Q := by
    intro hno x8 y hf
    refine u_X13_skein_5 ?_; unfold qm_X13_skein_5
    refine w_ifT rfl (w_rdF (aA hf).2.1 (w_cs0 (xr_leaf (n := n) (by omega) (by omega) (by rw [(hf 46 (by decide)).1]; exact h46) (cwA_fr hf (by decide) hcw)) (fun z1 ⟨h9, h8⟩ => w_some ⟨?_, cwA_cg h8 (fun t ht => ?_)⟩)))
    · exact fr_tr (mono41 hf) (fr_mono (fun g hg => Or.inr (Or.inr (Or.inl hg))) h9)
    · unfold shf
      rw [sk_none (F := 12) hno]
      by_cases e1 : A.length = 1 ∧ t = j
      · rw [if_pos e1, if_pos (by omega), if_pos ⟨e1.1, by omega⟩]
      · rw [if_neg e1]
        by_cases e2 : j ≤ t
        · rw [if_pos e2, if_neg (fun h => e1 ⟨h.1, by omega⟩)]
        · rw [if_neg e2]
  have bad : ∀ (v : Nat) (x8 : Int32) (y : ow_MS), fr (fun g => g = 41) z y → v < A.flatten.length → (∀ u, u < v → crs A u ≠ crs A v) → uns A v ≠ 0 → (∀ u, u < v → (∀ t, t < u → crs A t ≠ crs A u) → uns A u = 0) → Tt (fun K i => q_X13_skein K (qd_X13_skein K dd) i 5 (nI depth) 0 (nI j) (nI v) x8 0 0 0 (Int64.ofInt σ) (1000 * (depth + 4)) 0 0 0 0 0 0 0 0 y) Q := by
    intro v x8 y hf hv hfst hb hgood
    have hAy := aA hf
    obtain ⟨g1, g2, g3⟩ := rn_c_in A v hv
    have hml := mtf_lt hd hv
    have hmc := crs_mtf hd hv
    have hmn := mtf_ne hd hv
    have hvm : v < mtf A v := by
      rcases Nat.lt_or_ge (mtf A v) v with h8 | h8
      · exact absurd hmc (hfst _ h8)
      · omega
    obtain ⟨fc, hfc, kF, kg, ko⟩ := sk_ch (x := crs A v) hF hg ho hv rfl hfst hb hgood
    have hbd : bdF A v := ⟨hv, hfst, hb, hgood⟩
    obtain ⟨q1, q2, q3⟩ := smC_ok hF hvm hml
    obtain ⟨fs, hfs, mF, mg, mo, ml⟩ := sk_sm hF hg ho hv hml hvm hmc hfst hb hgood q1 q2 q3
    obtain ⟨σ1, hσ1⟩ : ∃ σ1 : Int, σ1 = if sg (crs A v) then 0 - σ else σ := ⟨_, rfl⟩
    have c13 : ∀ (x11 : Int32) (y5 : ow_MS), fr (skH depth) z y5 → rn_At y5 (1000 * (depth + 1 + 4)) (chA A (crs A v)) [] → rn_sg y5 (1000 * (depth + 1 + 4)) (chA A (crs A v)).flatten (chS sg (crs A v)) → cwA y5 (fun t => n t + σ1 * shf (j + 1) (skV 13 (smV A v (mtf A v)) sg) t) → Tt (fun K i => q_X13_skein K (qd_X13_skein K dd) i 13 (nI depth) 0 (nI j) (nI v) (nI (rn_c A v)) (nI (crs A v)) (nI (mtf A v)) x11 (Int64.ofInt σ) (1000 * (depth + 4)) (1000 * (depth + 1 + 4)) 0 0 (nI (depth + 1)) 0 0 (Int64.ofInt σ) 0 y5) Q := by
      intro x11 y5 hf5 hA5 hS5 hc5
      refine u_X13_skein_13 ?_; unfold qm_X13_skein_13
      refine w_cs0 (ih fc (by omega) (depth + 1) dd (v + 1) j (chA A (crs A v)) (chS sg (crs A v)) σ _ y5 (by omega) (by omega) (by omega) kF (by rw [ch_len]; exact hl) (by unfold chA; rw [List.length_map]; exact hC) hA5 hS5 kg ko (by rw [(hf5 46 (by unfold skH; omega)).1]; exact h46) hc5) (fun z6 ⟨h6, h7⟩ => w_some ⟨fr_tr hf5 (fr_mono (fun g hg => by unfold skH at hg ⊢; omega) h6), cwA_cg h7 (fun t ht => ?_)⟩)
      unfold shf
      by_cases e2 : j ≤ t
      · rw [if_pos e2, if_pos e2, sk_st hF hl hbd, hσ1]
        by_cases e3 : j + 1 ≤ t
        · rw [if_pos e3, if_neg (show ¬ t - j = 0 by omega), show t - (j + 1) = t - j - 1 by omega]
          cases sg (crs A v)
          · rw [if_neg (by decide), if_neg (by decide), Int.one_mul, Int.mul_add, Int.add_assoc]
          · rw [if_pos rfl, if_pos rfl, Int.mul_add, Int.add_assoc, show σ * (-1 * skV 13 (smV A v (mtf A v)) sg (t - j - 1)) = (0 - σ) * skV 13 (smV A v (mtf A v)) sg (t - j - 1) by rw [Int.neg_one_mul, Int.mul_neg, Int.zero_sub, Int.neg_mul]]
        · rw [if_neg e3, if_pos (show t - j = 0 by omega), Int.mul_zero, Int.mul_zero, Int.add_zero, Int.zero_add]
      · rw [if_neg e2, if_neg e2, if_neg (by omega), Int.mul_zero, Int.mul_zero, Int.add_zero, Int.add_zero]
    have c8 : ∀ (t0 : Int32), t0 = (if sg (crs A v) then 0 else 1) → Tt (fun K i => q_X13_skein K (qd_X13_skein K dd) i 8 (nI depth) 0 (nI j) (nI v) (nI (rn_c A v)) (nI (crs A v)) (nI (mtf A v)) 0 (Int64.ofInt σ) (1000 * (depth + 4)) 0 t0 0 0 0 0 0 0 y) Q := by
      intro t0 ht0
      have hSy : rn_sg y (1000 * (depth + 4)) A.flatten sg := fun p hp => by
        rw [(hf _ (by omega)).2.1]
        exact hS p hp
      refine u_X13_skein_8 ?_; unfold qm_X13_skein_8
      rw [show nI depth + 1 = nI (depth + 1) from nI_1 _]
      refine w_rdN rfl (by omega) (w_cs0 (xr_smoothIn hn hn2 (by omega) hl (by omega) hAy g1 g2 g3 hvm hml) (fun z2 ⟨b2, s2, f2⟩ => ?_))
      have b2 : rn_At z2 (1000 * (depth + 1 + 4)) (smV A v (mtf A v)) [] := b2
      have hz2 : fr (skH depth) z z2 := fr_tr (mono41 hf) (fr_mono (fun g hg => Or.inl (by omega)) f2)
      have hA2 : rn_At z2 (1000 * (depth + 4)) A [] := fr_At f2 (fun g hg => by omega) hAy
      have hS2 : rn_sg z2 (1000 * (depth + 4)) A.flatten sg := fun p hp => by
        rw [(f2 _ (by omega)).2.1]
        exact hSy p hp
      have hs1 : (if t0 = 0 then (0 - Int64.ofInt σ) else Int64.ofInt σ) = Int64.ofInt σ1 := by
        rw [ht0, hσ1]
        cases sg (crs A v)
        · rw [if_neg (by decide), if_neg (by decide)]
        · rw [if_pos rfl, if_pos rfl, if_pos rfl, Int64.ofInt_sub]
          rfl
      have c11 : Tt (fun K i => q_X13_skein K (qd_X13_skein K dd) i 11 (nI depth) 0 (nI j) (nI v) (nI (rn_c A v)) (nI (crs A v)) (nI (mtf A v)) t0 (Int64.ofInt σ) (1000 * (depth + 4)) (1000 * (depth + 1 + 4)) 0 0 (nI (depth + 1)) 0 0 (Int64.ofInt σ1) 0 z2) Q := by
        refine u_X13_skein_11 ?_; unfold qm_X13_skein_11
        rw [show nI depth + 1 = nI (depth + 1) from nI_1 _, show nI j + 1 = nI (j + 1) from nI_1 _]
        refine w_cs0 (ih fs (by omega) (depth + 1) dd v (j + 1) (smV A v (mtf A v)) sg σ1 n z2 (by omega) (by omega) (by omega) mF (Nat.le_trans ml hl) (by have := smV_n hvm hml; omega) b2 (sg_sm hF hvm hml hSy s2) mg mo (by rw [(hz2 46 (by unfold skH; omega)).1]; exact h46) (cwA_fr f2 (by omega) (cwA_fr hf (by decide) hcw))) (fun z3 ⟨h3, h3c⟩ => ?_)
        have hA3 : rn_At z3 (1000 * (depth + 4)) A [] := fr_At h3 (fun g hg => by unfold skH at hg; omega) hA2
        have hS3 : rn_sg z3 (1000 * (depth + 4)) A.flatten sg := fun p hp => by
          rw [(h3 _ (by unfold skH; omega)).2.1]
          exact hS2 p hp
        refine w_cs0 (tn_copy hn2 hn (by omega) (by omega) (by omega) hA3) (fun z4 ⟨hA4, f4, s4⟩ => w_cs0 (tp_changeIn hn2 (by omega) (cx hv).1 (fun u hu => ⟨(cx hu).2, (cx hu).1⟩) hA4) (fun z5 ⟨hA5, f5, e5, e6⟩ => ?_))
        have hz5 : fr (skH depth) z z5 := fr_tr hz2 (fr_tr (fr_mono (fun g hg => by unfold skH at hg ⊢; omega) h3) (fr_tr (fr_mono (fun g hg => Or.inl (by omega)) f4) (fr_mono (fun g hg => Or.inl (by omega)) f5)))
        exact w_rdF (by rw [(hz5 46 (by unfold skH; omega)).1]; exact h46) (w_ifT rfl (c13 _ z5 hz5 hA5 (sg_ch hF hS3 s4 e5 e6) (cwA_fr f5 (by omega) (cwA_fr f4 (by omega) h3c))))
      have c9 : Tt (fun K i => q_X13_skein K (qd_X13_skein K dd) i 9 (nI depth) 0 (nI j) (nI v) (nI (rn_c A v)) (nI (crs A v)) (nI (mtf A v)) t0 (Int64.ofInt σ) (1000 * (depth + 4)) (1000 * (depth + 1 + 4)) 0 (nI (depth + 1)) 0 0 (Int64.ofInt σ1) 0 0 z2) Q := by
        refine u_X13_skein_9 ?_; unfold qm_X13_skein_9
        exact w_rdF (by rw [(hz2 46 (by unfold skH; omega)).1]; exact h46) (w_ifT rfl c11)
      refine w_if (fun h0 => ?_) (fun h0 => ?_)
      · rw [if_pos h0] at hs1
        rw [hs1]
        exact c9
      · rw [if_neg h0] at hs1
        rw [← hs1] at c9
        exact c9
    have c7 : ∀ (d w : Nat), w + d = mtf A v → v < w → Tt (fun K i => q_X13_skein K (qd_X13_skein K dd) i 7 (nI depth) 0 (nI j) (nI v) (nI (rn_c A v)) (nI (crs A v)) (nI w) 0 (Int64.ofInt σ) (1000 * (depth + 4)) 0 0 0 0 0 0 0 0 y) Q := by
      intro d
      induction d with
      | zero =>
        intro w hw hvw
        have hw : w = mtf A v := by omega
        subst hw
        refine u_X13_skein_7 ?_; unfold qm_X13_skein_7
        refine w_rdI (pl4 hn) rfl (by omega) (at_cu hAy hml).1 (w_ifT (by rw [hmc]) (w_rdI (pl6 hn) rfl (cx hv).1 (x := if sg (crs A v) then -1 else 1) (by rw [(hf _ (by omega)).2.1]; exact hS _ (vAt_mem hv)) ?_))
        cases e9 : sg (crs A v)
        · exact w_ifF (by decide) (c8 1 (by rw [e9]; rfl))
        · exact w_ifT (by decide) (c8 0 (by rw [e9]; rfl))
      | succ d ih7 =>
        intro w hw hvw
        have hwl : w < A.flatten.length := by omega
        refine u_X13_skein_7 ?_; unfold qm_X13_skein_7
        rw [show nI w + 1 = nI (w + 1) from nI_1 _]
        refine w_rdI (pl4 hn) rfl (by omega) (at_cu hAy hwl).1 (w_ifF (fun e9 => ?_) (ih7 (w + 1) (by omega) (by omega)))
        have e8 := (nI_eq (by have := (cx hwl).1; omega) (by have := (cx hv).1; omega)).mp e9
        exact sk_two hd hv hml hwl (by omega) hmc (by omega) (by omega) e8
    have c6 : ∀ (d c : Nat), c + d = rn_c A v → Tt (fun K i => q_X13_skein K (qd_X13_skein K dd) i 6 (nI depth) 0 (nI j) (nI v) (nI c) 0 0 0 (Int64.ofInt σ) (1000 * (depth + 4)) 0 0 0 0 0 0 0 0 y) Q := by
      intro d
      induction d with
      | zero =>
        intro c hc
        have hc : c = rn_c A v := by omega
        subst hc
        refine u_X13_skein_6 ?_; unfold qm_X13_skein_6
        rw [show nI (rn_c A v) + 1 = nI (rn_c A v + 1) from nI_1 _, show nI v + 1 = nI (v + 1) from nI_1 _]
        exact w_rdI (pl3 hn) rfl (by omega) (hAy.2.2.1 _ (by omega)) (w_ltT (by have := rn_b_le A (rn_c A v + 1); unfold rn_b at this; omega) g3 (w_rdI (pl4 hn) rfl (by omega) (at_cu hAy hv).1 (c7 (mtf A v - (v + 1)) (v + 1) (by omega) (by omega))))
      | succ d ih6 =>
        intro c hc
        refine u_X13_skein_6 ?_; unfold qm_X13_skein_6
        rw [show nI c + 1 = nI (c + 1) from nI_1 _]
        have hle : rn_b A (c + 1) ≤ rn_b A (rn_c A v) := rn_b_mono2 (by omega)
        exact w_rdI (pl3 hn) rfl (by omega) (hAy.2.2.1 _ (by omega)) (w_ltF (by omega) (show rn_b A (c + 1) ≤ v by omega) (ih6 (c + 1) (by omega)))
    refine u_X13_skein_5 ?_; unfold qm_X13_skein_5
    exact w_ifF (rn_neg1 (by omega)) (c6 (rn_c A v) 0 (by omega))
  have scan : ∀ (d v : Nat) (y : ow_MS), v + d = A.flatten.length → fr (fun g => g = 41) z y → metR A v y → (∀ u, u < v → (∀ t, t < u → crs A t ≠ crs A u) → uns A u = 0) → Tt (fun K i => q_X13_skein K (qd_X13_skein K dd) i 2 (nI depth) 0 (nI j) (-1) (nI v) 0 0 0 (Int64.ofInt σ) (1000 * (depth + 4)) 0 0 0 0 0 0 0 0 y) Q := by
    intro d
    induction d with
    | zero =>
      intro v y hv hf hm hgd
      refine u_X13_skein_2 ?_; unfold qm_X13_skein_2
      exact w_rdF (aV hf) (w_leT (by omega) (by omega) (c5 (fun u hu => hu.2.2.1 (hgd u (by have := hu.1; omega) hu.2.1)) _ y hf))
    | succ d ihs =>
      intro v y hv hf hm hgd
      have hvl : v < A.flatten.length := by omega
      have hcv := cx hvl
      have next : ∀ (y2 : ow_MS), fr (fun g => g = 41) z y2 → metR A (v + 1) y2 → (∀ u, u < v + 1 → (∀ t, t < u → crs A t ≠ crs A u) → uns A u = 0) → Tt (fun K i => q_X13_skein K (qd_X13_skein K dd) i 4 (nI depth) 0 (nI j) (-1) (nI v) (nI (crs A v)) 0 0 (Int64.ofInt σ) (1000 * (depth + 4)) 0 0 0 0 0 0 0 0 y2) Q := by
        intro y2 hf2 hm2 hg2
        refine u_X13_skein_4 ?_; unfold qm_X13_skein_4
        rw [show nI v + 1 = nI (v + 1) from nI_1 _]
        exact ihs (v + 1) y2 (by omega) hf2 hm2 hg2
      refine u_X13_skein_2 ?_; unfold qm_X13_skein_2
      refine w_rdF (aV hf) (w_leF (by omega) hvl (w_ifT rfl (w_rdI (pl4 hn) rfl (by omega) (at_cu (aA hf) hvl).1 (w_rdI ml41 rfl hcv.1 rfl ?_))))
      rcases hm _ hcv.1 with ⟨e0, hno⟩ | ⟨e1, u, hu, hue⟩
      · rw [e0]
        have hf2 : fr (fun g => g = 41) z (usI y 41 (crs A v) (vp_nar .boolean 1)) := fr_I2 hf rfl
        refine w_ifT rfl (w_wrZ ml41 rfl hcv.1 (w_rdI (pl5 hn) rfl (by omega) (at_cu (aA hf2) hvl).2 (w_if (fun h9 => ?_) (fun h9 => ?_))))
        · have hb : uns A v ≠ 0 := fun e => by rw [e] at h9; exact absurd h9 (by decide)
          refine u_X13_skein_3 ?_; unfold qm_X13_skein_3
          refine u_X13_skein_4 ?_; unfold qm_X13_skein_4
          rw [show nI v + 1 = nI (v + 1) from nI_1 _]
          refine u_X13_skein_2 ?_; unfold qm_X13_skein_2
          exact w_rdF (aV hf2) (w_le (by omega) (by omega) (fun _ => bad v _ _ hf2 hvl hno hb hgd) (fun _ => w_ifF (rn_neg1 (by omega)) (bad v _ _ hf2 hvl hno hb hgd)))
        · have hb : uns A v = 0 := by
            rcases Nat.eq_zero_or_pos (uns A v) with h8 | h8
            · exact h8
            · exact absurd (show nI (uns A v) = 1 by rw [show uns A v = 1 by omega]; rfl) h9
          refine u_X13_skein_3 ?_; unfold qm_X13_skein_3
          refine next _ hf2 (fun x hx => ?_) (fun u hu hfu => ?_)
          · by_cases hxv : x = crs A v
            · rw [hxv]
              exact Or.inr ⟨po_usI_at.trans (by decide), v, by omega, rfl⟩
            · rcases hm x hx with ⟨a1, a2⟩ | ⟨a1, u, hu, a2⟩
              · refine Or.inl ⟨rd_ne hxv a1, fun u hu e => ?_⟩
                by_cases huv : u = v
                · rw [huv] at e
                  exact hxv e.symm
                · exact a2 u (by omega) e
              · exact Or.inr ⟨rd_ne hxv a1, u, by omega, a2⟩
          · by_cases huv : u = v
            · rw [huv]; exact hb
            · exact hgd u (by omega) hfu
      · rw [e1]
        refine w_ifF (by decide) (next y hf (fun x hx => ?_) (fun t ht hft => ?_))
        · rcases hm x hx with ⟨a1, a2⟩ | ⟨a1, t, ht, a2⟩
          · refine Or.inl ⟨a1, fun t ht e => ?_⟩
            by_cases htv : t = v
            · rw [htv] at e
              exact a2 u hu (hue.trans e)
            · exact a2 t (by omega) e
          · exact Or.inr ⟨a1, t, by omega, a2⟩
        · by_cases htv : t = v
          · rw [htv] at hft
            exact absurd hue (hft u hu)
          · exact hgd t (by omega) hft
  have clr : ∀ (d i : Nat) (y : ow_MS), i + d = 40 → fr (fun g => g = 41) z y → (∀ x, x < i → y.2.1 41 x = 0) → Tt (fun K t => q_X13_skein K (qd_X13_skein K dd) t 1 (nI depth) 0 (nI j) (nI i) 0 0 0 0 (Int64.ofInt σ) (1000 * (depth + 4)) 0 0 0 0 0 0 0 0 y) Q := by
    intro d
    induction d with
    | zero =>
      intro i y hi hf hx
      refine u_X13_skein_1 ?_; unfold qm_X13_skein_1
      exact w_leT (a := 40) (by omega) (by omega) (scan A.flatten.length 0 y (by omega) hf (fun x h9 => Or.inl ⟨hx x (by omega), fun u hu => absurd hu (by omega)⟩) (fun u hu => absurd hu (by omega)))
    | succ d ihc =>
      intro i y hi hf hx
      refine u_X13_skein_1 ?_; unfold qm_X13_skein_1
      rw [show nI i + 1 = nI (i + 1) from nI_1 _]
      refine w_leF (a := 40) (by omega) (by omega) (w_wrZ ml41 rfl (by omega) (ihc (i + 1) _ (by omega) (fr_I2 hf rfl) (fun x h9 => ?_)))
      by_cases hxi : x = i
      · rw [hxi]
        exact po_usI_at.trans (by decide)
      · exact rd_ne hxi (hx x (by omega))
  refine w_qd ?_
  refine u_X13_skein_0 ?_; unfold qm_X13_skein_0
  exact w_rdN rfl (by omega) (clr 40 0 z (by omega) fr_rf (fun x hx => absurd hx (by omega)))
end
section
/-! 99zzzzzzzzzzzzzl.xcw3 -/
/-! smoothing, with the names of the crossings that are left -/
section ISMb
variable {A : rn_L} {sg : Nat → Bool} {f : Nat → Nat} {T : ow_NT} {P Mi Po : rn_L} {X Y Z W : List vT} {p q : vT}
theorem iso_sm0b {A1 : rn_L} {x : Nat} (h : isoV A1 sg f (T.1, T.2.1, np_exchange T.2.2.1 (gl f p) (gl f q), T.2.2.2)) (hv : vn T.1 T.2.2.1) (hp : p.1 = x) (hq : q = (x, 1 - p.2)) (hp2 : p.2 < 2) (hpA : p ∈ A1.flatten) : ∃ f', isoV (A1.map (List.filter (fun r => decide (r.1 ≠ x)))) sg f' (ntSm T (f x)) ∧ ∀ y, f' y = if f y = T.1 - 1 then f x else f y := by
  have hF := h.1.1
  have hqA : q ∈ A1.flatten := by
    have := (hF.2 p hpA).2.2
    rw [hp, ← hq] at this
    exact this
  have x0 : (x, 0) ∈ A1.flatten ∧ (p = (x, 0) ∧ q = (x, 1) ∨ p = (x, 1) ∧ q = (x, 0)) := by
    rcases (show p.2 = 0 ∨ p.2 = 1 by omega) with e | e
    · have e1 : p = (x, 0) := Prod.ext hp e
      rw [e] at hq
      exact ⟨by rw [← e1]; exact hpA, Or.inl ⟨e1, hq⟩⟩
    · have e1 : p = (x, 1) := Prod.ext hp e
      rw [e] at hq
      exact ⟨by have hq' : q = (x, 0) := hq; rw [← hq']; exact hqA, Or.inr ⟨e1, hq⟩⟩
  obtain ⟨f', k1, kf⟩ := iso_rm h x0.1
  refine ⟨f', ?_, kf⟩
  have ew : wox A1 x = A1.map (List.filter (fun r => decide (r.1 ≠ x))) := by
    unfold wox rmv
    rw [List.map_map]
    exact List.map_congr_left (fun L hL => woL (fun r hr => (hF.2 r (List.mem_flatten.mpr ⟨L, hL, hr⟩)).2.1))
  rw [ew] at k1
  have hfx : f x < T.1 := h.1.2.2.2.1 _ x0.1
  have eT : nt_rm (T.1, T.2.1, np_exchange T.2.2.1 (gl f p) (gl f q), T.2.2.2) (f x) = ntSm T (f x) := by
    unfold ntSm
    rcases x0.2 with ⟨e1, e2⟩ | ⟨e1, e2⟩
    · rw [e1, e2]
      rfl
    · rw [e1, e2]
      rw [show np_exchange T.2.2.1 (gl f (x, 1)) (gl f (x, 0)) = np_exchange T.2.2.1 (2 * f x) (2 * f x + 1) from ex_comm (v := 2 * f x + 1) (w := 2 * f x) hv (by omega) (by omega) (by omega)]
  rw [eT] at k1
  exact k1
theorem iso_sm1b {x : Nat} (hAe : A = P ++ (X ++ p :: (Y ++ q :: Z)) :: Po) (h : isoV A sg f T) (hx : p = (x, 0) ∧ q = (x, 1) ∨ p = (x, 1) ∧ q = (x, 0)) : ∃ f', isoV (P ++ (X ++ Z) :: Po ++ [Y]) sg f' (ntSm T (f x)) ∧ ∀ y, f' y = if f y = T.1 - 1 then f x else f y := by
  have hF := h.1.1
  have hv := isoV_vn h
  have hLA : X ++ p :: (Y ++ q :: Z) ∈ A := by rw [hAe]; exact List.mem_append_right _ List.mem_cons_self
  have nL := L_nd hF.1 hLA
  have hpL : p ∈ X ++ p :: (Y ++ q :: Z) := List.mem_append_right _ List.mem_cons_self
  have hqL : q ∈ X ++ p :: (Y ++ q :: Z) := List.mem_append_right _ (List.mem_cons_of_mem _ (List.mem_append_right _ List.mem_cons_self))
  have hpq : p ≠ q := by
    rcases hx with ⟨rfl, rfl⟩ | ⟨rfl, rfl⟩
    · exact fun e => absurd (Prod.mk.inj e).2 (by decide)
    · exact fun e => absurd (Prod.mk.inj e).2 (by decide)
  have eR : X ++ p :: (Y ++ q :: Z) = (X ++ p :: (Y ++ [q])) ++ Z := by simp
  have eR2 : Z ++ (X ++ p :: (Y ++ [q])) = ((Z ++ X) ++ [p]) ++ (Y ++ [q]) := by simp
  have nR : (((Z ++ X) ++ [p]) ++ (Y ++ [q])).Nodup := by
    rw [← eR2]
    refine nd_rot ?_
    rw [← eR]
    exact nL
  have memR : ∀ r, r ∈ ((Z ++ X) ++ [p]) ++ (Y ++ [q]) ↔ r ∈ X ++ p :: (Y ++ q :: Z) := fun r => by
    simp only [List.mem_append, List.mem_cons, List.mem_singleton]
    grind
  have scR : ∀ r, r ∈ X ++ p :: (Y ++ q :: Z) → sc (((Z ++ X) ++ [p]) ++ (Y ++ [q])) r = sc (X ++ p :: (Y ++ q :: Z)) r := fun r hr => by
    have hn2 : ((X ++ p :: (Y ++ [q])) ++ Z).Nodup := by rw [← eR]; exact nL
    have := sc_rot (p := r) hn2 (by rw [← eR]; exact hr)
    rw [eR2, ← eR] at this
    exact this
  have otherL : ∀ L, L ∈ P ++ Po → L ∈ A := fun L hL => by
    rw [hAe]
    rcases List.mem_append.mp hL with h9 | h9
    · exact List.mem_append_left _ h9
    · exact List.mem_append_right _ (List.mem_cons_of_mem _ h9)
  have otherN : ∀ L, L ∈ P ++ Po → ∀ r, r ∈ L → r ≠ p ∧ r ≠ q := fun L hL r hr => by
    have hn := hF.1
    rw [hAe, List.flatten_append, List.flatten_cons] at hn
    have dis : ∀ s, s ∈ X ++ p :: (Y ++ q :: Z) → r ≠ s := fun s hs e => by
      obtain ⟨n1, n2, n3⟩ := List.nodup_append.mp hn
      obtain ⟨m1, m2, m3⟩ := List.nodup_append.mp n2
      rcases List.mem_append.mp hL with h9 | h9
      · exact n3 r (List.mem_flatten.mpr ⟨L, h9, hr⟩) s (List.mem_append_left _ hs) e
      · exact m3 s hs r (List.mem_flatten.mpr ⟨L, h9, hr⟩) e.symm
    exact ⟨dis p hpL, dis q hqL⟩
  let A1 : rn_L := P ++ ((Z ++ X) ++ [p]) :: Po ++ [Y ++ [q]]
  have perm1 : A1.flatten.Perm A.flatten := by
    rw [hAe]
    show (P ++ ((Z ++ X) ++ [p]) :: Po ++ [Y ++ [q]]).flatten.Perm _
    refine List.perm_iff_count.mpr (fun a => ?_)
    simp only [List.flatten_append, List.flatten_cons, List.flatten_nil, List.count_append, List.count_cons, List.count_nil]
    omega
  have cirs1 : cirs A1 = cirs A := by
    rw [hAe]
    show cirs (P ++ ((Z ++ X) ++ [p]) :: Po ++ [Y ++ [q]]) = _
    rw [cirs_app2, cirs_app2, cirs_app2, cirs_ne (by simp), cirs_ne (by simp), cirs_ne (by simp)]
    show cirs P + cirs Po + 0 = _
    omega
  have hpA : p ∈ A.flatten := List.mem_flatten.mpr ⟨_, hLA, hpL⟩
  have hqA : q ∈ A.flatten := List.mem_flatten.mpr ⟨_, hLA, hqL⟩
  have dis : ∀ r, r ∈ (Z ++ X) ++ [p] → r ∈ Y ++ [q] → False := fun r h1 h2 => (List.nodup_append.mp nR).2.2 r h1 r h2 rfl
  have key1 : isoV A1 sg f (T.1, T.2.1, np_exchange T.2.2.1 (gl f p) (gl f q), T.2.2.2) := by
    refine iso_exch h hpA hqA hpq perm1 cirs1 (fun L hL r hr => ?_)
    have hL : L ∈ P ++ Po ∨ L = (Z ++ X) ++ [p] ∨ L = Y ++ [q] := by
      have hL : L ∈ P ++ ((Z ++ X) ++ [p]) :: Po ++ [Y ++ [q]] := hL
      rcases List.mem_append.mp hL with h9 | h9
      · rcases List.mem_append.mp h9 with h8 | h8
        · exact Or.inl (List.mem_append_left _ h8)
        · rcases List.mem_cons.mp h8 with h7 | h7
          · exact Or.inr (Or.inl h7)
          · exact Or.inl (List.mem_append_right _ h7)
      · exact Or.inr (Or.inr (List.mem_singleton.mp h9))
    rcases hL with hL | rfl | rfl
    · obtain ⟨n1, n2⟩ := otherN L hL r hr
      exact ⟨fun e => absurd e n1, fun e => absurd e n2, fun _ _ => ⟨L, otherL L hL, hr, rfl⟩⟩
    · have hs := sc_spl1 nR hr
      have hrR := (memR r).mp (List.mem_append_left _ hr)
      refine ⟨fun e => ⟨_, hLA, hqL, ?_⟩, fun e => absurd (List.mem_append_right _ (by rw [e]; exact List.mem_singleton.mpr rfl)) (fun h9 => dis r hr h9), fun e1 _ => ⟨_, hLA, hrR, ?_⟩⟩
      · rw [hs, if_pos e, scR q hqL]
      · rw [hs, if_neg e1, scR r hrR]
    · have hs := sc_spl2 nR hr
      have hrR := (memR r).mp (List.mem_append_right _ hr)
      refine ⟨fun e => absurd (List.mem_append_right _ (by rw [e]; exact List.mem_singleton.mpr rfl)) (fun h9 => dis r h9 hr), fun e => ⟨_, hLA, hpL, ?_⟩, fun _ e2 => ⟨_, hLA, hrR, ?_⟩⟩
      · rw [hs, if_pos e, scR p hpL]
      · rw [hs, if_neg e2, scR r hrR]
  have hp1 : p.1 = x ∧ q = (x, 1 - p.2) ∧ p.2 < 2 := by
    rcases hx with ⟨rfl, rfl⟩ | ⟨rfl, rfl⟩
    · exact ⟨rfl, rfl, by show 0 < 2; omega⟩
    · exact ⟨rfl, rfl, by show 1 < 2; omega⟩
  obtain ⟨f', k1, kf⟩ := iso_sm0b key1 hv hp1.1 hp1.2.1 hp1.2.2 (perm1.mem_iff.mpr hpA)
  have hq1 : q.1 = x := by rw [hp1.2.1]
  have notx : ∀ r, r ∈ X ++ p :: (Y ++ q :: Z) → r ≠ p → r ≠ q → r.1 ≠ x := fun r hr h1 h2 => nd_of hF hLA hx hr h1 h2
  have fo1 : ∀ L, L ∈ P ++ Po → L.filter (fun r => decide (r.1 ≠ x)) = L := fun L hL => fil_k (fun r hr => nd_of hF (otherL L hL) hx hr (otherN L hL r hr).1 (otherN L hL r hr).2)
  have inZX : ∀ r, r ∈ Z ++ X → r.1 ≠ x := fun r hr => notx r ((memR r).mp (List.mem_append_left _ (List.mem_append_left _ hr))) (fun e => by
    have nn := (List.nodup_append.mp nR).1
    exact (List.nodup_append.mp nn).2.2 r hr p (List.mem_singleton.mpr rfl) e) (fun e => dis r (List.mem_append_left _ hr) (by rw [e]; exact List.mem_append_right _ (List.mem_singleton.mpr rfl)))
  have inY : ∀ r, r ∈ Y → r.1 ≠ x := fun r hr => notx r ((memR r).mp (List.mem_append_right _ (List.mem_append_left _ hr))) (fun e => dis r (by rw [e]; exact List.mem_append_right _ (List.mem_singleton.mpr rfl)) (List.mem_append_left _ hr)) (fun e => by
    have nn := (List.nodup_append.mp nR).2.1
    exact (List.nodup_append.mp nn).2.2 r hr q (List.mem_singleton.mpr rfl) e)
  have f1 : ((Z ++ X) ++ [p]).filter (fun r => decide (r.1 ≠ x)) = Z ++ X := by
    rw [List.filter_append, fil_k inZX, List.filter_cons_of_neg (by rw [hp1.1]; simp), List.filter_nil, List.append_nil]
  have f2 : (Y ++ [q]).filter (fun r => decide (r.1 ≠ x)) = Y := by
    rw [List.filter_append, fil_k inY, List.filter_cons_of_neg (by rw [hq1]; simp), List.filter_nil, List.append_nil]
  have fP : P.map (List.filter (fun r => decide (r.1 ≠ x))) = P := by
    conv => rhs; rw [← List.map_id P]
    exact List.map_congr_left (fun L hL => fo1 L (List.mem_append_left _ hL))
  have fPo : Po.map (List.filter (fun r => decide (r.1 ≠ x))) = Po := by
    conv => rhs; rw [← List.map_id Po]
    exact List.map_congr_left (fun L hL => fo1 L (List.mem_append_right _ hL))
  have eA1 : A1.map (List.filter (fun r => decide (r.1 ≠ x))) = P ++ (Z ++ X) :: Po ++ [Y] := by
    show (P ++ ((Z ++ X) ++ [p]) :: Po ++ [Y ++ [q]]).map _ = _
    rw [List.map_append, List.map_append, List.map_cons, List.map_cons, List.map_nil, f1, f2, fP, fPo]
  rw [eA1] at k1
  refine ⟨f', isoV_lists k1 ?_ ?_ (fun L hL r hr => ?_), kf⟩
  · refine List.perm_iff_count.mpr (fun a => ?_)
    simp only [List.flatten_append, List.flatten_cons, List.flatten_nil, List.count_append, List.count_nil]
    omega
  · rw [cirs_app2, cirs_app2, cirs_app2, cirs_app2, cirs_cons (X ++ Z), cirs_cons (Z ++ X)]
    have : (X ++ Z = []) ↔ (Z ++ X = []) := by
      rw [List.append_eq_nil_iff, List.append_eq_nil_iff]
      exact And.comm
    simp only [this]
  · rcases List.mem_append.mp hL with h9 | h9
    · rcases List.mem_append.mp h9 with h8 | h8
      · exact ⟨L, List.mem_append_left _ (List.mem_append_left _ h8), hr, rfl⟩
      · rcases List.mem_cons.mp h8 with h7 | h7
        · have nZX : (Z ++ X).Nodup := by
            have nn := (List.nodup_append.mp nR).1
            exact (List.nodup_append.mp nn).1
          have hrZ : r ∈ Z ++ X := by
            rw [h7] at hr
            rcases List.mem_append.mp hr with h6 | h6
            · exact List.mem_append_right _ h6
            · exact List.mem_append_left _ h6
          refine ⟨Z ++ X, List.mem_append_left _ (List.mem_append_right _ List.mem_cons_self), hrZ, ?_⟩
          rw [h7]
          exact sc_rot nZX hrZ
        · exact ⟨L, List.mem_append_left _ (List.mem_append_right _ (List.mem_cons_of_mem _ h7)), hr, rfl⟩
    · exact ⟨L, List.mem_append_right _ h9, hr, rfl⟩
end ISMb
section ISNb
variable {A : rn_L} {sg : Nat → Bool} {f : Nat → Nat} {T : ow_NT} {P Mi Po : rn_L} {X X' W W' : List vT} {p q : vT}
theorem iso_sm2b {x : Nat} (hAe : A = P ++ (X ++ p :: X') :: (Mi ++ (W ++ q :: W') :: Po)) (h : isoV A sg f T) (hx : p = (x, 0) ∧ q = (x, 1) ∨ p = (x, 1) ∧ q = (x, 0)) : ∃ f', isoV (P ++ (((X ++ W') ++ W) ++ X') :: (Mi ++ Po)) sg f' (ntSm T (f x)) ∧ ∀ y, f' y = if f y = T.1 - 1 then f x else f y := by
  have hF := h.1.1
  have hv := isoV_vn h
  have hLA : X ++ p :: X' ∈ A := by rw [hAe]; exact List.mem_append_right _ List.mem_cons_self
  have hMA : W ++ q :: W' ∈ A := by rw [hAe]; exact List.mem_append_right _ (List.mem_cons_of_mem _ (List.mem_append_right _ List.mem_cons_self))
  have nL := L_nd hF.1 hLA
  have nM := L_nd hF.1 hMA
  have hpL : p ∈ X ++ p :: X' := List.mem_append_right _ List.mem_cons_self
  have hqM : q ∈ W ++ q :: W' := List.mem_append_right _ List.mem_cons_self
  have hpq : p ≠ q := by
    rcases hx with ⟨rfl, rfl⟩ | ⟨rfl, rfl⟩
    · exact fun e => absurd (Prod.mk.inj e).2 (by decide)
    · exact fun e => absurd (Prod.mk.inj e).2 (by decide)
  have eU : X ++ p :: X' = (X ++ [p]) ++ X' := by simp
  have eU2 : X' ++ (X ++ [p]) = (X' ++ X) ++ [p] := by simp
  have eW : W ++ q :: W' = (W ++ [q]) ++ W' := by simp
  have eW2 : W' ++ (W ++ [q]) = (W' ++ W) ++ [q] := by simp
  have memU : ∀ r, r ∈ (X' ++ X) ++ [p] ↔ r ∈ X ++ p :: X' := fun r => by
    simp only [List.mem_append, List.mem_cons, List.mem_singleton]
    grind
  have memW : ∀ r, r ∈ (W' ++ W) ++ [q] ↔ r ∈ W ++ q :: W' := fun r => by
    simp only [List.mem_append, List.mem_cons, List.mem_singleton]
    grind
  have scU : ∀ r, r ∈ X ++ p :: X' → sc ((X' ++ X) ++ [p]) r = sc (X ++ p :: X') r := fun r hr => by
    have hn2 : ((X ++ [p]) ++ X').Nodup := by rw [← eU]; exact nL
    have := sc_rot (p := r) hn2 (by rw [← eU]; exact hr)
    rw [eU2, ← eU] at this
    exact this
  have scW : ∀ r, r ∈ W ++ q :: W' → sc ((W' ++ W) ++ [q]) r = sc (W ++ q :: W') r := fun r hr => by
    have hn2 : ((W ++ [q]) ++ W').Nodup := by rw [← eW]; exact nM
    have := sc_rot (p := r) hn2 (by rw [← eW]; exact hr)
    rw [eW2, ← eW] at this
    exact this
  have nA := hF.1
  rw [hAe] at nA
  have cnt : ∀ r, A.flatten.count r = P.flatten.count r + ((X' ++ X) ++ [p]).count r + Mi.flatten.count r + ((W' ++ W) ++ [q]).count r + Po.flatten.count r := fun r => by
    rw [hAe]
    simp only [List.flatten_append, List.flatten_cons, List.count_append, List.count_cons, List.count_nil]
    omega
  have one : ∀ r, A.flatten.count r ≤ 1 := fun r => List.nodup_iff_count.mp hF.1 r
  have nR : (((X' ++ X) ++ [p]) ++ ((W' ++ W) ++ [q])).Nodup := by
    refine List.nodup_iff_count.mpr (fun r => ?_)
    have h1 := cnt r
    have h2 := one r
    rw [List.count_append]
    omega
  have dis : ∀ r, r ∈ (X' ++ X) ++ [p] → r ∈ (W' ++ W) ++ [q] → False := fun r h1 h2 => (List.nodup_append.mp nR).2.2 r h1 r h2 rfl
  have otherL : ∀ L, L ∈ P ++ (Mi ++ Po) → L ∈ A := fun L hL => by
    rw [hAe]
    rcases List.mem_append.mp hL with h9 | h9
    · exact List.mem_append_left _ h9
    · rcases List.mem_append.mp h9 with h8 | h8
      · exact List.mem_append_right _ (List.mem_cons_of_mem _ (List.mem_append_left _ h8))
      · exact List.mem_append_right _ (List.mem_cons_of_mem _ (List.mem_append_right _ (List.mem_cons_of_mem _ h8)))
  have otherN : ∀ L, L ∈ P ++ (Mi ++ Po) → ∀ r, r ∈ L → r ≠ p ∧ r ≠ q := fun L hL r hr => by
    have h1 := cnt r
    have h2 := one r
    have h3 : 0 < (P ++ (Mi ++ Po)).flatten.count r := List.count_pos_iff.mpr (List.mem_flatten.mpr ⟨L, hL, hr⟩)
    rw [List.flatten_append, List.flatten_append, List.count_append, List.count_append] at h3
    refine ⟨fun e => ?_, fun e => ?_⟩
    · have h4 : 0 < ((X' ++ X) ++ [p]).count r := List.count_pos_iff.mpr (by rw [e]; exact List.mem_append_right _ (List.mem_singleton.mpr rfl))
      omega
    · have h4 : 0 < ((W' ++ W) ++ [q]).count r := List.count_pos_iff.mpr (by rw [e]; exact List.mem_append_right _ (List.mem_singleton.mpr rfl))
      omega
  let A1 : rn_L := P ++ (((X' ++ X) ++ [p]) ++ ((W' ++ W) ++ [q])) :: (Mi ++ Po)
  have perm1 : A1.flatten.Perm A.flatten := by
    refine List.perm_iff_count.mpr (fun a => ?_)
    rw [cnt]
    show (P ++ (((X' ++ X) ++ [p]) ++ ((W' ++ W) ++ [q])) :: (Mi ++ Po)).flatten.count a = _
    simp only [List.flatten_append, List.flatten_cons, List.count_append]
    omega
  have cirs1 : cirs A1 = cirs A := by
    rw [hAe]
    show cirs (P ++ (((X' ++ X) ++ [p]) ++ ((W' ++ W) ++ [q])) :: (Mi ++ Po)) = _
    rw [cirs_app2, cirs_app2, cirs_ne (by simp), cirs_ne (by simp), cirs_app2, cirs_app2, cirs_ne (by simp)]
  have hpA : p ∈ A.flatten := List.mem_flatten.mpr ⟨_, hLA, hpL⟩
  have hqA : q ∈ A.flatten := List.mem_flatten.mpr ⟨_, hMA, hqM⟩
  have key1 : isoV A1 sg f (T.1, T.2.1, np_exchange T.2.2.1 (gl f p) (gl f q), T.2.2.2) := by
    refine iso_exch h hpA hqA hpq perm1 cirs1 (fun L hL r hr => ?_)
    have hL : L ∈ P ++ (Mi ++ Po) ∨ L = ((X' ++ X) ++ [p]) ++ ((W' ++ W) ++ [q]) := by
      have hL : L ∈ P ++ (((X' ++ X) ++ [p]) ++ ((W' ++ W) ++ [q])) :: (Mi ++ Po) := hL
      rcases List.mem_append.mp hL with h9 | h9
      · exact Or.inl (List.mem_append_left _ h9)
      · rcases List.mem_cons.mp h9 with h8 | h8
        · exact Or.inr h8
        · exact Or.inl (List.mem_append_right _ h8)
    rcases hL with hL | rfl
    · obtain ⟨n1, n2⟩ := otherN L hL r hr
      exact ⟨fun e => absurd e n1, fun e => absurd e n2, fun _ _ => ⟨L, otherL L hL, hr, rfl⟩⟩
    · rcases List.mem_append.mp hr with hr1 | hr1
      · have hs := sc_spl1 nR hr1
        have hrU := (memU r).mp hr1
        refine ⟨fun e => ⟨_, hMA, hqM, ?_⟩, fun e => absurd (List.mem_append_right _ (by rw [e]; exact List.mem_singleton.mpr rfl)) (fun h9 => dis r hr1 h9), fun e1 _ => ⟨_, hLA, hrU, ?_⟩⟩
        · have hs2 := sc_spl2 (p := q) nR (List.mem_append_right _ (List.mem_singleton.mpr rfl))
          rw [if_pos rfl, scW q hqM] at hs2
          rw [e, hs2]
        · rw [if_neg e1, scU r hrU] at hs
          exact hs.symm
      · have hs := sc_spl2 nR hr1
        have hrW := (memW r).mp hr1
        refine ⟨fun e => absurd (List.mem_append_right _ (by rw [e]; exact List.mem_singleton.mpr rfl)) (fun h9 => dis r h9 hr1), fun e => ⟨_, hLA, hpL, ?_⟩, fun _ e2 => ⟨_, hMA, hrW, ?_⟩⟩
        · have hs2 := sc_spl1 (p := p) nR (List.mem_append_right _ (List.mem_singleton.mpr rfl))
          rw [if_pos rfl, scU p hpL] at hs2
          rw [e, hs2]
        · rw [if_neg e2, scW r hrW] at hs
          exact hs.symm
  have hp1 : p.1 = x ∧ q = (x, 1 - p.2) ∧ p.2 < 2 := by
    rcases hx with ⟨rfl, rfl⟩ | ⟨rfl, rfl⟩
    · exact ⟨rfl, rfl, by show 0 < 2; omega⟩
    · exact ⟨rfl, rfl, by show 1 < 2; omega⟩
  obtain ⟨f', k1, kf⟩ := iso_sm0b key1 hv hp1.1 hp1.2.1 hp1.2.2 (perm1.mem_iff.mpr hpA)
  have hq1 : q.1 = x := by rw [hp1.2.1]
  have fo1 : ∀ L, L ∈ P ++ (Mi ++ Po) → L.filter (fun r => decide (r.1 ≠ x)) = L := fun L hL => fil_k (fun r hr => nd_of hF (otherL L hL) hx hr (otherN L hL r hr).1 (otherN L hL r hr).2)
  have inU : ∀ r, r ∈ X' ++ X → r.1 ≠ x := fun r hr => nd_of hF hLA hx ((memU r).mp (List.mem_append_left _ hr)) (fun e => by
    have nn := (List.nodup_append.mp nR).1
    exact (List.nodup_append.mp nn).2.2 r hr p (List.mem_singleton.mpr rfl) e) (fun e => dis r (List.mem_append_left _ hr) (by rw [e]; exact List.mem_append_right _ (List.mem_singleton.mpr rfl)))
  have inW : ∀ r, r ∈ W' ++ W → r.1 ≠ x := fun r hr => nd_of hF hMA hx ((memW r).mp (List.mem_append_left _ hr)) (fun e => dis r (by rw [e]; exact List.mem_append_right _ (List.mem_singleton.mpr rfl)) (List.mem_append_left _ hr)) (fun e => by
    have nn := (List.nodup_append.mp nR).2.1
    exact (List.nodup_append.mp nn).2.2 r hr q (List.mem_singleton.mpr rfl) e)
  have f1 : (((X' ++ X) ++ [p]) ++ ((W' ++ W) ++ [q])).filter (fun r => decide (r.1 ≠ x)) = (X' ++ X) ++ (W' ++ W) := by
    rw [List.filter_append, List.filter_append (l₁ := X' ++ X), List.filter_append (l₁ := W' ++ W), fil_k inU, fil_k inW, List.filter_cons_of_neg (by rw [hp1.1]; simp), List.filter_cons_of_neg (by rw [hq1]; simp), List.filter_nil, List.append_nil, List.append_nil]
  have fP : P.map (List.filter (fun r => decide (r.1 ≠ x))) = P := by
    conv => rhs; rw [← List.map_id P]
    exact List.map_congr_left (fun L hL => fo1 L (List.mem_append_left _ hL))
  have fPo : (Mi ++ Po).map (List.filter (fun r => decide (r.1 ≠ x))) = Mi ++ Po := by
    conv => rhs; rw [← List.map_id (Mi ++ Po)]
    exact List.map_congr_left (fun L hL => fo1 L (List.mem_append_right _ hL))
  have eA1 : A1.map (List.filter (fun r => decide (r.1 ≠ x))) = P ++ ((X' ++ X) ++ (W' ++ W)) :: (Mi ++ Po) := by
    show (P ++ (((X' ++ X) ++ [p]) ++ ((W' ++ W) ++ [q])) :: (Mi ++ Po)).map _ = _
    rw [List.map_append, List.map_cons, f1, fP, fPo]
  rw [eA1] at k1
  have eZ : (X' ++ X) ++ (W' ++ W) = X' ++ ((X ++ W') ++ W) := by simp
  rw [eZ] at k1
  refine ⟨f', isoV_lists k1 ?_ ?_ (fun L hL r hr => ?_), kf⟩
  · refine List.perm_iff_count.mpr (fun a => ?_)
    simp only [List.flatten_append, List.flatten_cons, List.count_append]
    omega
  · rw [cirs_app2, cirs_app2, cirs_cons (((X ++ W') ++ W) ++ X'), cirs_cons (X' ++ ((X ++ W') ++ W))]
    have : (((X ++ W') ++ W) ++ X' = []) ↔ (X' ++ ((X ++ W') ++ W) = []) := by
      rw [List.append_eq_nil_iff (p := (X ++ W') ++ W), List.append_eq_nil_iff (p := X')]
      exact And.comm
    simp only [this]
  · rcases List.mem_append.mp hL with h9 | h9
    · exact ⟨L, List.mem_append_left _ h9, hr, rfl⟩
    · rcases List.mem_cons.mp h9 with h7 | h7
      · have nZX : (X' ++ ((X ++ W') ++ W)).Nodup := by
          rw [← eZ]
          have := nR.filter (fun r => decide (r.1 ≠ x))
          rw [f1] at this
          exact this
        have hrZ : r ∈ X' ++ ((X ++ W') ++ W) := by
          rw [h7] at hr
          rcases List.mem_append.mp hr with h6 | h6
          · exact List.mem_append_right _ h6
          · exact List.mem_append_left _ h6
        refine ⟨_, List.mem_append_right _ List.mem_cons_self, hrZ, ?_⟩
        rw [h7]
        exact sc_rot nZX hrZ
      · exact ⟨L, List.mem_append_right _ (List.mem_cons_of_mem _ h7), hr, rfl⟩
theorem iso_smb {v w : Nat} (h : isoV A sg f T) (hvw : v < w) (hw : w < A.flatten.length) (hx : vAt A v = (crs A v, 0) ∧ vAt A w = (crs A v, 1) ∨ vAt A v = (crs A v, 1) ∧ vAt A w = (crs A v, 0)) : ∃ f', isoV (smV A v w) sg f' (ntSm T (f (crs A v))) ∧ ∀ y, f' y = if f y = T.1 - 1 then f (crs A v) else f y := by
  obtain ⟨c1, c2, c3⟩ := rn_c_in A v (by omega)
  obtain ⟨j1, j2, j3⟩ := rn_c_in A w hw
  unfold smV
  generalize rn_c A v = c at c1 c2 c3
  generalize rn_c A w = J at j1 j2 j3
  have eA : A = ((cps A 0 c).map (List.map (vAt A))) ++ ((seg (rn_b A c) (rn_b A (c + 1))).map (vAt A)) :: ((cps A (c + 1) A.length).map (List.map (vAt A))) := by
    conv => lhs; rw [← cps_all (A := A)]
    rw [cps_app (Nat.zero_le c) (show c ≤ A.length by omega), cps_cons c1, List.map_append, List.map_cons]
  have eL : seg (rn_b A c) (rn_b A (c + 1)) = seg (rn_b A c) v ++ v :: seg (v + 1) (rn_b A (c + 1)) := by
    rw [seg_app c2 (Nat.le_of_lt c3), seg_cons c3]
  unfold smC
  by_cases hone : w < rn_b A (c + 1)
  · rw [if_pos hone]
    have eL2 : seg (v + 1) (rn_b A (c + 1)) = seg (v + 1) w ++ w :: seg (w + 1) (rn_b A (c + 1)) := by
      rw [seg_app (show v + 1 ≤ w by omega) (Nat.le_of_lt hone), seg_cons hone]
    rw [eL, eL2, List.map_append, List.map_cons, List.map_append, List.map_cons] at eA
    obtain ⟨f', k, kf⟩ := iso_sm1b eA h hx
    refine ⟨f', ?_, kf⟩
    rw [List.map_append, List.map_append, List.map_append, List.map_cons, List.map_cons, List.map_nil, List.map_append]
    rw [show ∀ (a : rn_L) (b : List vT) (d e : rn_L), a ++ [b] ++ d ++ e = a ++ b :: d ++ e from fun a b d e => by simp]
    exact k
  · rw [if_neg hone]
    have hcJ : c < J := by
      rcases Nat.lt_or_ge c J with h9 | h9
      · exact h9
      · have := rn_b_mono2 (A := A) (show J + 1 ≤ c + 1 by omega)
        omega
    have eP : cps A (c + 1) A.length = cps A (c + 1) J ++ seg (rn_b A J) (rn_b A (J + 1)) :: cps A (J + 1) A.length := by
      rw [cps_app (show c + 1 ≤ J by omega) (show J ≤ A.length by omega), cps_cons j1]
    have eM : seg (rn_b A J) (rn_b A (J + 1)) = seg (rn_b A J) w ++ w :: seg (w + 1) (rn_b A (J + 1)) := by
      rw [seg_app j2 (Nat.le_of_lt j3), seg_cons j3]
    rw [eL, eP, eM, List.map_append, List.map_cons, List.map_append, List.map_cons, List.map_append, List.map_cons] at eA
    obtain ⟨f', k, kf⟩ := iso_sm2b eA h hx
    refine ⟨f', ?_, kf⟩
    rw [List.map_append, List.map_append, List.map_append, List.map_cons, List.map_nil, List.map_append, List.map_append, List.map_append]
    rw [show ∀ (a : rn_L) (b : List vT) (d e : rn_L), a ++ [b] ++ d ++ e = a ++ b :: (d ++ e) from fun a b d e => by simp]
    exact k
end ISNb
end
section
/-! 99zzzzzzzzzzzzzm.xcw4 -/
/-! conway: what the class's unfold stands on -/
def cwC (z : ow_MS) (n : Nat → Int) : Prop := ∀ t, t < 13 → z.2.1 24003 t = iI (n t)
theorem cwC_fr {P : Nat → Prop} {z z1 : ow_MS} {n : Nat → Int} (hf : fr P z z1) (hP : ¬ P 24003) (h : cwC z n) : cwC z1 n := fun t ht => by
  rw [(hf 24003 hP).2.1]
  exact h t ht
theorem cwC_cg {z : ow_MS} {n n' : Nat → Int} (h : cwC z n) (e : ∀ t, t < 13 → n t = n' t) : cwC z n' := fun t ht => by
  rw [← e t ht]
  exact h t ht
theorem gbit0 {g v : Nat} (hg : g < 2 ^ 24) (hv : v < 24) : ((nI g >>> (nI v &&& 31)) &&& 1 = 0) ↔ ¬ o_gn g v := by
  rw [gbit hg hv]
  unfold o_gn
  have h9 : g / 2 ^ v % 2 = 0 ∨ g / 2 ^ v % 2 = 1 := by omega
  rcases h9 with e | e <;> rw [e] <;> decide
theorem gor9 {g v : Nat} (hg : g < 2 ^ 24) (hv : v < 24) : nI g ||| ((1 : Int32) <<< (nI v &&& 31)) = nI (g ||| 2 ^ v) ∧ g ||| 2 ^ v < 2 ^ 24 := by
  have h2 : 2 ^ v < 2 ^ 24 := Nat.pow_lt_pow_right (by omega) hv
  refine ⟨?_, Nat.or_lt_two_pow hg h2⟩
  rw [ow_shlb hv, ow_or (by omega) (by omega)]
theorem gn_z9 (k : Nat) : ¬ o_gn 0 k := by
  unfold o_gn
  rw [Nat.zero_div]
  decide
theorem uf_par : ∀ v : Fin 24, (nI v.val &&& 1) = 1 ↔ v.val % 2 = 1 := by decide +kernel
section XCB
variable {vl : Nat → Nat} {y : ow_MS}
theorem xc_addC {q z : Nat} {φ : Int} {xp : Int32} {n : Nat → Int} (hq : q < 100) (hz : z ≤ 12) (hn : cwC y n) : Te (fun K => ce_X8_addCircles vl K 24000 (nI q) (iI φ) xp (nI z) y) (fun y1 => cwC y1 (fun t => n t + φ * (if q = 1 ∧ t = z then 1 else 0))) := by
  let Q : ow_MS → Prop := fun y1 => cwC y1 (fun t => n t + φ * (if q = 1 ∧ t = z then 1 else 0))
  have c2 : ∀ (d j : Nat) (y1 : ow_MS), j + d = q → Q y1 → Tt (fun K t => c_X8_addCircles vl K t 2 (nI q) (iI φ) xp (nI z) (nI q - 1) (nI j) 0 24000 0 0 0 0 y1) Q := by
    intro d
    induction d with
    | zero =>
      intro j y1 hj hf
      have e : nI q - 1 < nI j := by
        rw [show j = q by omega]
        rcases Nat.eq_zero_or_pos q with h0 | h0
        · rw [h0]
          decide
        · rw [show nI q - 1 = nI (q - 1) from pk_sub (b := 1) h0]
          exact nI_lt (by omega) (by omega)
      refine u_X8_addCircles_2 ?_; unfold cm_X8_addCircles_2
      exact w_ifT e (w_some hf)
    | succ d ih =>
      intro j y1 hj hf
      have e5 : nI q - 1 = nI (q - 1) := pk_sub (b := 1) (by omega)
      have c4 : ∀ (x7 : Int32) (y2 : ow_MS), Q y2 → Tt (fun K t => c_X8_addCircles vl K t 4 (nI q) (iI φ) xp (nI z) (nI q - 1) (nI j) x7 24000 0 0 0 0 y2) Q := by
        intro x7 y2 hf2
        refine u_X8_addCircles_4 ?_; unfold cm_X8_addCircles_4
        rw [nI_1]
        exact ih (j + 1) y2 (by omega) hf2
      refine u_X8_addCircles_2 ?_; unfold cm_X8_addCircles_2
      rw [e5]
      rw [e5] at c4
      refine w_ltF (by omega) (by omega) (w_le (a := 24) (by omega) (by omega) (fun _ => w_some hf) (fun h24 => w_cs1 tc_twoIndex ?_))
      rintro v y2 ⟨h2, e2⟩
      dsimp only at h2 e2
      rw [e2]
      refine w_if (fun _ => c4 _ _ hf) (fun hv => ?_)
      rcases h2 with h2 | ⟨k, hk, rfl⟩
      · exact absurd h2 hv
      · have c3 : ∀ (t0 t1 t2 : Int32), Tt (fun K t => c_X8_addCircles vl K t 3 (nI q) (iI φ) xp (nI z) (nI (q - 1)) (nI j) (nI k) 24000 t0 t1 t2 (nI k) y1) Q := by
          intro t0 t1 t2
          refine u_X8_addCircles_3 ?_; unfold cm_X8_addCircles_3
          exact w_ctI ch_24004 rfl hk (c4 _ _ (cwC_fr (P := fun g => g = 24004) (fr_I rfl) (by decide) hf))
        exact w_crI ch_24004 rfl hk rfl (w_crX rfl (show q - 1 < 24 by omega) (w_crI (ch_choose (show q - 1 < 24 by omega)) rfl (show j < 24 by omega) rfl (w_if (fun _ => c3 _ _ _) (fun _ => c3 _ _ _))))
  have c1 : ∀ (y1 : ow_MS), Q y1 → Tt (fun K t => c_X8_addCircles vl K t 1 (nI q) (iI φ) xp (nI z) (nI q - 1) 0 0 24000 0 0 0 0 y1) Q := by
    intro y1 hf
    refine u_X8_addCircles_1 ?_; unfold cm_X8_addCircles_1
    exact c2 q 0 y1 (by omega) hf
  have n0 : q ≠ 1 → Q y := fun h t ht => by
    show y.2.1 24003 t = iI (n t + φ * (if q = 1 ∧ t = z then 1 else 0))
    rw [if_neg (fun h9 => h h9.1), Int.mul_zero, Int.add_zero]
    exact hn t ht
  refine e_X8_addCircles ?_
  refine u_X8_addCircles_0 ?_; unfold cm_X8_addCircles_0
  rw [show uw_len (cX vl) y (24000 + 3) = 13 from rfl]
  refine w_if (fun h0 => ?_) (fun h0 => c1 y (n0 (fun e => h0 (by rw [e]; rfl))))
  have hq1 : q = 1 := by
    rcases Nat.lt_trichotomy q 1 with h9 | h9 | h9
    · rw [show q = 0 by omega] at h0
      exact absurd h0 (by decide)
    · exact h9
    · rw [show nI q - 1 = nI (q - 1) from pk_sub (b := 1) (by omega)] at h0
      have := nI_inj9 (a := q - 1) (b := 0) (by omega) (by omega) h0
      omega
  refine w_leF (a := 13) (by omega) (by omega) (w_crI ch_24003 rfl (show z < 13 by omega) (hn z (by omega)) (w_ctI ch_24003 rfl (show z < 13 by omega) (c1 _ (fun t ht => ?_))))
  show (usI y (24000 + 3) z (iI (n z) + iI φ)).2.1 24003 t = iI (n t + φ * (if q = 1 ∧ t = z then 1 else 0))
  by_cases e : t = z
  · rw [e, if_pos ⟨hq1, rfl⟩, Int.mul_one, ← iI_add]
    exact po_usI_at
  · rw [if_neg (fun h => e h.2), Int.mul_zero, Int.add_zero]
    exact rd_ne e (hn t ht)
end XCB
/-- a net that shows a list whose first visit is its visit 0 -/
def uL (A : rn_L) (sg : Nat → Bool) (f : Nat → Nat) (R : ow_NT) : Prop := isoV A sg f R ∧ pm1 R ∧ (0 < A.flatten.length → 0 < rn_b A 1 ∧ lbv A f 0 = 0)
section XCC
variable {A : rn_L} {sg : Nat → Bool} {f : Nat → Nat} {R Q : ow_NT} {x a b v : Nat}
theorem uL_N (h : uL A sg f R) : isoN A sg f R := isoS_iff.mp h.1.1
theorem uL_0 (h : uL A sg f R) (hl : 0 < A.flatten.length) : f (crs A 0) = 0 ∧ uns A 0 = 0 := by
  have := (h.2.2 hl).2
  unfold lbv at this
  omega
theorem uL_sg (h : uL A sg f R) (hv : v < A.flatten.length) : R.2.2.2 (f (crs A v)) = iI (if sg (crs A v) then -1 else 1) := by
  have hN := uL_N h
  have h1 := hN.2.2.2.1 v hv
  have h2 := hN.2.2.2.2.2.2.1 v hv
  rcases h.2.1 _ h1 with e | e
  · rw [e] at h2 ⊢
    cases hs : sg (crs A v) with
    | false => rfl
    | true => exact absurd (h2.mpr hs) (by decide)
  · rw [e] at h2 ⊢
    rw [h2.mp (by decide)]
    rfl
theorem sm_b1 (hab : a < b) (hb : b < A.flatten.length) (ha : 0 < a) (h1 : 0 < rn_b A 1) : 0 < rn_b (smV A a b) 1 := by
  obtain ⟨c1, c2, c3⟩ := rn_c_in A a (by omega)
  have one : ∀ (Lx : List vT) (Y : rn_L), rn_b (Lx :: Y) 1 = Lx.length := fun Lx Y => by
    show ([Lx].flatten).length = Lx.length
    rw [List.flatten_cons, List.flatten_nil, List.append_nil]
  rcases Nat.eq_zero_or_pos (rn_c A a) with e | e
  · have hb0 : rn_b A 0 = 0 := rfl
    unfold smV smC
    rw [e, cps_0, hb0]
    by_cases hone : b < rn_b A (0 + 1)
    · rw [if_pos hone]
      show 0 < rn_b (((seg 0 a ++ seg (b + 1) (rn_b A (0 + 1))).map (vAt A)) :: _) 1
      rw [one, List.length_map, List.length_append, seg_len]
      omega
    · rw [if_neg hone]
      show 0 < rn_b ((((seg 0 a ++ seg (b + 1) (rn_b A (rn_c A b + 1))) ++ seg (rn_b A (rn_c A b)) b) ++ seg (a + 1) (rn_b A (0 + 1))).map (vAt A) :: _) 1
      rw [one, List.length_map, List.length_append, List.length_append, List.length_append, seg_len]
      omega
  · have hd0 : ∀ Y : rn_L, ((cps A 0 (rn_c A a)).map (List.map (vAt A)) ++ Y).head? = A.head? := fun Y => by
      rw [cps_cons (show 0 < rn_c A a by omega), List.map_cons, List.cons_append, List.head?_cons, cmp_seg (show 0 < A.length by omega)]
      cases A with
      | nil => exact absurd c1 (by rw [List.length_nil]; omega)
      | cons a A => rfl
    have hh : (smV A a b).head? = A.head? := by
      unfold smV smC
      split
      · rw [List.map_append, List.map_append, List.map_append, List.append_assoc, List.append_assoc]
        exact hd0 _
      · rw [List.map_append, List.map_append, List.map_append, List.append_assoc, List.append_assoc]
        exact hd0 _
    rw [b1_eq hh]
    exact h1
/-- the net that the class smooths -/
theorem uL_sm (h : uL A sg f R) (hs : sm2 A x a b) (h0 : crs A 0 ≠ x) : ∃ f', uL (smV A a b) sg f' (nt_rm (ntS (nt_copy Q R) (np_exchange (nt_copy Q R).2.2.1 (2 * f x) (2 * f x + 1))) (f x)) := by
  obtain ⟨s1, s2, s3, s4⟩ := hs
  have hN := uL_N h
  have hF := hN.1
  have hl : 0 < A.flatten.length := by omega
  obtain ⟨b1, b0⟩ := h.2.2 hl
  obtain ⟨f0, u0⟩ := uL_0 h hl
  have ha : 0 < a := by
    rcases Nat.eq_zero_or_pos a with e | e
    · rw [e] at s3
      exact absurd s3 h0
    · exact e
  have hx : f x < R.1 := by
    rw [← s3]
    exact hN.2.2.2.1 a (by omega)
  have hx0 : f x ≠ 0 := fun e => by
    have := hN.2.2.2.2.1 0 a hl (by omega) (by rw [s3, f0, e])
    exact h0 (this.trans s3)
  rw [← s3] at s4
  obtain ⟨f', k1, k2⟩ := iso_smb (isoV_cpy (Q := Q) h.1) s1 s2 s4
  rw [s3] at k1 k2
  refine ⟨f', k1, pm1_rm (T := ntS (nt_copy Q R) (np_exchange (nt_copy Q R).2.2.1 (2 * f x) (2 * f x + 1))) (pm1_copy h.2.1) hx, fun _ => ⟨sm_b1 s1 s2 ha b1, ?_⟩⟩
  have e1 : vAt (smV A a b) 0 = vAt A 0 := sm_pre hF s1 s2 ha
  unfold lbv
  rw [show crs (smV A a b) 0 = crs A 0 by unfold crs; rw [e1], show uns (smV A a b) 0 = uns A 0 by unfold uns; rw [e1], u0, k2, f0]
  have : ¬ (0 = (nt_copy Q R).1 - 1) := fun e => by
    have e : 0 = R.1 - 1 := e
    omega
  rw [if_neg this]
/-- the net that the class changes -/
theorem uL_ch (h : uL A sg f R) (hv : v < A.flatten.length) (e : crs A v = x) (h0 : crs A 0 ≠ x) : uL (chA A x) (chS sg x) f (ntF R (f x)) := by
  have hN := uL_N h
  have hx : f x < R.1 := by
    rw [← e]
    exact hN.2.2.2.1 v hv
  have inj : ∀ p, p ∈ A.flatten → (f p.1 = f x ↔ p.1 = x) := fun p hp => by
    obtain ⟨u, u1, u2⟩ := mem_vAt hp
    have ep : crs A u = p.1 := by unfold crs; rw [u2]
    refine ⟨fun e9 => ?_, fun e9 => by rw [e9]⟩
    rw [← ep, ← e]
    exact hN.2.2.2.2.1 u v u1 hv (by rw [ep, e, e9])
  have k := iso_flip h.1 h.2.1 hx
  have eA : A.map (List.map (flp (fun y => decide (f y = f x)))) = chA A x := by
    unfold chA
    refine List.map_congr_left (fun L hL => List.map_congr_left (fun p hp => ?_))
    have := inj p (List.mem_flatten.mpr ⟨L, hL, hp⟩)
    unfold flp
    show (if decide (f p.1 = f x) = true then (p.1, 1 - p.2) else p) = if decide (p.1 = x) = true then (p.1, 1 - p.2) else p
    rw [show decide (f p.1 = f x) = decide (p.1 = x) from decide_eq_decide.mpr this]
  rw [eA] at k
  refine ⟨isoV_sg k (fun p hp => ?_), pm1_F h.2.1, fun hl => ?_⟩
  · unfold chA at hp
    rw [fl_map2] at hp
    obtain ⟨q, hq, e9⟩ := List.mem_map.mp hp
    have ep : p.1 = q.1 := by rw [← e9, flp_1]
    have := inj q hq
    unfold chS
    rw [ep]
    by_cases e8 : q.1 = x
    · rw [if_pos e8, if_pos (this.mpr e8)]
    · rw [if_neg e8, if_neg (fun h9 => e8 (this.mp h9))]
  · rw [ch_len] at hl
    obtain ⟨b1, b0⟩ := h.2.2 hl
    refine ⟨by rw [b1_ch]; exact b1, ?_⟩
    unfold lbv
    rw [ch_crs hl, ch_uns hl, if_neg h0]
    exact b0
theorem sm2_bd (h : uL A sg f R) (hb : bdF A v) : sm2 A (crs A v) v (mtf A v) := by
  have hN := uL_N h
  obtain ⟨b1, b2, b3⟩ := bd_lt hN.1 hb
  have h2 := (hN.1.2 _ (vAt_mem hb.1)).2.1
  have hu : uns A v = 1 := by
    have h3 := hb.2.2.1
    unfold uns at h3 ⊢
    omega
  obtain ⟨m1, m2, m3, m4⟩ := lbv_mt hN hb.1
  have e1 : uns A (mtf A v) = 0 := by
    unfold lbv mt at m3
    rw [m2, hu, if_neg (by omega)] at m3
    omega
  refine ⟨b1, b2, rfl, Or.inr ⟨Prod.ext rfl hu, Prod.ext b3 e1⟩⟩
/-- along the first component -/
theorem uL_nx (h : uL A sg f R) (hv : v < rn_b A 1) : R.2.2.1.1 (lbv A f v) = if v + 1 < rn_b A 1 then lbv A f (v + 1) else 0 := by
  have hN := uL_N h
  have hle := rn_b_le A 1
  have hl : 0 < A.flatten.length := by omega
  have hc : rn_c A v = 0 := rn_c_of A 0 v (Nat.zero_le _) hv
  rw [hN.2.2.2.2.2.1 v (by omega)]
  unfold rn_nx
  rw [hc]
  show lbv A f (if v + 1 < rn_b A 1 then v + 1 else 0) = _
  by_cases e : v + 1 < rn_b A 1
  · rw [if_pos e, if_pos e]
  · rw [if_neg e, if_neg e]
    exact (h.2.2 hl).2
theorem cirs_1 (h2 : 2 ≤ A.length) (hl : A.flatten.length ≤ rn_b A 1) : 1 ≤ cirs A := by
  cases A with
  | nil => exact absurd h2 (by decide)
  | cons p A => cases A with
    | nil => exact absurd h2 (by rw [List.length_cons, List.length_nil]; omega)
    | cons q A =>
      have e : rn_b (p :: q :: A) 1 = p.length := by
        show ([p].flatten).length = p.length
        rw [List.flatten_cons, List.flatten_nil, List.append_nil]
      rw [e, List.flatten_cons, List.flatten_cons, List.length_append, List.length_append] at hl
      have hq : q = [] := List.eq_nil_of_length_eq_zero (by omega)
      rw [cirs_cons, cirs_cons, hq, if_pos rfl]
      omega
theorem cirs_0 (h1 : A.length = 1) (hb : 0 < rn_b A 1) : cirs A = 0 := by
  cases A with
  | nil => exact absurd h1 (by decide)
  | cons p A =>
    have hA : A = [] := List.eq_nil_of_length_eq_zero (by rw [List.length_cons] at h1; omega)
    subst hA
    have e : rn_b [p] 1 = p.length := by
      show ([p].flatten).length = p.length
      rw [List.flatten_cons, List.flatten_nil, List.append_nil]
    rw [e] at hb
    rw [cirs_cons, if_neg (List.length_pos_iff.mp hb)]
    rfl
theorem cirs_n (h : A.flatten = []) : cirs A = A.length := by
  induction A with
  | nil => rfl
  | cons p A ih =>
    rw [List.flatten_cons] at h
    obtain ⟨h1, h2⟩ := List.append_eq_nil_iff.mp h
    rw [cirs_cons, if_pos h1, ih h2, List.length_cons]
    omega
end XCC
end
