/-! the class: summands -/
theorem smN_ge {f : Nat → Nat} : ∀ n, (∀ r, r < n → 1 ≤ f r) → n ≤ smN f n
  | 0, _ => Nat.le_refl _
  | n + 1, h => by
    have := smN_ge n (fun r hr => h r (by omega))
    have := h n (by omega)
    show n + 1 ≤ smN f n + f n
    omega
theorem smN_one_ge {f : Nat → Nat} {r : Nat} : ∀ n, r < n → (∀ s, s < n → 1 ≤ f s) → f r + n ≤ smN f n + 1
  | 0, h, _ => absurd h (Nat.not_lt_zero _)
  | n + 1, hr, h => by
    show f r + (n + 1) ≤ smN f n + f n + 1
    by_cases e : r = n
    · have := smN_ge n (fun s hs => h s (by omega))
      rw [e]
      omega
    · have := smN_one_ge n (show r < n by omega) (fun s hs => h s (by omega))
      have := h n (by omega)
      omega
/-- rings of a part -/
def ptR (c : Nat) (S : ow_NP) (r : Nat) : Nat := cntB (fun v => decide ((np_parts c S.1).1 v = nI r) && lst S.1 v 24) (2 * c)
def ptV (c : Nat) (S : ow_NP) (r : Nat) : Nat := cntB (fun v => decide ((np_parts c S.1).1 v = nI r) && true) (2 * c)
theorem ptR_pos {c : Nat} {S : ow_NP} (hv : vn c S) (hc : c ≤ 12) {r : Nat} (hr : r < (np_parts c S.1).2) : 1 ≤ ptR c S r := by
  obtain ⟨i1, i2, i3, i4⟩ := parts_I hv hc
  obtain ⟨v, v1, v2⟩ := i3 r hr
  obtain ⟨m, hm1, hm2⟩ := ring_ex hv v1
  obtain ⟨w, w1, ⟨j, j1, j2⟩, w3⟩ := ring_least hv hc v1 hm2 hm1
  have hl : lst S.1 w 24 = true := (w3 w ⟨j, j1, j2⟩).mpr rfl
  have hw : (np_parts c S.1).1 w = nI r := by
    rw [j2, mark_it hv hc v1]
    exact v2
  have := cntB_rm (q := fun v => decide ((np_parts c S.1).1 v = nI r) && lst S.1 v 24) w1 (by rw [decide_eq_true hw, hl]; rfl)
  unfold ptR
  omega
theorem ptR_sum {c : Nat} {S : ow_NP} (hv : vn c S) (hc : c ≤ 12) : smN (ptR c S) (np_parts c S.1).2 = np_rg c S := by
  obtain ⟨i1, i2, i3, i4⟩ := parts_I hv hc
  exact cnt_parts (F := (np_parts c S.1).1) (q := fun v => lst S.1 v 24) (P := (np_parts c S.1).2) (by omega) (2 * c) i2
/-- few rings for many parts -/
def fwR (c : Nat) (S : ow_NP) : Prop := np_rg c S ≤ 5 + (np_parts c S.1).2
theorem fwR_pt {c : Nat} {S : ow_NP} (hv : vn c S) (hc : c ≤ 12) (h : fwR c S) {r : Nat} (hr : r < (np_parts c S.1).2) : ptR c S r ≤ 6 ∧ ptL c S r ≤ 30 := by
  have h1 := smN_one_ge (f := ptR c S) _ hr (fun s hs => ptR_pos hv hc hs)
  rw [ptR_sum hv hc] at h1
  unfold fwR at h
  have h2 : ptR c S r ≤ 6 := by omega
  refine ⟨h2, ?_⟩
  have h3 := cntB_le (fun v => decide ((np_parts c S.1).1 v = nI r) && true) (2 * c)
  have h4 : ptL c S r = ptV c S r + ptR c S r := rfl
  unfold ptV at h4
  omega
theorem po_w_P {P : Nat → Bool} : ∀ (d w : Nat) {r : Nat}, po_w P d w = some r → P r = true
  | 0, _, _, h => by cases h
  | d + 1, w, r, h => by
    have h : (if P w then some w else po_w P d (w + 1)) = some r := h
    by_cases e : P w = true
    · rw [if_pos e] at h
      cases h
      exact e
    · rw [if_neg e] at h
      exact po_w_P d (w + 1) h
theorem po_v_P {P : Nat → Nat → Bool} {n : Nat} : ∀ (d v : Nat) {q : Nat × Nat}, po_v P n d v = some q → P q.1 q.2 = true
  | 0, _, _, h => by cases h
  | d + 1, v, q, h => by
    have h : po_in P n d v (po_v P n d) (po_w (P v) (n - (v + 1)) (v + 1)) = some q := h
    cases e : po_w (P v) (n - (v + 1)) (v + 1) with
    | none =>
      rw [e] at h
      exact po_v_P d (v + 1) h
    | some w =>
      rw [e] at h
      have h : some (v, w) = some q := h
      cases h
      exact po_w_P _ _ e
theorem once_fw {c : Nat} {S : ow_NP} (hv : vn c S) (hc : c ≤ 12) (h : fwR c S) : fwR c (np_onceS S (np_once c S)) := by
  cases e : np_once c S with
  | none => exact h
  | some q =>
    have h1 := po_v_in (2 * c) 0 (by omega) e
    have h2 := of_decide_eq_true (po_v_P _ _ e)
    have h3 := np_rg_exchange hv hc h1.1 h1.2
    unfold fwR at h ⊢
    show np_rg c (np_exchange S q.1 q.2) ≤ 5 + (np_parts c (np_exchange S q.1 q.2).1).2
    have := h2.2
    omega
theorem all_ok {c : Nat} (hc : c ≤ 12) : ∀ (d : Nat) (S : ow_NP), vn c S → ow_b24 S → fwR c S → vn c (np_all c d S) ∧ ow_b24 (np_all c d S) ∧ fwR c (np_all c d S)
  | 0, S => fun h1 h2 h3 => ⟨h1, h2, h3⟩
  | d + 1, S => fun h1 h2 h3 => by
    rw [np_all]
    split
    · exact all_ok hc d _ (once_vn h1) (once_b24 hc h2) (once_fw h1 hc h3)
    · exact ⟨h1, h2, h3⟩
/-- a part's own list is one that codes are written from -/
theorem gp_okC {B : rn_L} {sgB : Nat → Bool} {c : Nat} (h : gp B c) (hc : c ≤ 12) (h6 : B.length ≤ 6) : okC (c, tk sgB B) := by
  have e0 : shN 0 B = B := by
    unfold shN
    have : ∀ L : List (Nat × Nat), L.map (fun p => (p.1 + 0, p.2)) = L := fun L => List.map_id L
    rw [show (fun L : List (Nat × Nat) => L.map (fun p => (p.1 + 0, p.2))) = fun L => L from funext this, List.map_id']
  have hl := okF_len h.1
  obtain ⟨u1, u2⟩ := ucd_part (sg := sgB) (sgB := sgB) (R := []) clD_nil h (fun x _ => rfl) B.length 0 (by omega) (List.length_pos_iff.mpr h.2.2.2.1)
  rw [show B.take 0 = [] from rfl, show shN 0 [] = [] from rfl, List.append_nil, List.drop_zero, e0, List.append_nil] at u1 u2
  have hu : ucd sgB 0 [] B = tk sgB B := by
    rw [u1]
    show tk sgB B ++ [] = _
    rw [List.append_nil]
  refine ⟨B, sgB, c, ⟨h.1, h.2.1, u2 trivial, hc, h6⟩, ?_⟩
  unfold clC
  rw [hu, hl, show 2 * c / 2 = c by omega]
theorem part_okC {T : ow_NT} {r : Nat} {C : cdT} (hv : vn T.1 T.2.2.1) (hc : T.1 ≤ 12) (hci : T.2.1 ≤ 6) (hf : fwR T.1 T.2.2.1) (hr : r < (np_parts T.1 T.2.2.1.1).2) (hC : epC T (np_parts T.1 T.2.2.1.1).1 (nI r) C) (hl : C.2.length = ptL T.1 T.2.2.1 r) : okC C := by
  obtain ⟨rl, hrl⟩ := rlK_ex hv
  obtain ⟨hi, hn⟩ := netL_iso hrl hv hc
  obtain ⟨m, P, hk⟩ := mk_ex (netL rl T)
  have hpl := parts_le hv hc
  have hf2 := hf
  unfold fwR at hf2
  obtain ⟨i1, i2, i3, i4⟩ := parts_I hv hc
  obtain ⟨k, k1, k2⟩ := i3 r hr
  obtain ⟨v, v1, v2⟩ := lbv_sur hi k1
  obtain ⟨q1, q2, B, sgB, q3, q4⟩ := part_key hi (by omega) hv hk v1 (by rw [v2]; exact k2) hC
  have hcnt := pvl_cnt hi hv hk v1 (r := r) (by rw [v2]; exact k2)
  have hcv : ptV T.1 T.2.2.1 r = cntV (np_parts T.1 T.2.2.1.1).1 (nI r) (2 * T.1) := by
    unfold ptV
    rw [cntB_fl, cntV_f]
    congr 1
    apply List.filter_congr
    intro x _
    rw [Bool.and_true]
  have hBl := okF_len q3.1
  have hrow : C.2.length = B.flatten.length + B.length := by rw [q4, tk_ln]
  have hpt : ptL T.1 T.2.2.1 r = ptV T.1 T.2.2.1 r + ptR T.1 T.2.2.1 r := rfl
  have h6 := (fwR_pt hv hc hf hr).1
  have hC1 : C.1 ≤ 12 := by
    have := cntV_le (np_parts T.1 T.2.2.1.1).1 (nI r) (2 * T.1)
    omega
  have := gp_okC (sgB := sgB) q3 hC1 (by omega)
  rw [← q4] at this
  exact this
section CY
variable {vl : Nat → Nat} {y : ow_MS} {x : Int32}
def sumP (g : Nat) : Prop := 3001 ≤ g ∧ g ≤ 3005 ∨ 4001 ≤ g ∧ g ≤ 4011 ∨ 7004 ≤ g ∧ g ≤ 9003
theorem e_X11_summands {vl : Nat → Nat} {r0 : Nat} {x1 : Int32} {z : ow_MS} {Q : (Nat × Int32 × ow_MS) → Prop} (H : Tt (fun K _ => cm_X11_summands_0 vl K x1 r0 z) Q) : Te (fun K => ce_X11_summands vl K r0 x1 z) Q := w_te0 H
theorem tc_summands (hN : gM y) : Te (fun K => ce_X11_summands vl K 0 x y) (fun r => gM r.2.2 ∧ fr sumP y r.2.2) := by
  refine e_X11_summands ?_; unfold cm_X11_summands_0
  refine w_tc0 (tc_need hN.1.1) ?_ ?_
  · rintro y1 ⟨h1, rfl⟩
    rcases h1 with ⟨-, d, A, sg, c, hd, rfl, hs, hA, hne⟩ | h1
    · refine w_cs0 (tc_ld nH4 hN.1 hd hs hA) ?_
      rintro y3 ⟨hN3, f3, T, hT, hT1, hT2⟩
      have hv := hT.2.2.1
      have f3s : fr sumP y1 y3 := fr_mono (fun g hg => by unfold cL at hg; unfold sumP; omega) f3
      have hb3 : tbs y3 := tbs_fr f3 (fun g hg => by unfold cL at hg; omega) hN.2
      refine w_cs0 (tc_partAll nH4 hT.1 hv.2.2.1 hv.1 hv.2.1) ?_
      rintro y4 ⟨g1, g2⟩
      have hfw : fwR T.1 T.2.2.1 := by
        have h6 := hv.2.2.2
        unfold fwR
        rcases Nat.eq_zero_or_pos T.1 with e | e
        · have : np_rg T.1 T.2.2.1 = 0 := by
            rw [e]
            rfl
          omega
        · have hp : 0 < (np_parts T.1 T.2.2.1.1).2 := by
            obtain ⟨r, r1, -⟩ := (parts_I hv.1 hv.2.1).2.1 0 (by omega)
            omega
          omega
      obtain ⟨n1, n2, n3⟩ := all_ok hv.2.1 12 T.2.2.1 hv.1 hv.2.2.1 hfw
      have hci : T.2.1 ≤ 6 := by have := hv.2.2.2; omega
      have hN4 : gN y4 := gN_net nH4 g2 (fun g hg => by unfold cO cP cR cQ at hg; omega) ⟨_, g1, n2⟩ hN3
      have f4s : fr sumP y1 y4 := fr_tr f3s (fr_mono (fun g hg => by unfold cO cP cR cQ at hg; unfold sumP; omega) g2)
      have hb4 : tbs y4 := tbs_fr g2 (fun g hg => by unfold cO cP cR cQ at hg; omega) hb3
      have hk7 := hN4.2.2 7000 (Or.inl rfl)
      obtain ⟨C3, o3, t3⟩ := hb4.2.1
      refine w_cs0 (tc_collectParts (Or.inl rfl) nH4 tH3 (by omega) (by omega) g1 n1 hv.2.1 n2 (fun r hr => (fwR_pt n1 hv.2.1 n3 hr).2) hk7.2.1 t3.2.2.2.2) ?_
      rintro y5 ⟨⟨Cs, os, z1, z2⟩, b1, b2, hy5, f5⟩
      have u5 : ∀ q, cpP 7000 3000 4000 q → 3001 ≤ q ∧ q ≤ 3005 ∨ 4001 ≤ q ∧ q ≤ 4011 ∨ 7004 ≤ q ∧ q ≤ 7006 ∨ 9001 ≤ q ∧ q ≤ 9003 := fun q hq => by unfold cpP epP cV cQ at hq; omega
      have hl : os.length ≤ 12 := by
        have h9 := parts_le n1 hv.2.1
        have h8 : Cs.length = os.length := z2.2.1
        have h7 : Cs.length = (np_parts T.1 (np_all T.1 12 T.2.2.1).1).2 := z1.1
        have h6 : (np_parts T.1 (np_all T.1 12 T.2.2.1).1).2 ≤ T.1 := h9
        have := hv.2.1
        omega
      have ht5 : tbO y5 3000 12 Cs os := by
        refine ⟨z2, z1.2.2.2, fun C hC => ?_, hl, b2⟩
        obtain ⟨r, hr⟩ := List.getElem?_of_mem hC
        have hr2 := (List.getElem?_eq_some_iff.mp hr).1
        obtain ⟨e1, e2⟩ := z1.2.1 r C hr
        exact part_okC (T := ntS T (np_all T.1 12 T.2.2.1)) n1 hv.2.1 hci n3 (by rw [← z1.1]; exact hr2) e1 e2
      have hN5 : gN y5 := by
        refine ⟨dgC_fr f5 (fun g q1 q2 h9 => by have := u5 g h9; omega) hN4.1, nsC_put nH4 f5 (fun h' hh' hne g hg h9 => ?_) ⟨_, hy5, n2⟩ hN4.2.1, fun k hk => ?_⟩
        · have h7 := u5 g h9
          have key : ∀ a, a ∈ nHL → a = 4000 ∨ a = 5000 ∨ 16000 ≤ a := by decide
          have := key h' hh'
          unfold cP at hg
          omega
        · rcases hk with rfl | rfl
          · exact ⟨byR_fr f5 (fun h9 => by have := u5 _ h9; omega) hk7.1, b1, byR_fr f5 (fun h9 => by have := u5 _ h9; omega) hk7.2.2⟩
          · have hb9 := hN4.2.2 20000 (Or.inr rfl)
            exact ⟨byR_fr f5 (fun h9 => by have := u5 _ h9; omega) hb9.1, byR_fr f5 (fun h9 => by have := u5 _ h9; omega) hb9.2.1, byR_fr f5 (fun h9 => by have := u5 _ h9; omega) hb9.2.2⟩
      obtain ⟨C2, o2, t2⟩ := hb4.1
      refine w_rdF rfl (w_some ⟨⟨hN5, ⟨C2, o2, tbO_fr f5 (fun q hq h9 => by have := u5 q h9; unfold cV at hq; omega) t2⟩, ⟨Cs, os, ht5⟩, byR_fr f5 (fun h9 => by have := u5 _ h9; omega) hb4.2.2.1, byR_fr f5 (fun h9 => by have := u5 _ h9; omega) hb4.2.2.2.1, byR_fr f5 (fun h9 => by have := u5 _ h9; omega) hb4.2.2.2.2⟩, fr_tr f4s (fr_mono (fun g hg => by have := u5 g hg; unfold sumP; omega) f5)⟩)
    · exact absurd (show (0 : Nat) = 1 from h1.1) (by decide)
  · rintro a y1 ha ⟨h1, rfl⟩
    exact w_some ⟨hN, fr_rf⟩
/-- drop, exactly -/
theorem tc_drop2 (hN : gM y) : Te (fun K => ce_X11_drop vl K 0 x y) (fun r => gM r.2 ∧ (r.1 = 1 ∧ (∃ d A sg c, d < 40 ∧ x = nI d ∧ slC y 1000 d (clC sg A) ∧ okL A c ∧ A ≠ [] ∧ r.2 = usI y 1002 d 0) ∨ r.1 = 0 ∧ noD y x ∧ r.2 = y)) := by
  refine e_X11_drop ?_; unfold cm_X11_drop_0
  refine w_cs1 (tc_hasDiagram (dgC_E hN.1.1)) ?_
  rintro v y1 ⟨hv, e2⟩
  dsimp only at hv e2
  subst e2
  rcases hv with ⟨rfl, h1⟩ | ⟨rfl, h1⟩
  · obtain ⟨d, A, sg, c, hd, rfl, hs, hA, hne⟩ := isD_O hN.1.1 h1
    refine w_ifF (by decide) (w_ctB (tH_2 ch_1000) rfl hd (w_okZ (Or.inr rfl) (w_some ⟨?_, Or.inl ⟨rfl, d, A, sg, c, hd, rfl, hs, hA, hne, rfl⟩⟩)))
    have h3 : fr (fun q => q = 1002) y1 (usI y1 (0 + 1000 + 2) d (vp_nar .byte 0)) := fr_I rfl
    refine ⟨⟨⟨byR_fr h3 (by omega) hN.1.1.1, fun e he => ?_⟩, nsC_fr h3 (fun h hh q hq h9 => far_cP (g := q) (by omega) h hh hq) hN.1.2.1, kdC_fr h3 (fun g h9 => by omega) hN.1.2.2⟩, tbs_fr h3 (fun g h9 => by omega) hN.2⟩
    by_cases ed : e = d
    · rw [ed]
      refine Or.inl ⟨c, hA.2.2.2.1, ?_, po_usI_at.trans (show vp_nar .byte 0 = (0 : Int32) from by decide), fun i a e => by rw [List.getElem?_nil] at e; cases e⟩
      have := hs.1
      rw [(okL_c (sg := sg) hA).1] at this
      exact rd_ot (by omega) this
    · have keep : ∀ C, slC y1 1000 e C → slC (usI y1 (0 + 1000 + 2) d (vp_nar .byte 0)) 1000 e C := fun C hC => ⟨rd_ot (by omega) hC.1, rd_ne ed hC.2.1, fun i a hi => rd_ot (by omega) (hC.2.2 i a hi)⟩
      rcases hN.1.1.2 e he with ⟨c9, c1, c2⟩ | ⟨C, c1, c2, c3⟩
      · exact Or.inl ⟨c9, c1, keep _ c2⟩
      · exact Or.inr ⟨C, keep C c1, c2, c3⟩
  · exact w_ifT rfl (w_okZ (Or.inl rfl) (w_some ⟨hN, Or.inr ⟨rfl, h1, rfl⟩⟩))
end CY
