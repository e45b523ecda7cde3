/-! the class: Coder.encode -/
/-- the rows of the parts in order -/
def cdR (Cs : List cdT) (os : List Nat) : List (List Nat) := os.map (fun s => (Cs.getD s (0, [])).2)
/-- the code of a net -/
def enC (T : ow_NT) (Cs : List cdT) (os : List Nat) : cdT := (T.1, (cdR Cs os).flatten ++ List.replicate T.2.1 0)
theorem cdR_at {Cs : List cdT} {os : List Nat} {i : Nat} (hi : i < os.length) : (cdR Cs os)[i]? = some (atC Cs os i).2 := by
  unfold cdR atC
  rw [List.getElem?_map, List.getElem?_eq_getElem hi]
  show some _ = some (Cs.getD (os.getD i 0) (0, [])).2
  rw [List.getD_eq_getElem?_getD (l := os), List.getElem?_eq_getElem hi]
  rfl
theorem cdR_s {Cs : List cdT} {os : List Nat} {i : Nat} (hi : i < os.length) : ((cdR Cs os).take (i + 1)).flatten = ((cdR Cs os).take i).flatten ++ (atC Cs os i).2 := by
  rw [List.take_add_one, cdR_at hi, List.flatten_append]
  congr 1
  show [(atC Cs os i).2].flatten = _
  rw [List.flatten_cons, List.flatten_nil, List.append_nil]
theorem sm_range {f : Nat → Nat} : ∀ n, ((List.range n).map f).sum = smN f n
  | 0 => rfl
  | n + 1 => by
    rw [List.range_succ, List.map_append, List.sum_append_nat, sm_range n]
    show smN f n + (f n + 0) = smN f n + f n
    rfl
theorem cdR_len {T : ow_NT} {Cs : List cdT} {os : List Nat} (hT : nv T) (h : cpZ T (np_parts T.1 T.2.2.1.1).2 Cs os) : (cdR Cs os).flatten.length = 2 * T.1 + np_rg T.1 T.2.2.1 := by
  obtain ⟨r1, r2, r3, r4⟩ := h
  rw [List.length_flatten]
  unfold cdR
  rw [List.map_map]
  have e : os.map (List.length ∘ fun s => (Cs.getD s (0, [])).2) = os.map (ptL T.1 T.2.2.1) := by
    apply List.map_congr_left
    intro s hs
    have hs2 : s < Cs.length := by
      rw [r1]
      exact List.mem_range.mp ((r3.mem_iff).mp hs)
    have := (r2 s Cs[s] (List.getElem?_eq_getElem hs2)).2
    show (Cs.getD s (0, [])).2.length = _
    rw [List.getD_eq_getElem?_getD, List.getElem?_eq_getElem hs2]
    exact this
  rw [e, (r3.map _).sum_nat, sm_range]
  exact ptL_sum hT.1 hT.2.1
theorem take_len {L : List (List Nat)} {i : Nat} : ((L.take i).flatten).length ≤ L.flatten.length := by
  have h : L.flatten = (L.take i).flatten ++ (L.drop i).flatten := by
    rw [← List.flatten_append, List.take_append_drop]
  rw [h, List.length_append]
  omega
def enP (k h q : Nat) : Prop := cpP k (k + 3000) h q ∨ k + 1001 ≤ q ∧ q ≤ k + 1003
section CG
variable {vl : Nat → Nat} {y : ow_MS} {h k : Nat} {T : ow_NT}
theorem e_X2_encode {vl : Nat → Nat} {r0 : Nat} {r1 : Nat} {z : ow_MS} {Q : ow_MS → Prop} (H : Tt (fun K k => c_X2_encode vl K k 0 0 0 0 0 r0 r1 z) Q) : Te (fun K => ce_X2_encode vl K r0 r1 z) Q := w_te H
theorem u_X2_encode_0 {vl : Nat → Nat} {x2 : Int32} {x3 : Int32} {x4 : Int32} {x5 : Int32} {r0 : Nat} {r1 : Nat} {z : ow_MS} {Q : ow_MS → Prop} (H : Tt (fun K k => cm_X2_encode_0 vl K (c_X2_encode vl K k) x2 x3 x4 x5 r0 r1 z) Q) : Tt (fun K k => c_X2_encode vl K k 0 x2 x3 x4 x5 r0 r1 z) Q := w_un (fun _ _ => rfl) H
theorem u_X2_encode_4 {vl : Nat → Nat} {x2 : Int32} {x3 : Int32} {x4 : Int32} {x5 : Int32} {r0 : Nat} {r1 : Nat} {z : ow_MS} {Q : ow_MS → Prop} (H : Tt (fun K k => cm_X2_encode_4 vl K (c_X2_encode vl K k) x2 x3 x4 x5 r0 r1 z) Q) : Tt (fun K k => c_X2_encode vl K k 4 x2 x3 x4 x5 r0 r1 z) Q := w_un (fun _ _ => rfl) H
theorem u_X2_encode_3 {vl : Nat → Nat} {x2 : Int32} {x3 : Int32} {x4 : Int32} {x5 : Int32} {r0 : Nat} {r1 : Nat} {z : ow_MS} {Q : ow_MS → Prop} (H : Tt (fun K k => cm_X2_encode_3 vl K (c_X2_encode vl K k) x2 x3 x4 x5 r0 r1 z) Q) : Tt (fun K k => c_X2_encode vl K k 3 x2 x3 x4 x5 r0 r1 z) Q := w_un (fun _ _ => rfl) H
theorem u_X2_encode_1 {vl : Nat → Nat} {x2 : Int32} {x3 : Int32} {x4 : Int32} {x5 : Int32} {r0 : Nat} {r1 : Nat} {z : ow_MS} {Q : ow_MS → Prop} (H : Tt (fun K k => cm_X2_encode_1 vl K (c_X2_encode vl K k) x2 x3 x4 x5 r0 r1 z) Q) : Tt (fun K k => c_X2_encode vl K k 1 x2 x3 x4 x5 r0 r1 z) Q := w_un (fun _ _ => rfl) H
theorem u_X2_encode_2 {vl : Nat → Nat} {x2 : Int32} {x3 : Int32} {x4 : Int32} {x5 : Int32} {r0 : Nat} {r1 : Nat} {z : ow_MS} {Q : ow_MS → Prop} (H : Tt (fun K k => cm_X2_encode_2 vl K (c_X2_encode vl K k) x2 x3 x4 x5 r0 r1 z) Q) : Tt (fun K k => c_X2_encode vl K k 2 x2 x3 x4 x5 r0 r1 z) Q := w_un (fun _ _ => rfl) H
theorem tc_encode (hk : kH k) (hh : nH h) (hy : cAt y h T) (hT : nv T) (hb1 : byR y (k + 1001)) (hb2 : byR y (k + 2001)) (hb3 : byR y (k + 3001)) : Te (fun K => ce_X2_encode vl K k h y) (fun y1 => (∃ Cs os, cpZ T (np_parts T.1 T.2.2.1.1).2 Cs os ∧ slC y1 (k + 1000) 0 (enC T Cs os) ∧ cOK (enC T Cs os)) ∧ byR y1 (k + 1001) ∧ byR y1 (k + 2001) ∧ byR y1 (k + 3001) ∧ cAt y1 h T ∧ fr (enP k h) y y1) := by
  have hdj := kH_dj hk hh
  let Q : ow_MS → Prop := fun y1 => (∃ Cs os, cpZ T (np_parts T.1 T.2.2.1.1).2 Cs os ∧ slC y1 (k + 1000) 0 (enC T Cs os) ∧ cOK (enC T Cs os)) ∧ byR y1 (k + 1001) ∧ byR y1 (k + 2001) ∧ byR y1 (k + 3001) ∧ cAt y1 h T ∧ fr (enP k h) y y1
  refine e_X2_encode ?_
  refine u_X2_encode_0 ?_; unfold cm_X2_encode_0
  have hl30 : ∀ r, r < (np_parts T.1 T.2.2.1.1).2 → ptL T.1 T.2.2.1 r ≤ 30 := by
    intro r hr
    obtain ⟨v, hv, ev⟩ := (parts_I hT.1 hT.2.1).2.2.1 r hr
    have h1 := tf_len_pt T.2.2.2 hT.1 hT.2.1 hv ev
    have h2 := tf_len_le T.2.2.2 hT.1 hT.2.1 hv
    have h3 := hT.2.1
    have h4 := hT.2.2.2
    omega
  refine w_cs0 (tc_collectParts hk hh (kH_sort hk) (by omega) (by omega) hy hT.1 hT.2.1 hT.2.2.1 hl30 hb2 hb3) ?_
  rintro z1 ⟨⟨Cs, os, hR, hC⟩, g1, g2, g3, g4⟩
  have hlen := cdR_len hT hR
  obtain ⟨t1, t2, t3, t4⟩ := id hT
  have hol : os.length = (np_parts T.1 T.2.2.1.1).2 := by
    rw [← hC.2.1]
    exact hR.1
  have hpl := parts_le t1 t2
  have hok : cOK (enC T Cs os) := by
    refine ⟨t2, ?_, fun a ha => ?_⟩
    · show ((cdR Cs os).flatten ++ List.replicate T.2.1 0).length ≤ 30
      rw [List.length_append, List.length_replicate]
      omega
    · have ha' : a ∈ (cdR Cs os).flatten ++ List.replicate T.2.1 0 := ha
      rcases List.mem_append.mp ha' with h9 | h9
      · obtain ⟨l, hl, hal⟩ := List.mem_flatten.mp h9
        obtain ⟨s, hs, es⟩ := List.mem_map.mp hl
        have hs2 : s < Cs.length := by
          rw [hR.1]
          exact List.mem_range.mp ((hR.2.2.1.mem_iff).mp hs)
        rw [← es, List.getD_eq_getElem?_getD, List.getElem?_eq_getElem hs2] at hal
        exact (hC.2.2.1 s _ (List.getElem?_eq_getElem hs2)).2.2.2 a hal
      · rw [(List.mem_replicate.mp h9).2]
        omega
  -- the cells so far
  let S : ow_MS → List Nat → Prop := fun z L => (∀ j a, L[j]? = some a → z.2.1 (k + 1001) j = nI a) ∧ byR z (k + 1001) ∧ fr (fun q => q = k + 1001) z1 z
  have c4 : ∀ (z : ow_MS) (x3 : Int32), S z (enC T Cs os).2 → Tt (fun K t => c_X2_encode vl K t 4 (nI (enC T Cs os).2.length) x3 0 0 k h z) Q := by
    intro z x3 ⟨s1, s2, s3⟩
    have hz : cAt z h T := cAt_fr s3 (fun q hq hp => by unfold cP at hq; omega) g3
    refine u_X2_encode_4 ?_; unfold cm_X2_encode_4
    have hl30 : (enC T Cs os).2.length ≤ 30 := hok.2.1
    have hc12 : T.1 ≤ 12 := t2
    refine w_ctB (i := 0) (tH_2 (kH_out hk)) rfl (by omega) (w_rdF (x := nI T.1) hz.1 (w_ctB (i := 0) (tH_3 (kH_out hk)) rfl (by omega) (w_some ?_)))
    rw [show vp_nar .byte (nI (enC T Cs os).2.length).toInt8.toInt32 = nI (enC T Cs os).2.length from (i2b64 ⟨(enC T Cs os).2.length, by omega⟩).1, show vp_nar .byte (nI T.1).toInt8.toInt32 = nI T.1 from (i2b64 ⟨T.1, by omega⟩).1]
    have hfr : fr (fun q => k + 1001 ≤ q ∧ q ≤ k + 1003) z1 (usI (usI z (k + 1000 + 2) 0 (nI (enC T Cs os).2.length)) (k + 1000 + 3) 0 (nI T.1)) := fr_I2 (fr_I2 (fr_mono (fun q hq => by rw [hq]; omega) s3) (by omega)) (by omega)
    refine ⟨⟨Cs, os, hR, ⟨po_usI_at, rd_ot (by omega) po_usI_at, fun i a e => rd_ot (by omega) (rd_ot (by omega) ?_)⟩, hok⟩, fun j => ?_, fun j => ?_, fun j => ?_, cAt_fr hfr (fun q hq hp => by unfold cP at hq; omega) g3, fr_tr (fr_mono (fun q hq => Or.inl hq) g4) (fr_mono (fun q hq => Or.inr hq) hfr)⟩
    · rw [show 30 * 0 + i = i by omega]
      exact s1 i a e
    · rw [show (usI (usI z (k + 1000 + 2) 0 (nI (enC T Cs os).2.length)) (k + 1000 + 3) 0 (nI T.1)).2.1 (k + 1001) j = z.2.1 (k + 1001) j from rd_ot (by omega) (rd_ot (by omega) rfl)]
      exact s2 j
    · rw [(hfr (k + 2001) (by omega)).2.1]
      exact g1 j
    · rw [(hfr (k + 3001) (by omega)).2.1]
      exact g2 j
  have c3 : ∀ (d i : Nat) (z : ow_MS), i + d = T.2.1 → S z ((cdR Cs os).flatten ++ List.replicate i 0) → Tt (fun K t => c_X2_encode vl K t 3 (nI ((cdR Cs os).flatten ++ List.replicate i 0).length) (nI i) 0 0 k h z) Q := by
    intro d
    induction d with
    | zero =>
      intro i z hi hs
      have e : i = T.2.1 := by omega
      have hz : cAt z h T := cAt_fr hs.2.2 (fun q hq hp => by unfold cP at hq; omega) g3
      subst e
      refine u_X2_encode_3 ?_; unfold cm_X2_encode_3
      exact w_rdF hz.2.1 (w_leT (by omega) (by omega) (c4 z _ hs))
    | succ d ih =>
      intro i z hi hs
      have hz : cAt z h T := cAt_fr hs.2.2 (fun q hq hp => by unfold cP at hq; omega) g3
      have hl : ((cdR Cs os).flatten ++ List.replicate i 0).length = (cdR Cs os).flatten.length + i := by rw [List.length_append, List.length_replicate]
      have hl1 : ((cdR Cs os).flatten ++ List.replicate (i + 1) 0).length = (cdR Cs os).flatten.length + i + 1 := by
        rw [List.length_append, List.length_replicate]
        omega
      have hap : (cdR Cs os).flatten ++ List.replicate (i + 1) 0 = (cdR Cs os).flatten ++ List.replicate i 0 ++ [0] := by
        rw [List.replicate_succ', List.append_assoc]
      refine u_X2_encode_3 ?_; unfold cm_X2_encode_3
      rw [hl]
      refine w_rdF hz.2.1 (w_leF (by omega) (by omega) (w_leF (a := 30) (by omega) (by omega) (w_ctB (i := (cdR Cs os).flatten.length + i) (tH_1 (kH_out hk)) rfl (by omega) ?_)))
      rw [nI_1, nI_1, ← hl1]
      refine ih (i + 1) _ (by omega) ⟨fun j a e => ?_, fun j => ?_, fr_I2 hs.2.2 rfl⟩
      · rw [hap] at e
        by_cases e1 : j = (cdR Cs os).flatten.length + i
        · rw [List.getElem?_append_right (by omega), hl, show j - ((cdR Cs os).flatten.length + i) = 0 by omega] at e
          cases e
          rw [e1]
          exact po_usI_at.trans (nar64 (a := 0) (by omega))
        · have h9 := (List.getElem?_eq_some_iff.mp e).1
          rw [List.length_append, hl] at h9
          have h9' : j < (cdR Cs os).flatten.length + i + 1 := h9
          rw [List.getElem?_append_left (by omega)] at e
          exact rd_ne e1 (hs.1 j a e)
      · by_cases e1 : j = (cdR Cs os).flatten.length + i
        · rw [e1, show (usI z (k + 1000 + 1) ((cdR Cs os).flatten.length + i) (vp_nar .byte 0)).2.1 (k + 1001) ((cdR Cs os).flatten.length + i) = vp_nar .byte 0 from po_usI_at]
          decide
        · rw [show (usI z (k + 1000 + 1) ((cdR Cs os).flatten.length + i) (vp_nar .byte 0)).2.1 (k + 1001) j = z.2.1 (k + 1001) j from rd_ne e1 rfl]
          exact hs.2.1 j
  have c1 : ∀ (d i : Nat) (z : ow_MS), i + d = os.length → S z ((cdR Cs os).take i).flatten → Tt (fun K t => c_X2_encode vl K t 1 (nI ((cdR Cs os).take i).flatten.length) (nI i) 0 0 k h z) Q := by
    intro d
    induction d with
    | zero =>
      intro i z hi hs
      have h5 : z.1 (k + 3000 + 5) = nI os.length := by
        rw [(hs.2.2 (k + 3000 + 5) (by omega)).1]
        exact hC.1
      have ha : (cdR Cs os).take i = cdR Cs os := List.take_of_length_le (by unfold cdR; rw [List.length_map]; omega)
      rw [ha] at hs ⊢
      refine u_X2_encode_1 ?_; unfold cm_X2_encode_1
      refine w_rdF h5 (w_leT (by omega) (by omega) ?_)
      have := c3 T.2.1 0 z (by omega) (by rw [List.replicate_zero, List.append_nil]; exact hs)
      rw [List.replicate_zero, List.append_nil] at this
      exact this
    | succ d ih =>
      intro i z hi hs
      have h5 : z.1 (k + 3000 + 5) = nI os.length := by
        rw [(hs.2.2 (k + 3000 + 5) (by omega)).1]
        exact hC.1
      obtain ⟨s, u1, u2, u3, u4⟩ := tab_at hC (show i < os.length by omega)
      have hs12 : s < 12 := by
        have := hC.2.1
        omega
      have e4 : z.2.1 (k + 3000 + 4) i = nI s := by
        rw [(hs.2.2 (k + 3000 + 4) (by omega)).2.1]
        exact u2
      have e2 : z.2.1 (k + 3000 + 2) s = nI (atC Cs os i).2.length := by
        rw [(hs.2.2 (k + 3000 + 2) (by omega)).2.1]
        exact u3.2.1
      have e1 : ∀ j a, (atC Cs os i).2[j]? = some a → z.2.1 (k + 3000 + 1) (30 * s + j) = nI a := by
        rw [(hs.2.2 (k + 3000 + 1) (by omega)).2.1]
        exact u3.2.2
      have hst := cdR_s (Cs := Cs) (os := os) (show i < os.length by omega)
      have htl := take_len (L := cdR Cs os) (i := i + 1)
      have hl30 := u4.2.1
      rw [hst, List.length_append] at htl
      refine u_X2_encode_1 ?_; unfold cm_X2_encode_1
      refine w_rdF h5 (w_leF (by omega) (by omega) (w_crI (kH_sort hk |> tH_4) rfl (show i < 12 by omega) e4 (w_crI (tH_2 (kH_sort hk)) rfl hs12 e2 ?_)))
      rw [show nI ((cdR Cs os).take i).flatten.length + nI (atC Cs os i).2.length = nI (((cdR Cs os).take i).flatten.length + (atC Cs os i).2.length) from nI_add _ _, mul30]
      refine w_ltF (a := 30) (by omega) (by omega) ?_
      have cpb : ∀ {E : ow_MS → Nat → Nat → Option ow_MS} {Q : ow_MS → Prop}, Tt (E (usR z (k + 1000 + 1) (va_cpy (z.2.1 (k + 3000 + 1)) (z.2.1 (k + 1000 + 1)) (30 * s) ((cdR Cs os).take i).flatten.length (atC Cs os i).2.length))) Q → Tt (fun K t => cpB (cX vl) z (k + 3000 + 1) (nI (30 * s)) (k + 1000 + 1) (nI ((cdR Cs os).take i).flatten.length) (nI (atC Cs os i).2.length) (fun v => E v K t)) Q := by
        intro E Q H
        unfold cpB
        refine w_ifT (fun j hj => ?_) (w_cpI (a := 30 * s) (b := ((cdR Cs os).take i).flatten.length) (n := (atC Cs os i).2.length) (tH_1 (kH_sort hk)) (tH_1 (kH_out hk)) rfl rfl rfl (by omega) (by omega) H)
        rw [nI_clamp (by omega)] at hj
        rw [nI_clamp (by omega), e1 j _ (List.getElem?_eq_getElem hj)]
        exact fits64 ⟨_, u4.2.2 _ (List.getElem_mem hj)⟩
      refine cpb ?_
      refine u_X2_encode_2 ?_; unfold cm_X2_encode_2
      rw [nI_1, ← List.length_append, ← hst]
      refine ih (i + 1) _ (by omega) ⟨fun j a e => ?_, fun j => ?_, fr_R2 hs.2.2 rfl⟩
      · rw [show k + 1001 = k + 1000 + 1 from rfl, usR_at]
        unfold va_cpy
        have hj := (List.getElem?_eq_some_iff.mp e).1
        rw [hst] at e hj
        rw [List.length_append] at hj
        by_cases e9 : j < ((cdR Cs os).take i).flatten.length
        · rw [if_neg (by omega)]
          rw [List.getElem?_append_left e9] at e
          exact hs.1 j a e
        · rw [if_pos (by omega)]
          rw [List.getElem?_append_right (by omega)] at e
          exact e1 _ a e
      · rw [show k + 1001 = k + 1000 + 1 from rfl, usR_at]
        unfold va_cpy
        split
        · rename_i h9
          have hj : j - ((cdR Cs os).take i).flatten.length < (atC Cs os i).2.length := by omega
          rw [e1 _ _ (List.getElem?_eq_getElem hj)]
          exact fits64 ⟨_, u4.2.2 _ (List.getElem_mem hj)⟩
        · exact hs.2.1 j
  refine c1 os.length 0 z1 (by omega) ⟨fun j a e => ?_, fun j => ?_, fr_rf⟩
  · rw [show ((cdR Cs os).take 0).flatten = [] from rfl, List.getElem?_nil] at e
    cases e
  · rw [(g4 (k + 1001) (by unfold cpP epP cV cQ; omega)).2.1]
    exact hb1 j
end CG
