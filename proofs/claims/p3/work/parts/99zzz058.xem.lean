section
/-! 99zzzzzzzzzzzzu.xem -/
/-! a list that a part of a net shows (tools/mkem.py: the proofs of ciso, without onto) -/
def emN (A : rn_L) (sg : Nat → Bool) (f : Nat → Nat) (T : ow_NT) : Prop := wkF A.flatten ∧ A.flatten.length ≤ 2 * T.1 ∧ T.1 ≤ 12 ∧ (∀ v, v < A.flatten.length → f (crs A v) < T.1) ∧ (∀ v w, v < A.flatten.length → w < A.flatten.length → f (crs A v) = f (crs A w) → crs A v = crs A w) ∧ (∀ v, v < A.flatten.length → T.2.2.1.1 (lbv A f v) = lbv A f (rn_nx A v)) ∧ (∀ v, v < A.flatten.length → (T.2.2.2 (f (crs A v)) < 0 ↔ sg (crs A v) = true)) ∧ True
section XEM
variable {A : rn_L} {sg : Nat → Bool} {f : Nat → Nat} {T : ow_NT}
theorem em_lt {v : Nat} (h : emN A sg f T) (hv : v < A.flatten.length) : lbv A f v < 2 * T.1 := by
  have := uns_lt h.1 hv
  have := h.2.2.2.1 v hv
  unfold lbv
  omega
theorem em_hf {v : Nat} (h : emN A sg f T) (hv : v < A.flatten.length) : lbv A f v / 2 = f (crs A v) ∧ lbv A f v % 2 = uns A v := by
  have := uns_lt h.1 hv
  unfold lbv
  omega
theorem em_inj {v w : Nat} (h : emN A sg f T) (hv : v < A.flatten.length) (hw : w < A.flatten.length) (e : lbv A f v = lbv A f w) : v = w := by
  have h1 := em_hf h hv
  have h2 := em_hf h hw
  have h3 : f (crs A v) = f (crs A w) := by omega
  have h4 := h.2.2.2.2.1 v w hv hw h3
  have h5 : uns A v = uns A w := by omega
  have h6 : vAt A v = vAt A w := Prod.ext h4 h5
  refine nodup_at h.1.1 (vAt_of hv) ?_
  rw [h6]
  exact vAt_of hw
theorem em_mt {v : Nat} (h : emN A sg f T) (hv : v < A.flatten.length) : mtf A v < A.flatten.length ∧ crs A (mtf A v) = crs A v ∧ lbv A f (mtf A v) = mt (lbv A f v) ∧ mtf A v ≠ v := by
  have hm := mtf_mt (wkF_ok h.1) hv
  have hl := (rn_mt_lt hm).2
  obtain ⟨hne, p, q, e1, e2, e3⟩ := hm
  have c1 : crs A (mtf A v) = crs A v := by
    unfold crs
    rw [vAt_eq e1, vAt_eq e2]
    exact e3.symm
  have u1 := uns_lt h.1 hv
  have u2 := uns_lt h.1 hl
  have hu : uns A (mtf A v) ≠ uns A v := by
    intro e
    have h6 : vAt A (mtf A v) = vAt A v := Prod.ext c1 e
    refine hne (nodup_at h.1.1 (vAt_of hv) ?_)
    rw [← h6]
    exact vAt_of hl
  refine ⟨hl, c1, ?_, fun e => hne e.symm⟩
  have h1 := em_hf h hv
  unfold lbv
  rw [c1]
  unfold mt
  split <;> omega
theorem emtJ_vis {vs cells : List Nat} {P : tf_P} {v : Nat} (hi : emN A sg f T) (h : tJ A f vs cells P) (hv : v < A.flatten.length) : tJ A f (vs ++ [v]) (cells ++ [tkn A sg (vs ++ [v]) v]) (tf_vis T.2.2.2 P (lbv A f v)) := by
  have hl := em_hf hi hv
  obtain ⟨a1, a2, a3, a4, a5, a6⟩ := id h
  have hgone : ∀ w, w < A.flatten.length → (o_gn (tf_vis T.2.2.2 P (lbv A f v)).gone (lbv A f w) ↔ w ∈ vs ++ [v]) := by
    intro w hw
    show o_gn (P.gone ||| 2 ^ lbv A f v) (lbv A f w) ↔ _
    rw [gn_or, a4 w hw, List.mem_append, List.mem_singleton]
    exact or_congr Iff.rfl ⟨fun e => em_inj hi hw hv e, fun e => by rw [e]⟩
  have hmem : ∀ w, w ∈ vs ++ [v] → w < A.flatten.length := by
    intro w hw
    rcases List.mem_append.mp hw with h9 | h9
    · exact a6 w h9
    · rw [List.mem_singleton.mp h9]
      exact hv
  have part : (tf_vis T.2.2.2 P (lbv A f v)).names = (fm A (vs ++ [v])).length ∧ (∀ k w, (fm A (vs ++ [v]))[k]? = some w → (tf_vis T.2.2.2 P (lbv A f v)).nam k = f (crs A w) ∧ (tf_vis T.2.2.2 P (lbv A f v)).num (f (crs A w)) = k + 1) ∧ (∀ w, w < A.flatten.length → crs A w ∉ (vs ++ [v]).map (crs A) → (tf_vis T.2.2.2 P (lbv A f v)).num (f (crs A w)) = 0) := by
    have e1 : (tf_vis T.2.2.2 P (lbv A f v)).num = (tf_name P (f (crs A v))).num := by
      rw [← hl.1]
      rfl
    have e2 : (tf_vis T.2.2.2 P (lbv A f v)).nam = (tf_name P (f (crs A v))).nam := by
      rw [← hl.1]
      rfl
    have e3 : (tf_vis T.2.2.2 P (lbv A f v)).names = (tf_name P (f (crs A v))).names := by
      rw [← hl.1]
      rfl
    rw [e1, e2, e3, fm_app]
    by_cases hc : crs A v ∈ (fm A vs).map (crs A)
    · have hc2 := (fm_cr vs).mp hc
      have hn : ¬ P.num (f (crs A v)) = 0 := by
        obtain ⟨w, q1, q2⟩ := num_at hc2
        have := (a2 _ w q1).2
        rw [q2] at this
        omega
      have e4 : tf_name P (f (crs A v)) = P := by
        unfold tf_name
        rw [if_neg hn]
      rw [e4, show fmA A (fm A vs) v = fm A vs from if_pos hc]
      refine ⟨a1, a2, fun w hw hx => a3 w hw (fun h9 => hx ?_)⟩
      rw [List.map_append]
      exact List.mem_append_left _ h9
    · have hc2 : crs A v ∉ vs.map (crs A) := fun h9 => hc ((fm_cr vs).mpr h9)
      have e4 : tf_name P (f (crs A v)) = ⟨nu P.num (f (crs A v)) (P.names + 1), nu P.nam P.names (f (crs A v)), P.names + 1, P.gone, P.T, P.len⟩ := by
        unfold tf_name
        rw [if_pos (a3 v hv hc2)]
      rw [e4, show fmA A (fm A vs) v = fm A vs ++ [v] from if_neg hc]
      refine ⟨?_, fun k w e => ?_, fun w hw hx => ?_⟩
      · show P.names + 1 = _
        rw [List.length_append, a1]
        rfl
      · show nu P.nam P.names (f (crs A v)) k = f (crs A w) ∧ nu P.num (f (crs A v)) (P.names + 1) (f (crs A w)) = k + 1
        by_cases hk : k < (fm A vs).length
        · rw [List.getElem?_append_left hk] at e
          have h9 := a2 k w e
          have hwm : w ∈ vs := fm_mem vs (List.mem_of_getElem? e)
          rw [nu_ne _ _ (by omega), nu_ne]
          · exact h9
          · intro e9
            have := hi.2.2.2.2.1 w v (a6 w hwm) hv e9
            exact hc2 (by rw [← this]; exact List.mem_map.mpr ⟨w, hwm, rfl⟩)
        · have h9 := (List.getElem?_eq_some_iff.mp e).1
          rw [List.length_append] at h9
          have h9' : k < (fm A vs).length + 1 := h9
          have ek : k = (fm A vs).length := by omega
          rw [ek, List.getElem?_append_right (Nat.le_refl _), Nat.sub_self] at e
          cases e
          rw [ek, ← a1, nu_same, nu_same]
          exact ⟨rfl, rfl⟩
      · show nu P.num (f (crs A v)) (P.names + 1) (f (crs A w)) = 0
        rw [List.map_append] at hx
        rw [nu_ne]
        · exact a3 w hw (fun h9 => hx (List.mem_append_left _ h9))
        · intro e9
          have := hi.2.2.2.2.1 w v hw hv e9
          exact hx (List.mem_append_right _ (by rw [this]; exact List.mem_singleton.mpr rfl))
  have hj0 : tJ A f (vs ++ [v]) (tfL (tf_vis T.2.2.2 P (lbv A f v))) (tf_vis T.2.2.2 P (lbv A f v)) := ⟨part.1, part.2.1, part.2.2, hgone, rfl, hmem⟩
  refine ⟨part.1, part.2.1, part.2.2, hgone, ?_, hmem⟩
  rw [tfL_vis, a5]
  congr 2
  have hnm := tJ_num (v := v) hj0 (by rw [List.map_append]; exact List.mem_append_right _ (List.mem_singleton.mpr rfl))
  have e1 : (tf_vis T.2.2.2 P (lbv A f v)).num = (tf_name P (f (crs A v))).num := by
    rw [← hl.1]
    rfl
  rw [e1] at hnm
  unfold tf_cell cd_first tkn
  rw [hl.1, hl.2, hnm]
  have h1 : 1 ≤ num A (vs ++ [v]) (crs A v) := by
    unfold num
    omega
  have h7 := hi.2.2.2.2.2.2.1 v hv
  by_cases h8 : sg (crs A v) = true
  · rw [if_pos (h7.mpr h8), if_pos h8]
    omega
  · rw [if_neg (fun h9 => h8 (h7.mp h9)), if_neg h8]
    omega
theorem emtJ_ring {vs cells : List Nat} {s : Nat} (hi : emN A sg f T) (hs : s < A.flatten.length) : ∀ (d j : Nat) (P : tf_P), j + d = rlen A (rn_c A s) → 0 < d → ∀ e, d ≤ e → tJ A f (vs ++ rgj A s j) (cells ++ (rgj A s j).map (tkn A sg (vs ++ rgj A s j))) P → tJ A f (vs ++ rgl A s) (cells ++ (rgl A s).map (tkn A sg (vs ++ rgl A s))) (tf_ring T.2.2.2 T.2.2.1.1 (lbv A f s) e (lbv A f (rv A s j)) P) := by
  intro d
  induction d with
  | zero => exact fun _ _ _ h => absurd h (Nat.lt_irrefl _)
  | succ d ih =>
    intro j P hj _ e he h
    obtain ⟨e1, rfl⟩ : ∃ e1, e = e1 + 1 := ⟨e - 1, by omega⟩
    have hjl : j < rlen A (rn_c A s) := by omega
    have hv := rv_lt hs hjl
    have hst := emtJ_vis hi h hv
    have hN := hi.2.2.2.2.2.1 _ hv
    have hnx := rv_nx hs hjl
    have hcells : tJ A f (vs ++ rgj A s (j + 1)) (cells ++ (rgj A s (j + 1)).map (tkn A sg (vs ++ rgj A s (j + 1)))) (tf_vis T.2.2.2 P (lbv A f (rv A s j))) := by
      have e2 : vs ++ rgj A s (j + 1) = vs ++ rgj A s j ++ [rv A s j] := by rw [rgj_s, List.append_assoc]
      rw [e2]
      have e3 : cells ++ (rgj A s (j + 1)).map (tkn A sg (vs ++ rgj A s j ++ [rv A s j])) = cells ++ (rgj A s j).map (tkn A sg (vs ++ rgj A s j)) ++ [tkn A sg (vs ++ rgj A s j ++ [rv A s j]) (rv A s j)] := by
        have e9 : (rgj A s j).map (tkn A sg (vs ++ rgj A s j ++ [rv A s j])) = (rgj A s j).map (tkn A sg (vs ++ rgj A s j)) := by
          apply List.map_congr_left
          intro w hw
          exact tkn_st (List.mem_append_right _ hw)
        rw [rgj_s, List.map_append, e9, ← List.append_assoc]
        rfl
      rw [e3]
      exact hst
    rw [tf_ring]
    by_cases hjd : j + 1 = rlen A (rn_c A s)
    · rw [if_pos hjd] at hnx
      rw [if_pos (by rw [hN, hnx])]
      have e4 : rgj A s (j + 1) = rgl A s := by
        unfold rgj rgl
        rw [hjd]
      rw [e4] at hcells
      exact hcells
    · rw [if_neg hjd] at hnx
      have hne : ¬ T.2.2.1.1 (lbv A f (rv A s j)) = lbv A f s := by
        rw [hN, hnx]
        intro e5
        exact rv_ne hs (by omega) (by omega) (em_inj hi (rv_lt hs (by omega)) hs e5)
      rw [if_neg hne, hN, hnx]
      exact ih (j + 1) _ (by omega) (by omega) e1 (by omega) hcells
theorem emtJ_comp {vs cells : List Nat} {P : tf_P} {s : Nat} (hi : emN A sg f T) (hs : s < A.flatten.length) (h : tJ A f vs cells P) : tJ A f (vs ++ rgl A s) (cells ++ ((rgl A s).map (tkn A sg (vs ++ rgl A s)) ++ [0])) (tf_sep (tf_ring T.2.2.2 T.2.2.1.1 (lbv A f s) 24 (lbv A f s) P)) := by
  have h0 := rlen_pos hs
  have h1 := rlen_le hs
  have h2 := hi.2.1
  have h3 := hi.2.2.1
  have := emtJ_ring (vs := vs) (cells := cells) hi hs (rlen A (rn_c A s)) 0 P (by omega) h0 24 (by omega) (by
    rw [show rgj A s 0 = [] from rfl, List.append_nil, List.map_nil, List.append_nil]
    exact h)
  rw [rv_0 hs] at this
  rw [← List.append_assoc]
  exact tJ_sep this
theorem emtJ_S {S : List Nat} {P : tf_P} {s : Nat} (hi : emN A sg f T) (hs : s < A.flatten.length) (h : tJ A f (vsO A S) (tks A sg (vsO A S) S) P) : tJ A f (vsO A (S ++ [s])) (tks A sg (vsO A (S ++ [s])) (S ++ [s])) (tf_sep (tf_ring T.2.2.2 T.2.2.1.1 (lbv A f s) 24 (lbv A f s) P)) := by
  rw [tks_grow, vsO_app]
  exact emtJ_comp hi hs h
theorem emtJ_look {S : List Nat} {cells : List Nat} {P : tf_P} (hi : emN A sg f T) (hS : tS A S) (h : tJ A f (vsO A S) cells P) : ∀ d k, k + d = (fm A (vsO A S)).length → (∀ j w, j < k → (fm A (vsO A S))[j]? = some w → gn A S (rn_c A (mtf A w)) = true) → ((fm A (vsO A S)).drop k).find? (fun v => !gn A S (rn_c A (mtf A v))) = none ∧ (tf_look P d k).1 = none ∨ ∃ j v, (fm A (vsO A S))[j]? = some v ∧ ((fm A (vsO A S)).drop k).find? (fun v => !gn A S (rn_c A (mtf A v))) = some v ∧ tf_look P d k = (some (lbv A f (mtf A v)), j + 1) ∧ ∀ i w, i < j → (fm A (vsO A S))[i]? = some w → gn A S (rn_c A (mtf A w)) = true := by
  intro d
  induction d with
  | zero =>
    intro k hk hc
    refine Or.inl ⟨?_, rfl⟩
    rw [List.drop_of_length_le (by omega)]
    rfl
  | succ d ih =>
    intro k hk hc
    have hkl : k < (fm A (vsO A S)).length := by omega
    have e0 : (fm A (vsO A S))[k]? = some (fm A (vsO A S))[k] := List.getElem?_eq_getElem hkl
    have ed := List.drop_eq_getElem_cons hkl
    generalize hvv : (fm A (vsO A S))[k] = v at e0 ed
    have hvm : v ∈ vsO A S := fm_mem _ (List.mem_of_getElem? e0)
    have hv := h.2.2.2.2.2 v hvm
    have hnam := (h.2.1 k v e0).1
    have hg := (h.2.2.2.1 v hv).mpr hvm
    obtain ⟨m1, m2, m3, m4⟩ := em_mt hi hv
    have hgm := h.2.2.2.1 (mtf A v) m1
    have hgv := gn_vs hS m1
    have hl := em_hf hi hv
    have hu := uns_lt hi.1 hv
    have hlab : lbv A f v = 2 * P.nam k + uns A v := by rw [hnam]; rfl
    have hm0 : mt (2 * P.nam k) = 2 * P.nam k + 1 := by
      unfold mt
      rw [if_pos (by omega)]
    have hm1 : mt (2 * P.nam k + 1) = 2 * P.nam k := by
      unfold mt
      rw [if_neg (by omega)]
      rfl
    have hu2 : (lbv A f v = 2 * P.nam k ∧ lbv A f (mtf A v) = 2 * P.nam k + 1) ∨ (lbv A f v = 2 * P.nam k + 1 ∧ lbv A f (mtf A v) = 2 * P.nam k) := by
      rcases Nat.lt_or_ge (uns A v) 1 with h9 | h9
      · have e9 : uns A v = 0 := by omega
        rw [m3, hlab, e9, Nat.add_zero]
        exact Or.inl ⟨rfl, hm0⟩
      · have e9 : uns A v = 1 := by omega
        rw [m3, hlab, e9]
        exact Or.inr ⟨rfl, hm1⟩
    rw [ed, List.find?_cons, tf_look]
    unfold o_gn at hg hgm
    by_cases hp : gn A S (rn_c A (mtf A v)) = true
    · -- both visits gone
      have hgm2 := hgm.mpr (hgv.mp hp)
      have b1 : ¬ P.gone / 2 ^ (2 * P.nam k) % 2 = 0 ∧ ¬ P.gone / 2 ^ (2 * P.nam k + 1) % 2 = 0 := by
        rcases hu2 with ⟨q1, q2⟩ | ⟨q1, q2⟩
        · rw [q1] at hg
          rw [q2] at hgm2
          exact ⟨by omega, by omega⟩
        · rw [q1] at hg
          rw [q2] at hgm2
          exact ⟨by omega, by omega⟩
      rw [if_neg b1.1, if_neg b1.2, show (!gn A S (rn_c A (mtf A v))) = false from by rw [hp]; rfl]
      refine ih (k + 1) (by omega) (fun j w hj e => ?_)
      by_cases e9 : j = k
      · rw [e9, e0] at e
        cases e
        exact hp
      · exact hc j w (by omega) e
    · have hp2 : gn A S (rn_c A (mtf A v)) = false := by
        cases h9 : gn A S (rn_c A (mtf A v))
        · rfl
        · exact absurd h9 hp
      have hgm2 : P.gone / 2 ^ lbv A f (mtf A v) % 2 = 0 := by
        have : ¬ P.gone / 2 ^ lbv A f (mtf A v) % 2 = 1 := fun h9 => hp (hgv.mpr (hgm.mp h9))
        omega
      rw [show (!gn A S (rn_c A (mtf A v))) = true from by rw [hp2]; rfl]
      refine Or.inr ⟨k, v, e0, rfl, ?_, hc⟩
      rcases hu2 with ⟨q1, q2⟩ | ⟨q1, q2⟩
      · rw [q1] at hg
        rw [q2] at hgm2 ⊢
        rw [if_neg (by omega), if_pos hgm2]
      · rw [q2] at hgm2 ⊢
        rw [if_pos hgm2]
theorem emtJ_out (hi : emN A sg f T) : ∀ (d fu : Nat) (S : List Nat) (k : Nat) (P : tf_P), tS A S → tJ A f (vsO A S) (tks A sg (vsO A S) S) P → rem (gn A S) (fun _ => 1) A.length ≤ d → rem (gn A S) (fun _ => 1) A.length ≤ fu → k ≤ (fm A (vsO A S)).length → (∀ j w, j < k → (fm A (vsO A S))[j]? = some w → gn A S (rn_c A (mtf A w)) = true) → tJ A f (vsO A (trF A fu S)) (tks A sg (vsO A (trF A fu S)) (trF A fu S)) (tf_out T.2.2.2 T.2.2.1.1 d (tf_look P (P.names - k) k).1 (tf_look P (P.names - k) k).2 P) := by
  have hd := wkF_ok hi.1
  intro d
  induction d with
  | zero =>
    intro fu S k P hS hJ hr1 hr2 hk hc
    have hx : nxS A S = none := by
      cases hx : nxS A S with
      | none => rfl
      | some w =>
        obtain ⟨h1, h2, -⟩ := nxS_step hd hS hx
        have hw : w < A.flatten.length := h1.2 w (by simp)
        have h3 := rem_zero (g := gn A S) A.length (by omega) (rn_c A w) (rn_c_in A w hw).1
        rw [h2] at h3
        cases h3
    rw [trF_none hx]
    exact hJ
  | succ d ih =>
    intro fu S k P hS hJ hr1 hr2 hk hc
    have hfind : ((fm A (vsO A S)).drop k).find? (fun v => !gn A S (rn_c A (mtf A v))) = (fm A (vsO A S)).find? (fun v => !gn A S (rn_c A (mtf A v))) := by
      have : ((fm A (vsO A S)).take k ++ (fm A (vsO A S)).drop k).find? (fun v => !gn A S (rn_c A (mtf A v))) = ((fm A (vsO A S)).drop k).find? (fun v => !gn A S (rn_c A (mtf A v))) := by
        rw [List.find?_append]
        have h9 : ((fm A (vsO A S)).take k).find? (fun v => !gn A S (rn_c A (mtf A v))) = none := by
          rw [List.find?_eq_none]
          intro w hw h8
          obtain ⟨j, hj⟩ := List.getElem?_of_mem hw
          rw [List.getElem?_take] at hj
          by_cases h7 : j < k
          · rw [if_pos h7] at hj
            have := hc j w h7 hj
            rw [this] at h8
            cases h8
          · rw [if_neg h7] at hj
            cases hj
        rw [h9]
        rfl
      rw [List.take_append_drop] at this
      exact this.symm
    have hl := emtJ_look hi hS hJ ((fm A (vsO A S)).length - k) k (by omega) hc
    rw [hJ.1]
    rcases hl with ⟨l1, l2⟩ | ⟨j, v, l1, l2, l3, l4⟩
    · rw [hfind] at l1
      have hx : nxS A S = none := by
        unfold nxS
        rw [l1]
        rfl
      rw [trF_none hx, l2]
      exact hJ
    · rw [hfind] at l2
      have hx : nxS A S = some (mtf A v) := by
        unfold nxS
        rw [l2]
        rfl
      obtain ⟨h1, h2, -⟩ := nxS_step hd hS hx
      have hw : mtf A v < A.flatten.length := h1.2 _ (by simp)
      have hrs := rem_st (f := fun _ => 1) h2 (fun b => gn_app (A := A) (S := S) (w := mtf A v) (b := b)) A.length (rn_c_in A _ hw).1
      obtain ⟨fu1, rfl⟩ : ∃ fu1, fu = fu1 + 1 := ⟨fu - 1, by omega⟩
      rw [trF_some hx, l3]
      have hJ2 := emtJ_S hi hw hJ
      have hpre := fm_pre (A := A) (vsO A S) (rgl A (mtf A v))
      rw [← vsO_app] at hpre
      obtain ⟨us, hus⟩ := hpre
      have hjl := (List.getElem?_eq_some_iff.mp l1).1
      refine ih fu1 (S ++ [mtf A v]) (j + 1) _ h1 hJ2 (by omega) (by omega) ?_ (fun i w hij e => ?_)
      · rw [hus, List.length_append]
        omega
      · rw [hus, List.getElem?_append_left (by omega)] at e
        rw [gn_app]
        by_cases e9 : i = j
        · rw [e9, l1] at e
          cases e
          rw [decide_eq_true rfl, Bool.or_true]
        · rw [l4 i w (by omega) e]
          rfl
theorem em_code {s : Nat} (hi : emN A sg f T) (hA : A.length ≤ 23) (hs : s < A.flatten.length) : tfL (tf_code T.2.2.2 T.2.2.1.1 (lbv A f s)) = cdv A sg s := by
  have h0 : tJ A f (vsO A []) (tks A sg (vsO A []) []) tf_0 := by
    refine ⟨rfl, fun k w e => ?_, fun v hv _ => rfl, fun v hv => ?_, rfl, fun v hv => by cases hv⟩
    · rw [show fm A (vsO A []) = [] from rfl, List.getElem?_nil] at e
      cases e
    · refine ⟨fun h9 => ?_, fun h9 => by cases h9⟩
      have h8 : 0 / 2 ^ lbv A f v % 2 = 1 := h9
      rw [Nat.zero_div] at h8
      omega
  have h1 := emtJ_S hi hs h0
  have hts : tS A [s] := ⟨List.nodup_cons.mpr ⟨fun h => (by cases h), List.nodup_nil⟩, fun t ht => by rw [List.mem_singleton.mp ht]; exact hs⟩
  have hrs := rem_st (g := gn A []) (f := fun _ => 1) (c := rn_c A s) rfl (fun b => gn_app (A := A) (S := []) (w := s) (b := b)) A.length (rn_c_in A _ hs).1
  have hr1 := rem_1 A.length
  have hr0 : rem (gn A []) (fun _ => 1) A.length = A.length := (rem_congr A.length (fun c _ => rfl)).trans hr1
  have h2 := emtJ_out hi 23 A.length ([] ++ [s]) 0 _ hts h1 (by omega) (by omega) (Nat.zero_le _) (fun j w hj _ => absurd hj (Nat.not_lt_zero _))
  have h3 := h2.2.2.2.2.1
  exact h3
end XEM
end
section
/-! 99zzzzzzzzzzzzv.xsu4 -/
/-! summands: isParted, exactly (made from parted by an edit) -/
section XSP
variable {z : ow_MS} {A : rn_L} {sg : Nat → Bool}
def gdM (A : rn_L) (c g h : Nat) (M : Nat → Nat) : Prop := (∀ v, v < A.flatten.length → M (mtf A v) = M v) ∧ (∀ u v, u < A.flatten.length → v < A.flatten.length → rn_c A u = rn_c A v → rn_c A u ≠ c → M u = M v) ∧ ∀ v, g < v → v ≤ h → M v = M h
def rEa2 (y : ow_MS) (A : rn_L) (c g h : Nat) : Prop := rEa y A c g h ∧ ∀ M, gdM A c g h M → ∀ v, v < A.flatten.length → y.2.1 38 v = 1 → M v = M h
def unU (y : ow_MS) (A : rn_L) (c : Nat) : Prop := ∀ a b, a < A.flatten.length → b < A.flatten.length → rn_c A a = rn_c A b → rn_c A a ≠ c → y.2.1 38 a = y.2.1 38 b
def rEa3 (y : ow_MS) (A : rn_L) (c g h : Nat) : Prop := rEa2 y A c g h ∧ unU y A c
theorem xp_parted {c g h : Nat} (hO : oNet z 1000 A sg) (hc : c < A.length) (hg1 : rn_b A c ≤ g) (hgh : g < h) (hh : h < rn_b A (c + 1)) : Te (fun K => qe_X13_isParted K 1000 (nI c) (nI g) (nI h) z) (fun r => fr (fun i => i = 38) z r.2 ∧ (r.1 = 0 ∨ r.1 = 1) ∧ (r.1 = 1 → rEa r.2 A c g h ∧ (∀ v, v < A.flatten.length → r.2.2.1 38 v = 1 → r.2.2.1 38 (mtf A v) = 1) ∧ unU r.2 A c) ∧ (r.1 = 0 → ∀ M, gdM A c g h M → ∃ u, u < A.flatten.length ∧ rn_c A u = c ∧ ¬ (g < u ∧ u ≤ h) ∧ M u = M h)) := by
  have hl := hO.len
  have hC := hO.2.2.2
  have hd := wkF_ok hO.wk
  have hbl := rn_b_le A (c + 1)
  obtain ⟨V, hV⟩ : ∃ V, V = A.flatten.length := ⟨_, rfl⟩
  have oY : ∀ {y : ow_MS}, fr (fun i => i = 38) z y → oNet y 1000 A sg := fun hf => oNet_fr hf (fun i hi => by omega) hO
  let Q : Int32 × ow_MS → Prop := fun r => fr (fun i => i = 38) z r.2 ∧ (r.1 = 0 ∨ r.1 = 1) ∧ (r.1 = 1 → rEa r.2 A c g h ∧ (∀ v, v < A.flatten.length → r.2.2.1 38 v = 1 → r.2.2.1 38 (mtf A v) = 1) ∧ unU r.2 A c) ∧ (r.1 = 0 → ∀ M, gdM A c g h M → ∃ u, u < A.flatten.length ∧ rn_c A u = c ∧ ¬ (g < u ∧ u ≤ h) ∧ M u = M h)
  have pass : ∀ (Z0 : Nat), (∀ (y : ow_MS), fr (fun i => i = 38) z y → rEa3 y A c g h → zer (y.2.1 38) V < Z0 → Tt (fun K i => q_X13_isParted K i 4 (nI c) (nI g) (nI h) 1 0 0 0 1000 0 0 y) Q) → ∀ (d v : Nat) (x5 : Int32) (y : ow_MS), v + d = V → fr (fun i => i = 38) z y → rEa3 y A c g h → (x5 = 0 ∧ zer (y.2.1 38) V ≤ Z0 ∧ (∀ v', v' < v → y.2.1 38 v' = 1 → y.2.1 38 (mtf A v') = 1) ∨ x5 = 1 ∧ zer (y.2.1 38) V < Z0) → Tt (fun K i => q_X13_isParted K i 5 (nI c) (nI g) (nI h) x5 (nI v) 0 0 1000 0 0 y) Q := by
    intro Z0 hag d
    induction d with
    | zero =>
      intro v x5 y hv hf hE hx
      have o2 := oY hf
      refine u_X13_isParted_5 ?_; unfold qm_X13_isParted_5
      refine w_rdF o2.1.V (w_leT (by omega) (by omega) ?_)
      rcases hx with ⟨e, h1, h2⟩ | ⟨e, h1⟩
      · subst e
        refine u_X13_isParted_4 ?_; unfold qm_X13_isParted_4
        refine w_ifT rfl (w_okZ (Or.inr rfl) (w_some ⟨hf, Or.inr rfl, fun _ => ⟨hE.1.1, fun v' hv' h9 => h2 v' (by omega) h9, hE.2⟩, fun h9 => absurd h9 (show ¬ ((1 : Int32) = 0) by decide)⟩))
      · subst e
        exact hag y hf hE h1
    | succ d ih =>
      intro v x5 y hv hf hE hx
      have o2 := oY hf
      have hvl : v < A.flatten.length := by omega
      have hml := mtf_lt hd hvl
      have c7 : ∀ (x9 : Int32) (y2 : ow_MS), fr (fun i => i = 38) z y2 → rEa3 y2 A c g h → (x9 = 0 ∧ zer (y2.2.1 38) V ≤ Z0 ∧ (∀ v', v' < v + 1 → y2.2.1 38 v' = 1 → y2.2.1 38 (mtf A v') = 1) ∨ x9 = 1 ∧ zer (y2.2.1 38) V < Z0) → Tt (fun K i => q_X13_isParted K i 7 (nI c) (nI g) (nI h) x9 (nI v) 0 0 1000 0 0 y2) Q := by
        intro x9 y2 hf2 hE2 hx2
        refine u_X13_isParted_7 ?_; unfold qm_X13_isParted_7
        rw [nI_1]
        exact ih (v + 1) x9 y2 (by omega) hf2 hE2 hx2
      -- nothing to do at v
      have stay : (y.2.1 38 v = 1 → y.2.1 38 (mtf A v) = 1) → Tt (fun K i => q_X13_isParted K i 7 (nI c) (nI g) (nI h) x5 (nI v) 0 0 1000 0 0 y) Q := by
        intro hst
        refine c7 x5 y hf hE (hx.imp (fun ⟨e, h1, h2⟩ => ⟨e, h1, fun v' hv' h9 => ?_⟩) id)
        by_cases hvv : v' = v
        · rw [hvv] at h9 ⊢
          exact hst h9
        · exact h2 v' (by omega) h9
      refine u_X13_isParted_5 ?_; unfold qm_X13_isParted_5
      refine w_rdF o2.1.V (w_leF (by omega) (by omega) (w_rdI ml38 rfl (by omega) rfl (w_if (fun h0 => stay (fun h9 => by rw [h0] at h9; exact absurd h9 (by decide))) (fun h0 => w_rdI (pl7 pn1) rfl (by omega) (lk_m hd o2.1 hvl) (w_rdI ml38 rfl (by omega) rfl (w_if (fun hm0 => ?_) (fun hm0 => stay (fun _ => ((hE.1.1 _ hml).1.resolve_left hm0)))))))))
      obtain ⟨k1, k2, k3⟩ := rn_c_in A (mtf A v) hml
      obtain ⟨k, hk⟩ : ∃ k, k = rn_c A (mtf A v) := ⟨_, rfl⟩
      rw [← hk] at k1 k2 k3
      have hbk := rn_b_le A (k + 1)
      refine w_rdI (pl7 pn1) rfl (by omega) (lk_m hd o2.1 hvl) (w_rdI (pl8 pn1) rfl (by omega) ((lk_c o2.1 hml).trans (by rw [← hk])) (w_eqN (by omega) (by omega) (fun hkc => w_okZ (Or.inl rfl) (w_some ⟨hf, Or.inl rfl, fun h9 => absurd h9 (show ¬ ((0 : Int32) = 1) by decide), fun _ M hM => ⟨mtf A v, hml, hk.symm.trans hkc, fun h9 => ?_, (hM.1 v hvl).trans (hE.1.2 M hM v hvl ((hE.1.1 v hvl).1.resolve_left h0))⟩⟩)) (fun hkc => w_rdI (pl3 pn1) rfl (by omega) (lk_b o2.1 (by omega)) ?_)))
      · have := ((hE.1.1 _ hml).2 (hk.symm.trans hkc)).mpr h9
        rw [hm0] at this
        exact absurd this (by decide)
      -- the whole component k
      have fill : ∀ (d u : Nat) (y2 : ow_MS), u + d = rn_b A (k + 1) → rn_b A k ≤ u → fr (fun i => i = 38) z y2 → rEa2 y2 A c g h → (∀ v', v' < A.flatten.length → y2.2.1 38 v' = if rn_c A v' = k ∧ v' < u then 1 else y.2.1 38 v') → (zer (y2.2.1 38) V ≤ zer (y.2.1 38) V ∧ (mtf A v < u → zer (y2.2.1 38) V < zer (y.2.1 38) V) ∧ (u ≤ mtf A v → y2.2.1 38 (mtf A v) = 0)) → Tt (fun K i => q_X13_isParted K i 6 (nI c) (nI g) (nI h) x5 (nI v) (nI k) (nI u) 1000 0 0 y2) Q := by
        intro d
        induction d with
        | zero =>
          intro u y2 hu hlo hf2 hE2 hU ⟨z1, z2, z3⟩
          have o3 := oY hf2
          refine u_X13_isParted_6 ?_; unfold qm_X13_isParted_6
          rw [nI_1]
          refine w_rdI (pl3 pn1) rfl (by omega) (lk_b o3.1 (by omega)) (w_leT (by omega) (by omega) (c7 1 y2 hf2 ⟨hE2, fun a b ha hb e1 e2 => ?_⟩ (Or.inr ⟨rfl, ?_⟩)))
          · rw [hU a ha, hU b hb]
            by_cases h9 : rn_c A a = k
            · have a1 := rn_c_in A a ha
              have b1 := rn_c_in A b hb
              rw [← e1, h9] at b1
              rw [h9] at a1
              rw [if_pos ⟨h9, by omega⟩, if_pos ⟨e1.symm.trans h9, by omega⟩]
            · rw [if_neg (fun h8 => h9 h8.1), if_neg (fun h8 => h9 (e1.trans h8.1))]
              exact hE.2 a b ha hb e1 e2
          have := z2 (by omega)
          rcases hx with ⟨_, h1, _⟩ | ⟨_, h1⟩ <;> omega
        | succ d ihf =>
          intro u y2 hu hlo hf2 hE2 hU ⟨z1, z2, z3⟩
          have o3 := oY hf2
          have hul : u < A.flatten.length := by omega
          have huc : rn_c A u = k := rn_c_of A k u hlo (by omega)
          refine u_X13_isParted_6 ?_; unfold qm_X13_isParted_6
          rw [nI_1, nI_1]
          refine w_rdI (pl3 pn1) rfl (by omega) (lk_b o3.1 (by omega)) (w_leF (by omega) (by omega) (w_wrZ ml38 rfl (by omega) (ihf (u + 1) _ (by omega) (by omega) (fr_I2 hf2 rfl) ⟨fun v' hv' => ?_, fun M hM v' hv' h1 => ?_⟩ (fun v' hv' => ?_) ?_)))
          · obtain ⟨e1, e2⟩ := hE2.1 v' hv'
            by_cases hvu : v' = u
            · rw [hvu]
              refine ⟨Or.inr po_usI_at, fun e9 => ?_⟩
              exact absurd (huc.symm.trans e9) (fun e8 => hkc e8)
            · rw [po_usI_ne hvu]
              exact ⟨e1, e2⟩
          · by_cases hvu : v' = u
            · rw [hvu]
              rw [hM.2.1 u (mtf A v) hul hml (huc.trans hk) (by rw [huc]; exact hkc), hM.1 v hvl]
              exact hE.1.2 M hM v hvl ((hE.1.1 v hvl).1.resolve_left h0)
            · rw [po_usI_ne hvu] at h1
              exact hE2.2 M hM v' hv' h1
          · by_cases hvu : v' = u
            · rw [hvu, po_usI_at, if_pos ⟨huc, by omega⟩]
              rfl
            · rw [po_usI_ne hvu, hU v' hv']
              by_cases h9 : rn_c A v' = k ∧ v' < u
              · rw [if_pos h9, if_pos ⟨h9.1, by omega⟩]
              · rw [if_neg h9, if_neg (fun h8 => h9 ⟨h8.1, by omega⟩)]
          · have er : (usI y2 38 u (vp_nar .boolean 1)).2.1 38 = upd (y2.2.1 38) u 1 := po_usI_row
            rw [er]
            have hle := zer_le (r := y2.2.1 38) (u := u) V
            refine ⟨by omega, fun h9 => ?_, fun h9 => ?_⟩
            · by_cases hum : u = mtf A v
              · have := zer_lt (r := y2.2.1 38) (u := u) (by rw [hum]; exact z3 (by omega)) V (by omega)
                omega
              · have := z2 (by omega)
                omega
            · rw [pk_un (by omega)]
              exact z3 (by omega)
      exact fill (rn_b A (k + 1) - rn_b A k) (rn_b A k) y (by omega) (Nat.le_refl _) hf hE.1 (fun v' hv' => by
        rw [if_neg]
        rintro ⟨h8, h9⟩
        have := (rn_c_in A v' hv').2.1
        rw [h8] at this
        omega) ⟨Nat.le_refl _, fun h9 => by omega, fun _ => hm0⟩
  have wh : ∀ (u : Nat) (y : ow_MS), zer (y.2.1 38) V ≤ u → fr (fun i => i = 38) z y → rEa3 y A c g h → Tt (fun K i => q_X13_isParted K i 4 (nI c) (nI g) (nI h) 1 0 0 0 1000 0 0 y) Q := by
    intro u
    induction u with
    | zero =>
      intro y hu hf hE
      refine u_X13_isParted_4 ?_; unfold qm_X13_isParted_4
      exact w_ifF (by decide) (pass 0 (fun y2 _ _ h9 => by omega) V 0 0 y (by omega) hf hE (Or.inl ⟨rfl, hu, fun v' hv' => by omega⟩))
    | succ u ih =>
      intro y hu hf hE
      refine u_X13_isParted_4 ?_; unfold qm_X13_isParted_4
      exact w_ifF (by decide) (pass (u + 1) (fun y2 f2 e2 h9 => ih y2 (by omega) f2 e2) V 0 0 y (by omega) hf hE (Or.inl ⟨rfl, hu, fun v' hv' => by omega⟩))
  have ini : ∀ (d v : Nat) (y : ow_MS), v + d = V → fr (fun i => i = 38) z y → (∀ v', v' < v → (y.2.1 38 v' = 0 ∨ y.2.1 38 v' = 1) ∧ (y.2.1 38 v' = 1 ↔ g < v' ∧ v' ≤ h)) → Tt (fun K i => q_X13_isParted K i 1 (nI c) (nI g) (nI h) (nI v) 0 0 0 1000 0 0 y) Q := by
    intro d
    induction d with
    | zero =>
      intro v y hv hf hr
      refine u_X13_isParted_1 ?_; unfold qm_X13_isParted_1
      exact w_rdF (oY hf).1.V (w_leT (by omega) (by omega) (wh _ y (Nat.le_refl _) hf ⟨⟨fun v' hv' => ⟨(hr v' (by omega)).1, fun _ => (hr v' (by omega)).2⟩, fun M hM v' hv' h1 => by
        have h2 := (hr v' (by omega)).2.mp h1
        exact hM.2.2 v' h2.1 h2.2⟩, fun a b ha hb e1 e2 => by
        have z9 : ∀ a, a < A.flatten.length → rn_c A a ≠ c → y.2.1 38 a = 0 := fun a ha hn => (hr a (by omega)).1.resolve_right (fun h1 => by
          have h2 := (hr a (by omega)).2.mp h1
          exact hn (rn_c_of A c a (by omega) (by omega)))
        rw [z9 a ha e2, z9 b hb (by rw [← e1]; exact e2)]⟩))
    | succ d ih =>
      intro v y hv hf hr
      have c3 : ∀ (b : Bool), (b = true ↔ g < v ∧ v ≤ h) → Tt (fun K i => q_X13_isParted K i 3 (nI c) (nI g) (nI h) (nI v) 0 0 0 1000 (bZ b) (nI v) y) Q := by
        intro b hb
        refine u_X13_isParted_3 ?_; unfold qm_X13_isParted_3
        rw [nI_1]
        refine w_wrZ ml38 rfl (by omega) (ih (v + 1) _ (by omega) (fr_I2 hf rfl) (fun v' hv' => ?_))
        by_cases hvv : v' = v
        · rw [hvv, po_usI_at]
          cases b with
          | true => exact ⟨Or.inr rfl, fun _ => hb.mp rfl, fun _ => rfl⟩
          | false => exact ⟨Or.inl rfl, fun h9 => absurd h9 (by decide), fun h9 => absurd (hb.mpr h9) (by decide)⟩
        · rw [po_usI_ne hvv]
          exact hr v' (by omega)
      have c2 : ¬ (g < v ∧ v ≤ h) → Tt (fun K i => q_X13_isParted K i 2 (nI c) (nI g) (nI h) (nI v) 0 0 0 1000 (nI v) 0 y) Q := by
        intro hno
        refine u_X13_isParted_2 ?_; unfold qm_X13_isParted_2
        exact c3 false ⟨fun h9 => absurd h9 (by decide), fun h9 => absurd h9 hno⟩
      refine u_X13_isParted_1 ?_; unfold qm_X13_isParted_1
      exact w_rdF (oY hf).1.V (w_leF (by omega) (by omega) (w_le (by omega) (by omega) (fun h9 => c2 (by omega)) (fun h9 => w_lt (by omega) (by omega) (fun h8 => c2 (by omega)) (fun h8 => c3 true ⟨fun _ => ⟨h9, h8⟩, fun _ => rfl⟩))))
  refine e_X13_isParted ?_
  refine u_X13_isParted_0 ?_; unfold qm_X13_isParted_0
  exact ini V 0 z (by omega) fr_rf (fun v' hv' => by omega)
end XSP
end
section
/-! 99zzzzzzzzzzzzw.xsu5 -/
/-! summands: waitsFor, exactly -/
def wfB (A : rn_L) (σ : Nat → Bool) (c i : Nat) : List Nat := (List.range i).filter (fun j => decide (rn_b A c ≤ j) && σ j)
/-- the rings of the visits that σ takes, by flat numbers -/
def wfI (A : rn_L) (σ : Nat → Bool) : Nat → List (List Nat)
  | 0 => []
  | c + 1 => if (wfB A σ c (rn_b A (c + 1))).isEmpty then wfI A σ c else wfI A σ c ++ [wfB A σ c (rn_b A (c + 1))]
def wfW (A : rn_L) (σ : Nat → Bool) (c : Nat) : rn_L := (wfI A σ c).map (List.map (vAt A))
section XSQ
variable {z : ow_MS} {A : rn_L} {sg : Nat → Bool} {σ : Nat → Bool}
theorem wfB_0 {c : Nat} : wfB A σ c (rn_b A c) = [] := by
  unfold wfB
  refine List.filter_eq_nil_iff.mpr (fun j hj => ?_)
  have := List.mem_range.mp hj
  rw [decide_eq_false (by omega), Bool.false_and]
  decide
theorem wfB_s {c i : Nat} (h : rn_b A c ≤ i) : wfB A σ c (i + 1) = if σ i then wfB A σ c i ++ [i] else wfB A σ c i := by
  unfold wfB
  rw [List.range_succ, List.filter_append]
  cases e : σ i with
  | true =>
    rw [List.filter_cons_of_pos (by rw [decide_eq_true h, e]; rfl), if_pos rfl]
    rfl
  | false =>
    rw [List.filter_cons_of_neg (by rw [decide_eq_true h, e]; decide), if_neg (by decide), List.filter_nil, List.append_nil]
theorem wfB_m {c i j : Nat} : j ∈ wfB A σ c i ↔ j < i ∧ rn_b A c ≤ j ∧ σ j = true := by
  unfold wfB
  rw [List.mem_filter, List.mem_range, Bool.and_eq_true, decide_eq_true_iff]
theorem wfI_fl {c : Nat} : (wfI A σ (c + 1)).flatten = (wfI A σ c).flatten ++ wfB A σ c (rn_b A (c + 1)) := by
  rw [wfI]
  split
  · rename_i h
    rw [List.isEmpty_iff.mp h, List.append_nil]
  · rw [List.flatten_append, List.flatten_cons, List.flatten_nil, List.append_nil]
theorem wfI_m {j : Nat} : ∀ c, j ∈ (wfI A σ c).flatten ↔ j < rn_b A c ∧ σ j = true
  | 0 => by
    have : rn_b A 0 = 0 := rfl
    rw [this]
    exact ⟨fun h => absurd h (List.not_mem_nil), fun h => absurd h.1 (Nat.not_lt_zero _)⟩
  | c + 1 => by
    have := rn_b_mono A c
    rw [wfI_fl, List.mem_append, wfI_m c, wfB_m]
    constructor
    · rintro (h | h)
      · exact ⟨by omega, h.2⟩
      · exact ⟨h.1, h.2.2⟩
    · rintro ⟨h1, h2⟩
      by_cases e : j < rn_b A c
      · exact Or.inl ⟨e, h2⟩
      · exact Or.inr ⟨h1, by omega, h2⟩
theorem wfI_nd : ∀ c, (wfI A σ c).flatten.Nodup
  | 0 => List.nodup_nil
  | c + 1 => by
    rw [wfI_fl]
    refine List.nodup_append.mpr ⟨wfI_nd c, nodup_filter List.nodup_range, fun a ha b hb e => ?_⟩
    have h1 := (wfI_m c).mp ha
    have h2 := wfB_m.mp hb
    omega
theorem wfI_n : ∀ c, (wfI A σ c).length ≤ c
  | 0 => Nat.le_refl _
  | c + 1 => by
    have := wfI_n c
    rw [wfI]
    split
    · omega
    · rw [List.length_append, List.length_cons, List.length_nil]
      omega
theorem wf_len {c i : Nat} (hi : rn_b A c ≤ i) : (wfI A σ c).flatten.length + (wfB A σ c i).length ≤ i := by
  have h1 : ((wfI A σ c).flatten ++ wfB A σ c i).Nodup := by
    refine List.nodup_append.mpr ⟨wfI_nd c, nodup_filter List.nodup_range, fun a ha b hb e => ?_⟩
    have h1 := (wfI_m c).mp ha
    have h2 := wfB_m.mp hb
    omega
  have h2 := nodup_le _ (List.range i) h1 (fun j hj => by
    rw [List.mem_range]
    rcases List.mem_append.mp hj with h | h
    · have := ((wfI_m c).mp h).1
      omega
    · exact (wfB_m.mp h).1)
  rw [List.length_append, List.length_range] at h2
  exact h2
/-- what is closed under mates may stand alone -/
theorem wkF_sub {C : List (List Nat)} {P : Nat → Prop} (hF : wkF A.flatten) (hP : ∀ j, P j → j < A.flatten.length) (hc : ∀ j, P j → P (mtf A j)) (h3 : C.flatten.Nodup) (h4 : ∀ j, j ∈ C.flatten ↔ P j) : wkF (C.map (List.map (vAt A))).flatten := by
  have hd := wkF_ok hF
  have inj : ∀ i j, i < A.flatten.length → j < A.flatten.length → vAt A i = vAt A j → i = j := fun i j hi hj e => nodup_at hF.1 (vAt_of hi) (by rw [e]; exact vAt_of hj)
  refine ⟨?_, fun p hp => ?_⟩
  · rw [fl_map]
    exact nodup_map h3 (fun i j hi hj e => inj i j (hP i ((h4 i).mp hi)) (hP j ((h4 j).mp hj)) e)
  · rw [fl_map] at hp ⊢
    obtain ⟨j, hj, e⟩ := List.mem_map.mp hp
    have hjP := (h4 j).mp hj
    have hjl := hP j hjP
    obtain ⟨g1, g2, -⟩ := hF.2 _ (List.mem_of_getElem? (vAt_of hjl))
    rw [← e]
    refine ⟨g1, g2, ?_⟩
    have hm := mtf_mt hd hjl
    obtain ⟨n1, p1, p2, a1, a2, a3⟩ := hm
    rw [vAt_of hjl] at a1
    cases a1
    have hml := hP _ (hc j hjP)
    have e2 := vAt_eq a2
    obtain ⟨-, k2, -⟩ := hF.2 _ (List.mem_of_getElem? a2)
    refine List.mem_map.mpr ⟨mtf A j, (h4 _).mpr (hc j hjP), ?_⟩
    have hne : (vAt A j).2 ≠ p2.2 := fun e9 => n1 (inj j (mtf A j) hjl hml (by rw [e2]; exact Prod.ext a3 e9))
    rw [e2]
    exact Prod.ext a3.symm (by show p2.2 = 1 - (vAt A j).2; omega)
theorem wfW_wk (hF : wkF A.flatten) (hc : ∀ j, j < A.flatten.length → σ j = true → σ (mtf A j) = true) : wkF (wfW A σ A.length).flatten := wkF_sub (P := fun j => j < A.flatten.length ∧ σ j = true) hF (fun j h => h.1) (fun j h => ⟨mtf_lt (wkF_ok hF) h.1, hc j h.1 h.2⟩) (wfI_nd _) (fun j => by rw [wfI_m, rn_b_len])
theorem xp_waits {n at9 : Nat} {b : Bool} (hn : mw_net n) (hn3 : n ≠ 3000) (ha : at9 < 16) (hO : oNet z n A sg) (hcl : ∀ v, v < A.flatten.length → z.2.1 38 v = bZ b → z.2.1 38 (mtf A v) = bZ b) : Te (fun K => qe_X13_waitsFor K n (bZ b) (nI at9) z) (fun z1 => (∃ m P, mk (wfW A (fun v => decide (z.2.1 38 v = bZ b)) A.length) m P ∧ rc_At z1 37 (32 * at9) (pkR (wfW A (fun v => decide (z.2.1 38 v = bZ b)) A.length) sg m P)) ∧ fr (fun g => 2 ≤ g ∧ g ≤ 9 ∨ g = 37 ∨ 3001 ≤ g ∧ g ≤ 3013) z z1 ∧ ∀ i, i < 32 * at9 ∨ 32 * at9 + 32 ≤ i → z1.2.1 37 i = z.2.1 37 i) := by
  have hmn := net_mod hn
  have hl := hO.len
  have hC := hO.2.2.2
  have hd := wkF_ok hO.wk
  let σ : Nat → Bool := fun v => decide (z.2.1 38 v = bZ b)
  let Q : ow_MS → Prop := fun z1 => (∃ m P, mk (wfW A σ A.length) m P ∧ rc_At z1 37 (32 * at9) (pkR (wfW A σ A.length) sg m P)) ∧ fr (fun g => 2 ≤ g ∧ g ≤ 9 ∨ g = 37 ∨ 3001 ≤ g ∧ g ≤ 3013) z z1 ∧ ∀ i, i < 32 * at9 ∨ 32 * at9 + 32 ≤ i → z1.2.1 37 i = z.2.1 37 i
  refine e_X13_waitsFor ?_
  refine u_X13_waitsFor_0 ?_; unfold qm_X13_waitsFor_0
  refine w_cs0 (tn_clear pn3) (fun z3 ⟨b3, f3⟩ => w_cs0 (tn_signs pn3 hn (fun e => hn3 e.symm)) (fun z4 ⟨f4, s4⟩ => ?_))
  let I : ow_MS → Prop := fun y => fr (fun g => 3001 ≤ g ∧ g ≤ 3006) z y ∧ ∀ x, x < 40 → y.2.1 3006 x = z.2.1 (n + 6) x
  have oI : ∀ {y : ow_MS}, I y → oNet y n A sg := fun hI => oNet_fr hI.1 (fun g hg => by omega) hO
  have stI : ∀ {P : Nat → Prop} {y y2 : ow_MS}, I y → fr P y y2 → (∀ g, P g → 3001 ≤ g ∧ g ≤ 3005) → I y2 := fun hI hf hP => ⟨fr_tr hI.1 (fr_mono (fun g hg => by have := hP g hg; omega) hf), fun x hx => by rw [(hf 3006 (fun h9 => by have := hP _ h9; omega)).2.1]; exact hI.2 x hx⟩
  have e38 : ∀ {y : ow_MS}, I y → y.2.1 38 = z.2.1 38 := fun hI => (hI.1 38 (by omega)).2.1
  have out : ∀ (k c : Nat) (y : ow_MS), c + k = A.length → I y → rn_At y 3000 (wfW A σ c) [] → Tt (fun K i => q_X13_waitsFor K i 1 (bZ b) (nI at9) (nI c) 0 0 n y) Q := by
    intro k
    induction k with
    | zero =>
      intro c y hc hI hb
      have hce : c = A.length := by omega
      rw [hce] at hb
      have hlen : (wfW A σ A.length).flatten.length ≤ A.flatten.length := by
        have := wf_len (A := A) (σ := σ) (c := A.length) (i := A.flatten.length) (by rw [rn_b_len]; exact Nat.le_refl _)
        unfold wfW
        rw [fl_map, List.length_map]
        omega
      have hn6 : (wfW A σ A.length).length ≤ A.length := by
        unfold wfW
        rw [List.length_map]
        exact wfI_n _
      have hwk : wkF (wfW A σ A.length).flatten := wfW_wk hO.wk (fun j hj h9 => decide_eq_true (hcl j hj (of_decide_eq_true h9)))
      have hsg : rn_sg y 3000 (wfW A σ A.length).flatten sg := fun p hp => by
        unfold wfW at hp
        rw [fl_map] at hp
        obtain ⟨j, hj, e⟩ := List.mem_map.mp hp
        have hj2 := (wfI_m _).mp hj
        rw [rn_b_len] at hj2
        obtain ⟨x1, x2, x3⟩ := hO.cx hj2.1
        rw [← e]
        show y.2.1 3006 (crs A j) = if sg (crs A j) then -1 else 1
        rw [hI.2 _ (by omega)]
        exact x3
      refine u_X13_waitsFor_1 ?_; unfold qm_X13_waitsFor_1
      rw [show (32 : Int32) * nI at9 = nI (32 * at9) from pk_mul 32 at9]
      refine w_rdF (lk_C (oI hI).1) (w_leT (by omega) (by omega) (w_cs0 (tr_pack pn3 (by omega) ml37 (by omega) (by omega) (by omega) (by omega) hwk hb hsg) (fun y2 hy2 => w_some ?_)))
      obtain ⟨m, P, k1, k2, k3, k4, -, -⟩ := hy2
      refine ⟨⟨m, P, k1, k2⟩, fr_tr (fr_mono (fun g hg => by omega) hI.1) (fr_mono (fun g hg => by unfold frQ at hg; omega) k3), fun i hi => ?_⟩
      rw [k4 i hi, (hI.1 37 (by omega)).2.1]
    | succ k ih =>
      intro c y hc hI hb
      have m1 := rn_b_mono A c
      have m2 := rn_b_le A (c + 1)
      have c4 : ∀ (x5 x6 : Int32) (y2 : ow_MS), I y2 → rn_At y2 3000 (wfW A σ (c + 1)) [] → Tt (fun K i => q_X13_waitsFor K i 4 (bZ b) (nI at9) (nI c) x5 x6 n y2) Q := by
        intro x5 x6 y2 hI2 hb2
        refine u_X13_waitsFor_4 ?_; unfold qm_X13_waitsFor_4
        rw [nI_1]
        exact ih (c + 1) y2 (by omega) hI2 hb2
      have inn : ∀ (d i : Nat) (y : ow_MS), i + d = rn_b A (c + 1) → rn_b A c ≤ i → I y → rn_At y 3000 (wfW A σ c) ((wfB A σ c i).map (vAt A)) → Tt (fun K i9 => q_X13_waitsFor K i9 2 (bZ b) (nI at9) (nI c) (nI (wfB A σ c i).length) (nI i) n y) Q := by
        intro d
        induction d with
        | zero =>
          intro i y hi hlo hI hb
          have hie : i = rn_b A (c + 1) := by omega
          rw [hie] at hb ⊢
          have hwl := wf_len (A := A) (σ := σ) m1
          have hwn := wfI_n (A := A) (σ := σ) c
          refine u_X13_waitsFor_2 ?_; unfold qm_X13_waitsFor_2
          rw [nI_1]
          refine w_rdI (pl3 hn) rfl (by omega) (lk_b (oI hI).1 (by omega)) (w_leT (by omega) (Nat.le_refl _) (w_le (b := 0) (by omega) (by omega) (fun h0 => c4 _ _ y hI ?_) (fun h0 => w_cs0 (tn_end pn3 hb (by unfold wfW; rw [List.length_map]; omega)) (fun y2 ⟨g1, g2⟩ => c4 _ _ y2 (stI hI g2 (fun g hg => by omega)) ?_))))
          · have e0 : wfB A σ c (rn_b A (c + 1)) = [] := List.eq_nil_of_length_eq_zero (by omega)
            rw [e0] at hb
            unfold wfW
            rw [wfI, e0, if_pos List.isEmpty_nil]
            exact hb
          · have e0 : ¬ (wfB A σ c (rn_b A (c + 1))).isEmpty = true := fun e => by
              rw [List.isEmpty_iff.mp e] at h0
              exact absurd h0 (by show ¬ (0 < 0); omega)
            unfold wfW
            rw [wfI, if_neg e0, List.map_append]
            exact g1
        | succ d ihd =>
          intro i y hi hlo hI hb
          have hil : i < A.flatten.length := by omega
          have hwl := wf_len (A := A) (σ := σ) hlo
          refine u_X13_waitsFor_2 ?_; unfold qm_X13_waitsFor_2
          rw [nI_1, nI_1]
          refine w_rdI (pl3 hn) rfl (by omega) (lk_b (oI hI).1 (by omega)) (w_leF (by omega) (by omega) (w_rdI ml38 rfl (by omega) (by rw [e38 hI]) (w_if (fun h9 => w_rdI (pl4 hn) rfl (by omega) (lk_cu (oI hI).1 hil).1 (w_rdI (pl5 hn) rfl (by omega) (lk_cu (oI hI).1 hil).2 (w_cs0 (tn_add pn3 hb (by unfold wfW; rw [List.length_append, fl_map, List.length_map, List.length_map]; omega)) (fun y2 ⟨g1, g2⟩ => ?_)))) (fun h9 => ?_))))
          · refine u_X13_waitsFor_3 ?_; unfold qm_X13_waitsFor_3
            rw [nI_1]
            have es : wfB A σ c (i + 1) = wfB A σ c i ++ [i] := by
              rw [wfB_s hlo, if_pos (decide_eq_true h9)]
            have := ihd (i + 1) y2 (by omega) (by omega) (stI hI g2 (fun g hg => by omega)) (by rw [es, List.map_append]; exact g1)
            rw [es, List.length_append] at this
            exact this
          · refine u_X13_waitsFor_3 ?_; unfold qm_X13_waitsFor_3
            rw [nI_1]
            have es : wfB A σ c (i + 1) = wfB A σ c i := by
              rw [wfB_s hlo, if_neg (fun e => h9 (of_decide_eq_true e))]
            have := ihd (i + 1) y (by omega) (by omega) hI (by rw [es]; exact hb)
            rw [es] at this
            exact this
      refine u_X13_waitsFor_1 ?_; unfold qm_X13_waitsFor_1
      refine w_rdF (lk_C (oI hI).1) (w_leF (by omega) (by omega) (w_rdI (pl3 hn) rfl (by omega) (lk_b (oI hI).1 (by omega)) ?_))
      have := inn (rn_b A (c + 1) - rn_b A c) (rn_b A c) y (by omega) (Nat.le_refl _) hI (by rw [wfB_0]; exact hb)
      rw [wfB_0] at this
      exact this
  refine out A.length 0 z4 (by omega) ⟨fr_tr (fr_mono (fun g hg => by omega) f3) (fr_mono (fun g hg => by omega) f4), fun x hx => ?_⟩ (fr_At f4 (fun g hg => by omega) b3)
  rw [show z4.2.1 3006 x = z3.2.1 (n + 6) x from s4 x hx, (f3 (n + 6) (by omega)).2.1]
end XSQ
end
section
/-! 99zzzzzzzzzzzzx.xsu6 -/
/-! the two pieces of a parted list -/
def sg9 (a b : Nat) : List Nat := (List.range b).filter (fun j => decide (a ≤ j))
section XSR
variable {A : rn_L} {sg : Nat → Bool} {σ : Nat → Bool} {f : Nat → Nat} {T : ow_NT}
theorem sg9_0 {a : Nat} : sg9 a a = [] := by
  unfold sg9
  refine List.filter_eq_nil_iff.mpr (fun j hj => ?_)
  have := List.mem_range.mp hj
  rw [decide_eq_false (by omega)]
  decide
theorem sg9_s {a b : Nat} (h : a ≤ b) : sg9 a (b + 1) = sg9 a b ++ [b] := by
  unfold sg9
  rw [List.range_succ, List.filter_append, List.filter_cons_of_pos (p := fun j => decide (a ≤ j)) (a := b) (decide_eq_true h)]
  rfl
theorem sg9_m {a b j : Nat} : j ∈ sg9 a b ↔ a ≤ j ∧ j < b := by
  unfold sg9
  rw [List.mem_filter, List.mem_range, decide_eq_true_iff]
  exact ⟨fun h => ⟨h.2, h.1⟩, fun h => ⟨h.2, h.1⟩⟩
theorem sg9_app {a b : Nat} (h : a ≤ b) : ∀ d, sg9 a (b + d) = sg9 a b ++ sg9 b (b + d)
  | 0 => by
    rw [Nat.add_zero, sg9_0, List.append_nil]
  | d + 1 => by
    rw [show b + (d + 1) = b + d + 1 by omega, sg9_s (by omega), sg9_app h d, sg9_s (by omega), List.append_assoc]
theorem sg9_ap {a b c : Nat} (h : a ≤ b) (h2 : b ≤ c) : sg9 a c = sg9 a b ++ sg9 b c := by
  have := sg9_app h (c - b)
  rw [show b + (c - b) = c by omega] at this
  exact this
theorem sg9_nd {a b : Nat} : (sg9 a b).Nodup := nodup_filter List.nodup_range
theorem wfB_sg {c i : Nat} : wfB A σ c i = (sg9 (rn_b A c) i).filter σ := by
  unfold wfB sg9
  rw [List.filter_filter]
  refine List.filter_congr (fun j _ => ?_)
  rw [Bool.and_comm]
theorem fil_all {l : List Nat} (h : ∀ j, j ∈ l → σ j = true) : l.filter σ = l := List.filter_eq_self.mpr h
theorem fil_3 (U V W : List Nat) : (U ++ (V ++ W)).filter σ = U.filter σ ++ (V.filter σ ++ W.filter σ) := by rw [List.filter_append, List.filter_append]
theorem fil_no {l : List Nat} (h : ∀ j, j ∈ l → σ j = false) : l.filter σ = [] := List.filter_eq_nil_iff.mpr (fun j hj => by rw [h j hj]; decide)
/-- the ring k as it stands in the list -/
theorem ring_sg : ∀ (A : rn_L) (k : Nat), k < A.length → ∃ L, L ∈ A ∧ (sg9 (rn_b A k) (rn_b A (k + 1))).map (vAt A) = L := by
  intro A k hk
  refine ⟨A[k], List.getElem_mem hk, ?_⟩
  have e1 : rn_b A (k + 1) = rn_b A k + A[k].length := by
    unfold rn_b
    rw [List.take_succ_eq_append_getElem hk, List.flatten_append, List.length_append, List.flatten_cons, List.flatten_nil, List.append_nil]
  have at9 : ∀ i, i < A[k].length → vAt A (rn_b A k + i) = A[k][i]! := fun i hi => by
    have e2 : A.flatten = (A.take k).flatten ++ (A[k] ++ (A.drop (k + 1)).flatten) := by
      rw [← List.flatten_cons, ← List.flatten_append, ← List.drop_eq_getElem_cons hk, List.take_append_drop]
    have e3 : A.flatten[rn_b A k + i]? = some A[k][i] := by
      rw [e2, List.getElem?_append_right (by unfold rn_b; omega), show rn_b A k + i - (A.take k).flatten.length = i by unfold rn_b; omega, List.getElem?_append_left hi, List.getElem?_eq_getElem hi]
    rw [vAt_eq e3, getElem!_pos A[k] i hi]
  have sh : ∀ d, sg9 (rn_b A k) (rn_b A k + d) = (List.range d).map (fun i => rn_b A k + i) := by
    intro d
    induction d with
    | zero =>
      rw [Nat.add_zero, sg9_0]
      rfl
    | succ d ih => rw [show rn_b A k + (d + 1) = rn_b A k + d + 1 by omega, sg9_s (by omega), ih, List.range_succ, List.map_append]; rfl
  rw [e1, sh, List.map_map]
  refine List.ext_getElem (by rw [List.length_map, List.length_range]) (fun i h1 h2 => ?_)
  rw [List.getElem_map, List.getElem_range]
  show vAt A (rn_b A k + i) = _
  rw [at9 i h2, getElem!_pos A[k] i h2]
theorem wfW_in {L : List vT} : ∀ n, L ∈ wfW A σ n → ∃ k, k < n ∧ L = ((sg9 (rn_b A k) (rn_b A (k + 1))).filter σ).map (vAt A) ∧ (sg9 (rn_b A k) (rn_b A (k + 1))).filter σ ≠ []
  | 0, h => by
    exact absurd h List.not_mem_nil
  | n + 1, h => by
    have h : L ∈ (wfI A σ (n + 1)).map (List.map (vAt A)) := h
    rw [wfI, wfB_sg] at h
    by_cases e : ((sg9 (rn_b A n) (rn_b A (n + 1))).filter σ).isEmpty = true
    · rw [if_pos e] at h
      obtain ⟨k, k1, k2⟩ := wfW_in n h
      exact ⟨k, by omega, k2⟩
    · rw [if_neg e, List.map_append] at h
      rcases List.mem_append.mp h with h | h
      · obtain ⟨k, k1, k2⟩ := wfW_in n h
        exact ⟨k, by omega, k2⟩
      · have h : L ∈ [((sg9 (rn_b A n) (rn_b A (n + 1))).filter σ).map (vAt A)] := h
        exact ⟨n, by omega, List.mem_singleton.mp h, fun e9 => e (by rw [e9]; rfl)⟩
theorem em_to (h : emN A sg f T) : (∀ p, p ∈ A.flatten → f p.1 < T.1) ∧ (∀ p q, p ∈ A.flatten → q ∈ A.flatten → f p.1 = f q.1 → p.1 = q.1) ∧ shw T.2.2.1.1 (gl f) A ∧ (∀ p, p ∈ A.flatten → (T.2.2.2 (f p.1) < 0 ↔ sg p.1 = true)) := by
  obtain ⟨h1, h2, h3, h4, h5, h6, h7, h8⟩ := h
  refine ⟨fun p hp => ?_, fun p q hp hq => ?_, (shw_iff h1.1).mpr h6, fun p hp => ?_⟩
  · obtain ⟨v, hv, rfl⟩ := mem_vAt hp
    exact h4 v hv
  · obtain ⟨v, hv, rfl⟩ := mem_vAt hp
    obtain ⟨w, hw, rfl⟩ := mem_vAt hq
    exact h5 v w hv hw
  · obtain ⟨v, hv, rfl⟩ := mem_vAt hp
    exact h7 v hv
theorem em_of (h1 : wkF A.flatten) (h2 : A.flatten.length ≤ 2 * T.1) (h3 : T.1 ≤ 12) (h4 : ∀ p, p ∈ A.flatten → f p.1 < T.1) (h5 : ∀ p q, p ∈ A.flatten → q ∈ A.flatten → f p.1 = f q.1 → p.1 = q.1) (h6 : shw T.2.2.1.1 (gl f) A) (h7 : ∀ p, p ∈ A.flatten → (T.2.2.2 (f p.1) < 0 ↔ sg p.1 = true)) : emN A sg f T := ⟨h1, h2, h3, fun v hv => h4 _ (vAt_mem hv), fun v w hv hw => h5 _ _ (vAt_mem hv) (vAt_mem hw), fun v hv => (shw_iff h1.1).mp h6 v hv, fun v hv => h7 _ (vAt_mem hv), trivial⟩
theorem gl_inj (h : emN A sg f T) {p q : vT} (hp : p ∈ A.flatten) (hq : q ∈ A.flatten) (e : gl f p = gl f q) : p = q := by
  have u1 := (h.1.2 p hp).2.1
  have u2 := (h.1.2 q hq).2.1
  have e : 2 * f p.1 + p.2 = 2 * f q.1 + q.2 := e
  exact Prod.ext ((em_to h).2.1 p q hp hq (by omega)) (by omega)
/-- rings of the two pieces -/
theorem shw_prt (h : emN A sg f T) {c g k : Nat} (hc : c < A.length) (hg1 : rn_b A c ≤ g) (hgh : g < k) (hh : k < rn_b A (c + 1)) (hs1 : (∀ v, rn_b A c ≤ v → v < rn_b A (c + 1) → (σ v = true ↔ g < v ∧ v ≤ k)) ∨ ∀ v, rn_b A c ≤ v → v < rn_b A (c + 1) → (σ v = true ↔ ¬ (g < v ∧ v ≤ k))) (hs2 : ∀ a b, a < A.flatten.length → b < A.flatten.length → rn_c A a = rn_c A b → rn_c A a ≠ c → σ a = σ b) : shw (exN T.2.2.1.1 (lbv A f g) (lbv A f k)) (gl f) (wfW A σ A.length) := by
  intro L hL p hp
  obtain ⟨r, r1, r2, r3⟩ := wfW_in _ hL
  obtain ⟨R, R1, R2⟩ := ring_sg A r r1
  have hle := rn_b_le A (r + 1)
  have hle2 := rn_b_le A (c + 1)
  have inF : ∀ j, j < A.flatten.length → vAt A j ∈ A.flatten := fun j hj => vAt_mem hj
  have hsh := (em_to h).2.2.1
  have hnd : R.Nodup := L_nd h.1.1 R1
  have vinj : ∀ i j, i < A.flatten.length → j < A.flatten.length → vAt A i = vAt A j → i = j := fun i j hi hj e => nodup_at h.1.1 (vAt_of hi) (by rw [e]; exact vAt_of hj)
  have other : ∀ q, q ∈ A.flatten → q ≠ vAt A g → q ≠ vAt A k → exN T.2.2.1.1 (lbv A f g) (lbv A f k) (gl f q) = T.2.2.1.1 (gl f q) := fun q hq n1 n2 => exN_o (fun e => n1 (gl_inj h hq (inF g (by omega)) e)) (fun e => n2 (gl_inj h hq (inF k (by omega)) e))
  by_cases e : r = c
  · rw [e] at r2 r3 R2
    have sp : sg9 (rn_b A c) (rn_b A (c + 1)) = (sg9 (rn_b A c) g ++ [g]) ++ ((sg9 (g + 1) k ++ [k]) ++ sg9 (k + 1) (rn_b A (c + 1))) := by
      rw [sg9_ap (b := g + 1) (by omega) (by omega), sg9_s hg1, sg9_ap (a := g + 1) (b := k + 1) (by omega) (by omega), sg9_s (by omega)]
    rw [sp, List.map_append, List.map_append, List.map_append, List.map_append] at R2
    generalize hX : (sg9 (rn_b A c) g).map (vAt A) = X at R2
    generalize hY : (sg9 (g + 1) k).map (vAt A) = Y at R2
    generalize hZ : (sg9 (k + 1) (rn_b A (c + 1))).map (vAt A) = Z at R2
    have R2 : (X ++ [vAt A g]) ++ ((Y ++ [vAt A k]) ++ Z) = R := R2
    have nk : vAt A g ≠ vAt A k := fun e9 => by
      have := vinj g k (by omega) (by omega) e9
      omega
    have rot : ∀ q, q ∈ R → sc (((Z ++ X) ++ [vAt A g]) ++ (Y ++ [vAt A k])) q = sc R q := fun q hq => by
      have e1 : R = ((X ++ [vAt A g]) ++ (Y ++ [vAt A k])) ++ Z := by
        rw [← R2]
        simp only [List.append_assoc]
      have := sc_rot (p := q) (X := (X ++ [vAt A g]) ++ (Y ++ [vAt A k])) (Y := Z) (by rw [← e1]; exact hnd) (by rw [← e1]; exact hq)
      rw [← e1] at this
      rw [← this]
      simp only [List.append_assoc]
    have nd2 : (((Z ++ X) ++ [vAt A g]) ++ (Y ++ [vAt A k])).Nodup := by
      have e1 : R = ((X ++ [vAt A g]) ++ (Y ++ [vAt A k])) ++ Z := by
        rw [← R2]
        simp only [List.append_assoc]
      have := nd_rot (X := (X ++ [vAt A g]) ++ (Y ++ [vAt A k])) (Y := Z) (by rw [← e1]; exact hnd)
      simp only [List.append_assoc] at this ⊢
      exact this
    have mR : ∀ q, q ∈ R ↔ q ∈ X ∨ q = vAt A g ∨ q ∈ Y ∨ q = vAt A k ∨ q ∈ Z := fun q => by
      rw [← R2, List.mem_append, List.mem_append, List.mem_append, List.mem_append, List.mem_singleton, List.mem_singleton, or_assoc, or_assoc]
    have gR : vAt A g ∈ R := (mR _).mpr (Or.inr (Or.inl rfl))
    have kR : vAt A k ∈ R := (mR _).mpr (Or.inr (Or.inr (Or.inr (Or.inl rfl))))
    have Nat9 : ∀ q, q ∈ R → q ∈ A.flatten := fun q hq => List.mem_flatten.mpr ⟨R, R1, hq⟩
    have at_g : exN T.2.2.1.1 (lbv A f g) (lbv A f k) (gl f (vAt A g)) = gl f (sc R (vAt A k)) := by
      show exN T.2.2.1.1 (gl f (vAt A g)) (gl f (vAt A k)) (gl f (vAt A g)) = _
      rw [exN_v (fun e9 => nk (gl_inj h (Nat9 _ gR) (Nat9 _ kR) e9))]
      exact hsh R R1 _ kR
    have at_k : exN T.2.2.1.1 (lbv A f g) (lbv A f k) (gl f (vAt A k)) = gl f (sc R (vAt A g)) := by
      show exN T.2.2.1.1 (gl f (vAt A g)) (gl f (vAt A k)) (gl f (vAt A k)) = _
      rw [exN_w]
      exact hsh R R1 _ gR
    rcases hs1 with hs1 | hs1
    · have eL : L = Y ++ [vAt A k] := by
        rw [r2, sp, fil_3, fil_no (l := sg9 (rn_b A c) g ++ [g]) (fun j hj => ?_), fil_all (l := sg9 (g + 1) k ++ [k]) (fun j hj => ?_), fil_no (l := sg9 (k + 1) (rn_b A (c + 1))) (fun j hj => ?_), List.nil_append, List.append_nil, List.map_append, hY]
        · rfl
        · have hj := sg9_m.mp hj
          exact Bool.eq_false_iff.mpr (fun e9 => by have := (hs1 j (by omega) (by omega)).mp e9; omega)
        · have hj : g + 1 ≤ j ∧ j < k ∨ j = k := by
            rcases List.mem_append.mp hj with hj | hj
            · exact Or.inl (sg9_m.mp hj)
            · exact Or.inr (List.mem_singleton.mp hj)
          exact (hs1 j (by omega) (by omega)).mpr (by omega)
        · have hj : rn_b A c ≤ j ∧ j < g ∨ j = g := by
            rcases List.mem_append.mp hj with hj | hj
            · exact Or.inl (sg9_m.mp hj)
            · exact Or.inr (List.mem_singleton.mp hj)
          exact Bool.eq_false_iff.mpr (fun e9 => by have := (hs1 j (by omega) (by omega)).mp e9; omega)
      rw [eL] at hp ⊢
      have pR : p ∈ R := (mR p).mpr (by
        rcases List.mem_append.mp hp with hp | hp
        · exact Or.inr (Or.inr (Or.inl hp))
        · exact Or.inr (Or.inr (Or.inr (Or.inl (List.mem_singleton.mp hp)))))
      have ng : p ≠ vAt A g := fun e9 => (List.nodup_append.mp nd2).2.2 (vAt A g) (List.mem_append.mpr (Or.inr (List.mem_singleton.mpr rfl))) p hp e9.symm
      rw [sc_spl2 nd2 hp]
      by_cases ek : p = vAt A k
      · rw [if_pos ek, rot _ gR, ek, at_k]
      · rw [if_neg ek, rot _ pR, other p (Nat9 p pR) ng ek]
        exact hsh R R1 p pR
    · have eL : L = (X ++ [vAt A g]) ++ Z := by
        rw [r2, sp, fil_3, fil_all (l := sg9 (rn_b A c) g ++ [g]) (fun j hj => ?_), fil_no (l := sg9 (g + 1) k ++ [k]) (fun j hj => ?_), fil_all (l := sg9 (k + 1) (rn_b A (c + 1))) (fun j hj => ?_), List.nil_append, List.map_append, List.map_append, hX, hZ]
        · rfl
        · have hj := sg9_m.mp hj
          exact (hs1 j (by omega) (by omega)).mpr (by omega)
        · have hj : g + 1 ≤ j ∧ j < k ∨ j = k := by
            rcases List.mem_append.mp hj with hj | hj
            · exact Or.inl (sg9_m.mp hj)
            · exact Or.inr (List.mem_singleton.mp hj)
          exact Bool.eq_false_iff.mpr (fun e9 => by have := (hs1 j (by omega) (by omega)).mp e9; omega)
        · have hj : rn_b A c ≤ j ∧ j < g ∨ j = g := by
            rcases List.mem_append.mp hj with hj | hj
            · exact Or.inl (sg9_m.mp hj)
            · exact Or.inr (List.mem_singleton.mp hj)
          exact (hs1 j (by omega) (by omega)).mpr (by omega)
      have ndL : L.Nodup := by
        rw [r2]
        exact nodup_map (nodup_filter sg9_nd) (fun i j hi hj e9 => vinj i j (by have := sg9_m.mp (List.mem_filter.mp hi).1; omega) (by have := sg9_m.mp (List.mem_filter.mp hj).1; omega) e9)
      rw [eL] at hp ndL ⊢
      have hp2 : p ∈ (Z ++ X) ++ [vAt A g] := by
        rw [List.append_assoc]
        exact List.mem_append.mpr ((List.mem_append.mp hp).symm)
      have pR : p ∈ R := (mR p).mpr (by
        rcases List.mem_append.mp hp with hp | hp
        · rcases List.mem_append.mp hp with hp | hp
          · exact Or.inl hp
          · exact Or.inr (Or.inl (List.mem_singleton.mp hp))
        · exact Or.inr (Or.inr (Or.inr (Or.inr hp))))
      have nk2 : p ≠ vAt A k := fun e9 => (List.nodup_append.mp nd2).2.2 p hp2 (vAt A k) (List.mem_append.mpr (Or.inr (List.mem_singleton.mpr rfl))) e9
      rw [← sc_rot ndL hp, ← List.append_assoc, sc_spl1 nd2 hp2]
      by_cases eg : p = vAt A g
      · rw [if_pos eg, rot _ kR, eg, at_g]
      · rw [if_neg eg, rot _ pR, other p (Nat9 p pR) eg nk2]
        exact hsh R R1 p pR
  · have cR : ∀ j, j ∈ sg9 (rn_b A r) (rn_b A (r + 1)) → j < A.flatten.length ∧ rn_c A j = r := fun j hj => by
      have hj := sg9_m.mp hj
      exact ⟨by omega, rn_c_of A r j hj.1 hj.2⟩
    have all : ∀ j, j ∈ sg9 (rn_b A r) (rn_b A (r + 1)) → σ j = true := fun j hj => by
      obtain ⟨i, hi⟩ := List.exists_mem_of_ne_nil _ r3
      obtain ⟨i1, i2⟩ := List.mem_filter.mp hi
      rw [← i2]
      exact hs2 j i (cR j hj).1 (cR i i1).1 (by rw [(cR j hj).2, (cR i i1).2]) (by rw [(cR j hj).2]; exact e)
    rw [fil_all all, R2] at r2
    rw [r2] at hp ⊢
    have hpF : p ∈ A.flatten := List.mem_flatten.mpr ⟨R, R1, hp⟩
    have off : ∀ j, rn_b A c ≤ j → j < rn_b A (c + 1) → p ≠ vAt A j := fun j j1 j2 e9 => by
      rw [← R2] at hp
      obtain ⟨i, i1, i2⟩ := List.mem_map.mp hp
      have := vinj i j (cR i i1).1 (by omega) (i2.trans e9)
      rw [this] at i1
      exact e ((cR j i1).2.symm.trans (rn_c_of A c j j1 j2))
    rw [other p hpF (off g hg1 (by omega)) (off k (by omega) hh)]
    exact hsh R R1 p hp
end XSR
end
section
/-! 99zzzzzzzzzzzzy.xsu7 -/
/-! a list can be parted where its part of the net can -/
section XST
variable {A : rn_L} {sg : Nat → Bool} {σ : Nat → Bool} {f : Nat → Nat} {T : ow_NT} {c g k : Nat}
theorem wfW_el {p : vT} (h : p ∈ (wfW A σ A.length).flatten) : ∃ j, j < A.flatten.length ∧ σ j = true ∧ vAt A j = p := by
  unfold wfW at h
  rw [fl_map] at h
  obtain ⟨j, hj, e⟩ := List.mem_map.mp h
  have := (wfI_m _).mp hj
  rw [rn_b_len] at this
  exact ⟨j, this.1, this.2, e⟩
theorem wfW_le {j : Nat} (h1 : j < A.flatten.length) (h2 : σ j = true) : vAt A j ∈ (wfW A σ A.length).flatten := by
  unfold wfW
  rw [fl_map]
  exact List.mem_map.mpr ⟨j, (wfI_m _).mpr ⟨by rw [rn_b_len]; exact h1, h2⟩, rfl⟩
/-- what the two pieces are -/
def prS (A : rn_L) (c g k : Nat) (σ : Nat → Bool) : Prop := ((∀ v, rn_b A c ≤ v → v < rn_b A (c + 1) → (σ v = true ↔ g < v ∧ v ≤ k)) ∨ ∀ v, rn_b A c ≤ v → v < rn_b A (c + 1) → (σ v = true ↔ ¬ (g < v ∧ v ≤ k))) ∧ (∀ a b, a < A.flatten.length → b < A.flatten.length → rn_c A a = rn_c A b → rn_c A a ≠ c → σ a = σ b) ∧ ∀ v, v < A.flatten.length → σ v = true → σ (mtf A v) = true
theorem prS_not (h : prS A c g k σ) (hd : rn_ok A.flatten) : prS A c g k (fun v => !σ v) := by
  obtain ⟨h1, h2, h3⟩ := h
  have key : ∀ {b : Bool} {P : Prop}, (b = true ↔ P) → ((!b) = true ↔ ¬ P) := fun {b P} h => by
    rw [← h]
    cases b <;> decide
  refine ⟨?_, fun a b ha hb e1 e2 => congrArg (fun b => !b) (h2 a b ha hb e1 e2), fun v hv e => ?_⟩
  · rcases h1 with h1 | h1
    · exact Or.inr (fun v a b => key (h1 v a b))
    · refine Or.inl (fun v a b => (key (h1 v a b)).trans ?_)
      omega
  · have e : (!σ v) = true := e
    show (!σ (mtf A v)) = true
    cases e9 : σ (mtf A v) with
    | false => rfl
    | true =>
      have := h3 _ (mtf_lt hd hv) e9
      rw [mtf_mtf hd hv] at this
      rw [this] at e
      exact e
theorem em_prt (h : emN A sg f T) (hc : c < A.length) (hg1 : rn_b A c ≤ g) (hgh : g < k) (hh : k < rn_b A (c + 1)) (hs : prS A c g k σ) : emN (wfW A σ A.length) sg f (ntS T (np_exchange T.2.2.1 (lbv A f g) (lbv A f k))) := by
  obtain ⟨t1, t2, t3, t4⟩ := em_to h
  have sub : ∀ p, p ∈ (wfW A σ A.length).flatten → p ∈ A.flatten := fun p hp => by
    obtain ⟨j, j1, _, rfl⟩ := wfW_el hp
    exact vAt_mem j1
  refine em_of (wfW_wk h.1 hs.2.2) ?_ h.2.2.1 (fun p hp => t1 p (sub p hp)) (fun p q hp hq => t2 p q (sub p hp) (sub q hq)) (shw_prt h hc hg1 hgh hh hs.1 hs.2.1) (fun p hp => t4 p (sub p hp))
  have := wf_len (A := A) (σ := σ) (c := A.length) (i := A.flatten.length) (by rw [rn_b_len]; exact Nat.le_refl _)
  have h2 := h.2.1
  show (wfW A σ A.length).flatten.length ≤ 2 * T.1
  unfold wfW
  rw [fl_map, List.length_map]
  omega
theorem em_nx (h : emN A sg f T) {r v : Nat} (h1 : rn_b A r ≤ v) (h2 : v + 1 < rn_b A (r + 1)) : T.2.2.1.1 (lbv A f v) = lbv A f (v + 1) := by
  have hle := rn_b_le A (r + 1)
  rw [h.2.2.2.2.2.1 v (by omega)]
  unfold rn_nx
  rw [rn_c_of A r v h1 (by omega), if_pos h2]
theorem em_it (h : emN A sg f T) {r v : Nat} (h1 : rn_b A r ≤ v) : ∀ i, v + i < rn_b A (r + 1) → it T.2.2.1.1 i (lbv A f v) = lbv A f (v + i)
  | 0, _ => rfl
  | i + 1, hi => by
    show T.2.2.1.1 (it T.2.2.1.1 i (lbv A f v)) = _
    rw [em_it h h1 i (by omega), em_nx h (r := r) (by omega) (by omega)]
    rfl
/-- chosen visits go to chosen visits -/
theorem prt_go (h : emN A sg f T) (hc : c < A.length) (hg1 : rn_b A c ≤ g) (hgh : g < k) (hh : k < rn_b A (c + 1)) (hs : prS A c g k σ) {v : Nat} (hv : v < A.flatten.length) (e : σ v = true) : ∃ j, j < A.flatten.length ∧ σ j = true ∧ exN T.2.2.1.1 (lbv A f g) (lbv A f k) (lbv A f v) = lbv A f j := by
  obtain ⟨L, hL, hp⟩ := List.mem_flatten.mp (wfW_le hv e)
  have hnd : L.Nodup := L_nd (wfW_wk h.1 hs.2.2).1 hL
  obtain ⟨j, j1, j2, j3⟩ := wfW_el (List.mem_flatten.mpr ⟨L, hL, sc_in hp hnd⟩)
  refine ⟨j, j1, j2, ?_⟩
  have := shw_prt h hc hg1 hgh hh hs.1 hs.2.1 L hL _ hp
  rw [← j3] at this
  exact this
theorem pr_of (h : emN A sg f T) (hv : vn T.1 T.2.2.1) (hc : c < A.length) (hg1 : rn_b A c ≤ g) (hgh : g < k) (hh : k < rn_b A (c + 1)) (hs : prS A c g k σ) : prN T.1 T.2.2.1.1 (lbv A f g) (lbv A f k) := by
  have hle := rn_b_le A (c + 1)
  have gl' : g < A.flatten.length := by omega
  have kl : k < A.flatten.length := by omega
  have hd := wkF_ok h.1
  refine ⟨em_lt h gl', em_lt h kl, fun e => ?_, ⟨k - g, ?_⟩, fun p => ?_⟩
  · have := em_inj h gl' kl e
    omega
  · rw [em_it h hg1 (k - g) (by omega), show g + (k - g) = k by omega]
  · have hdec : DecidablePred (fun j => ∃ v, v < A.flatten.length ∧ σ v = true ∧ lbv A f v = j) := fun j => Classical.propDecidable _
    have hs' := prS_not hs hd
    have key := p (fun j => if ∃ v, v < A.flatten.length ∧ σ v = true ∧ lbv A f v = j then 1 else 0) (fun j hj => ?_)
    · have iff9 : ∀ v, v < A.flatten.length → ((∃ u, u < A.flatten.length ∧ σ u = true ∧ lbv A f u = lbv A f v) ↔ σ v = true) := fun v hv => ⟨fun ⟨u, u1, u2, u3⟩ => by rw [← em_inj h u1 hv u3]; exact u2, fun e => ⟨v, hv, e, rfl⟩⟩
      have dif : σ g ≠ σ k := fun e => by
        rcases hs.1 with h1 | h1
        · have a1 := h1 g hg1 (by omega)
          have a2 := (h1 k (by omega) hh).mpr ⟨hgh, Nat.le_refl _⟩
          have := a1.mp (e.trans a2)
          omega
        · have a1 := (h1 g hg1 (by omega)).mpr (by omega)
          have a2 := (h1 k (by omega) hh).mp (e.symm.trans a1)
          omega
      by_cases eg : σ g = true
      · rw [if_pos ((iff9 g gl').mpr eg)] at key
        by_cases ek : σ k = true
        · exact dif (eg.trans ek.symm)
        · rw [if_neg (fun h9 => ek ((iff9 k kl).mp h9))] at key
          exact absurd key (by decide)
      · rw [if_neg (fun h9 => eg ((iff9 g gl').mp h9))] at key
        by_cases ek : σ k = true
        · rw [if_pos ((iff9 k kl).mpr ek)] at key
          exact absurd key (by decide)
        · exact dif (by rw [Bool.eq_false_iff.mpr eg, Bool.eq_false_iff.mpr ek])
    · have eqv : ∀ {P Q : Prop} [Decidable P] [Decidable Q], (P ↔ Q) → (if P then (1 : Nat) else 0) = if Q then 1 else 0 := fun {P Q} _ _ h => by
        by_cases hp : P
        · rw [if_pos hp, if_pos (h.mp hp)]
        · rw [if_neg hp, if_neg (fun q => hp (h.mpr q))]
      refine ⟨eqv ⟨?_, ?_⟩, eqv ⟨?_, ?_⟩⟩
      · rintro ⟨v, v1, v2, v3⟩
        refine Classical.byContradiction (fun h9 => ?_)
        by_cases hin : ∃ u, u < A.flatten.length ∧ lbv A f u = j
        · obtain ⟨u, u1, u2⟩ := hin
          have hu : (!σ u) = true := by
            cases e : σ u with
            | false => rfl
            | true => exact absurd ⟨u, u1, e, u2⟩ h9
          obtain ⟨i, i1, i2, i3⟩ := prt_go h hc hg1 hgh hh hs' u1 hu
          rw [u2, ← v3] at i3
          rw [← em_inj h v1 i1 i3, v2] at i2
          exact absurd i2 (by decide)
        · have n1 : j ≠ lbv A f g := fun e => hin ⟨g, gl', e.symm⟩
          have n2 : j ≠ lbv A f k := fun e => hin ⟨k, kl, e.symm⟩
          rw [exN_o n1 n2, ← nx_pv v1, ← h.2.2.2.2.2.1 _ (rn_pv_lt v1)] at v3
          exact hin ⟨rn_pv A v, rn_pv_lt v1, (bj_vn hv).2 _ _ (em_lt h (rn_pv_lt v1)) hj v3⟩
      · rintro ⟨v, v1, v2, v3⟩
        obtain ⟨i, i1, i2, i3⟩ := prt_go h hc hg1 hgh hh hs v1 v2
        rw [v3] at i3
        exact ⟨i, i1, i2, i3.symm⟩
      · rintro ⟨v, v1, v2, v3⟩
        obtain ⟨m1, m2, m3, m4⟩ := em_mt h v1
        refine ⟨mtf A v, m1, hs.2.2 v v1 v2, ?_⟩
        rw [m3, v3]
        exact mt_mt j
      · rintro ⟨v, v1, v2, v3⟩
        obtain ⟨m1, m2, m3, m4⟩ := em_mt h v1
        exact ⟨mtf A v, m1, hs.2.2 v v1 v2, by rw [m3, v3]⟩
theorem pr_no (h : emN A sg f T) (hc : c < A.length) (hg1 : rn_b A c ≤ g) (hgh : g < k) (hh : k < rn_b A (c + 1)) (hz : ∀ M, gdM A c g k M → ∃ u, u < A.flatten.length ∧ rn_c A u = c ∧ ¬ (g < u ∧ u ≤ k) ∧ M u = M k) : ¬ prN T.1 T.2.2.1.1 (lbv A f g) (lbv A f k) := by
  intro hp
  have hle := rn_b_le A (c + 1)
  have gl' : g < A.flatten.length := by omega
  have kl : k < A.flatten.length := by omega
  obtain ⟨m, hm, hd⟩ := sepE hp.2.2.2.2
  have go : ∀ v, v < A.flatten.length → v ≠ g → v ≠ k → m (lbv A f (rn_nx A v)) = m (lbv A f v) := fun v hv n1 n2 => by
    have := (hm _ (em_lt h hv)).1
    rw [exN_o (fun e => n1 (em_inj h hv gl' e)) (fun e => n2 (em_inj h hv kl e)), h.2.2.2.2.2.1 v hv] at this
    exact this
  have ch : ∀ (r a d : Nat), rn_b A r ≤ a → a + d < rn_b A (r + 1) → (∀ v, a ≤ v → v < a + d → v ≠ g ∧ v ≠ k) → m (lbv A f (a + d)) = m (lbv A f a) := by
    intro r a d
    induction d with
    | zero => exact fun _ _ _ => rfl
    | succ d ih =>
      intro h1 h2 h3
      have hl2 := rn_b_le A (r + 1)
      have := go (a + d) (by omega) (h3 _ (by omega) (by omega)).1 (h3 _ (by omega) (by omega)).2
      unfold rn_nx at this
      rw [rn_c_of A r (a + d) (by omega) (by omega), if_pos (by omega)] at this
      exact this.trans (ih h1 (by omega) (fun v v1 v2 => h3 v v1 (by omega)))
  have cg : rn_c A g = c := rn_c_of A c g hg1 (by omega)
  have ck : rn_c A k = c := rn_c_of A c k (by omega) hh
  obtain ⟨u, u1, u2, u3, u4⟩ := hz (fun v => m (lbv A f v)) ⟨fun v hv => by
    show m (lbv A f (mtf A v)) = m (lbv A f v)
    rw [(em_mt h hv).2.2.1]
    exact (hm _ (em_lt h hv)).2, fun a b ha hb e1 e2 => by
    have base : ∀ a, a < A.flatten.length → rn_c A a ≠ c → m (lbv A f a) = m (lbv A f (rn_b A (rn_c A a))) := fun a ha hn => by
      obtain ⟨q1, q2, q3⟩ := rn_c_in A a ha
      have := ch (rn_c A a) (rn_b A (rn_c A a)) (a - rn_b A (rn_c A a)) (Nat.le_refl _) (by omega) (fun v v1 v2 => by
        have e9 : rn_c A v = rn_c A a := rn_c_of A _ v v1 (by omega)
        exact ⟨fun e => hn (by rw [← e9, e, cg]), fun e => hn (by rw [← e9, e, ck])⟩)
      rw [show rn_b A (rn_c A a) + (a - rn_b A (rn_c A a)) = a by omega] at this
      exact this
    show m (lbv A f a) = m (lbv A f b)
    rw [base a ha e2, base b hb (by rw [← e1]; exact e2), e1], fun v v1 v2 => by
    have := ch c v (k - v) (by omega) (by omega) (fun x x1 x2 => by omega)
    rw [show v + (k - v) = k by omega] at this
    exact this.symm⟩
  refine hd ?_
  have u4 : m (lbv A f u) = m (lbv A f k) := u4
  rw [← u4]
  obtain ⟨q1, q2, q3⟩ := rn_c_in A u u1
  rw [u2] at q1 q2 q3
  rcases Nat.lt_or_ge k u with q | q
  · have e1 := ch c u (rn_b A (c + 1) - 1 - u) q2 (by omega) (fun x x1 x2 => by omega)
    rw [show u + (rn_b A (c + 1) - 1 - u) = rn_b A (c + 1) - 1 by omega] at e1
    have e2 := go (rn_b A (c + 1) - 1) (by omega) (by omega) (by omega)
    unfold rn_nx at e2
    rw [rn_c_of A c (rn_b A (c + 1) - 1) (by omega) (by omega), if_neg (by omega)] at e2
    have e3 := ch c (rn_b A c) (g - rn_b A c) (Nat.le_refl _) (by omega) (fun x x1 x2 => by omega)
    rw [show rn_b A c + (g - rn_b A c) = g by omega] at e3
    rw [e3, e2, e1]
  · have e1 := ch c u (g - u) q2 (by omega) (fun x x1 x2 => by omega)
    rw [show u + (g - u) = g by omega] at e1
    exact e1
end XST
end
section
/-! 99zzzzzzzzzzzzz.xsu8 -/
/-! a net of its own for a list -/
section XSU8
variable {A B E : rn_L} {sg sB sE : Nat → Bool} {f g h k : Nat → Nat} {T R : ow_NT}
/-- the crossings of a list -/
def crL (A : rn_L) : List Nat := (A.flatten.filter (fun p => decide (p.2 = 0))).map Prod.fst
theorem crL_m (hF : wkF A.flatten) {x u : Nat} (hx : (x, u) ∈ A.flatten) : x ∈ crL A := by
  unfold crL
  refine List.mem_map.mpr ⟨(x, 0), List.mem_filter.mpr ⟨?_, decide_eq_true rfl⟩, rfl⟩
  obtain ⟨h1, h2, h3⟩ := hF.2 _ hx
  have h2 : u < 2 := h2
  have h3 : (x, 1 - u) ∈ A.flatten := h3
  rcases (show u = 0 ∨ u = 1 by omega) with e | e
  · rw [e] at hx
    exact hx
  · rw [e] at h3
    exact h3
theorem crL_of {x : Nat} (h : x ∈ crL A) : (x, 0) ∈ A.flatten := by
  unfold crL at h
  obtain ⟨p, hp, e⟩ := List.mem_map.mp h
  obtain ⟨p1, p2⟩ := List.mem_filter.mp hp
  have p2 := of_decide_eq_true p2
  rw [← e, ← p2]
  exact p1
theorem crL_nd (hF : wkF A.flatten) : (crL A).Nodup := by
  unfold crL
  refine nodup_map (nodup_filter hF.1) (fun p q hp hq e => ?_)
  have p2 := of_decide_eq_true (List.mem_filter.mp hp).2
  have q2 := of_decide_eq_true (List.mem_filter.mp hq).2
  exact Prod.ext e (by rw [p2, q2])
theorem crL_len (hF : wkF A.flatten) : A.flatten.length = 2 * (crL A).length := by
  have e : ((crL A).map (fun x => (x, 0)) ++ (crL A).map (fun x => (x, 1))).length = A.flatten.length := by
    refine nodup_eq ?_ hF.1 (fun p => ?_)
    · refine List.nodup_append.mpr ⟨nodup_map (crL_nd hF) (fun a b _ _ e => (Prod.mk.inj e).1), nodup_map (crL_nd hF) (fun a b _ _ e => (Prod.mk.inj e).1), fun a ha b hb e => ?_⟩
      obtain ⟨x, _, e1⟩ := List.mem_map.mp ha
      obtain ⟨y, _, e2⟩ := List.mem_map.mp hb
      rw [← e1, ← e2] at e
      exact absurd (Prod.mk.inj e).2 (by decide)
    · rw [List.mem_append, List.mem_map, List.mem_map]
      constructor
      · rintro (⟨x, hx, e⟩ | ⟨x, hx, e⟩)
        · rw [← e]
          exact crL_of hx
        · rw [← e]
          exact (hF.2 _ (crL_of hx)).2.2
      · intro hp
        have hu : p.2 < 2 := (hF.2 p hp).2.1
        have hm : p.1 ∈ crL A := crL_m hF (u := p.2) hp
        rcases (show p.2 = 0 ∨ p.2 = 1 by omega) with e | e
        · exact Or.inl ⟨p.1, hm, Prod.ext rfl e.symm⟩
        · exact Or.inr ⟨p.1, hm, Prod.ext rfl e.symm⟩
  rw [List.length_append, List.length_map, List.length_map] at e
  omega
theorem net_of (hF : wkF A.flatten) (hl : A.flatten.length ≤ 24) (h6 : A.length ≤ 6) (sg : Nat → Bool) : ∃ f R, isoN A sg f R ∧ nv R := by
  have hlen := crL_len hF
  have ex : ∀ x, ∃ i, x ∈ crL A → (crL A)[i]? = some x := fun x => by
    by_cases hx : x ∈ crL A
    · obtain ⟨i, hi⟩ := List.getElem?_of_mem hx
      exact ⟨i, fun _ => hi⟩
    · exact ⟨0, fun h9 => absurd h9 hx⟩
  obtain ⟨f, hf⟩ := Classical.axiomOfChoice ex
  have inK : ∀ v, v < A.flatten.length → crs A v ∈ crL A := fun v hv => crL_m hF (u := uns A v) (vAt_mem hv)
  have flt : ∀ v, v < A.flatten.length → f (crs A v) < (crL A).length := fun v hv => (List.getElem?_eq_some_iff.mp (hf _ (inK v hv))).1
  have fin : ∀ v w, v < A.flatten.length → w < A.flatten.length → f (crs A v) = f (crs A w) → crs A v = crs A w := fun v w hv hw e => by
    have h1 := hf _ (inK v hv)
    have h2 := hf _ (inK w hw)
    rw [e, h2] at h1
    exact (Option.some.inj h1).symm
  have vin : ∀ v w, v < A.flatten.length → w < A.flatten.length → lbv A f v = lbv A f w → v = w := fun v w hv hw e => by
    have u1 := uns_lt hF hv
    have u2 := uns_lt hF hw
    unfold lbv at e
    have h6 : vAt A v = vAt A w := Prod.ext (fin v w hv hw (by omega)) (show uns A v = uns A w by omega)
    refine nodup_at hF.1 (vAt_of hv) ?_
    rw [h6]
    exact vAt_of hw
  have vlt : ∀ v, v < A.flatten.length → lbv A f v < 2 * (crL A).length := fun v hv => by
    have := uns_lt hF hv
    have := flt v hv
    unfold lbv
    omega
  have exN9 : ∀ j, ∃ b : Nat × Nat, b.1 < 24 ∧ b.2 < 24 ∧ ∀ v, v < A.flatten.length → lbv A f v = j → b = (lbv A f (rn_nx A v), lbv A f (rn_pv A v)) := fun j => by
    by_cases hj : ∃ v, v < A.flatten.length ∧ lbv A f v = j
    · obtain ⟨v, v1, v2⟩ := hj
      refine ⟨(lbv A f (rn_nx A v), lbv A f (rn_pv A v)), ?_, ?_, fun w w1 w2 => by rw [vin w v w1 v1 (w2.trans v2.symm)]⟩
      · have := vlt _ (rnx_lt v1)
        show lbv A f (rn_nx A v) < 24
        omega
      · have := vlt _ (rn_pv_lt v1)
        show lbv A f (rn_pv A v) < 24
        omega
    · exact ⟨(0, 0), by decide, by decide, fun v v1 v2 => absurd ⟨v, v1, v2⟩ hj⟩
  obtain ⟨N, hN⟩ := Classical.axiomOfChoice exN9
  have exG : ∀ i, ∃ b : Int32, ∀ v, v < A.flatten.length → f (crs A v) = i → (b < 0 ↔ sg (crs A v) = true) := fun i => by
    by_cases hj : ∃ v, v < A.flatten.length ∧ f (crs A v) = i
    · obtain ⟨v, v1, v2⟩ := hj
      refine ⟨if sg (crs A v) then -1 else 1, fun w w1 w2 => ?_⟩
      rw [fin w v w1 v1 (w2.trans v2.symm)]
      cases sg (crs A v) <;> decide
    · exact ⟨0, fun v v1 v2 => absurd ⟨v, v1, v2⟩ hj⟩
  obtain ⟨G, hG⟩ := Classical.axiomOfChoice exG
  let R : ow_NT := ((crL A).length, cirs A, (fun j => (N j).1, fun j => (N j).2), G)
  have hi : isoN A sg f R := ⟨hF, hlen, by show (crL A).length ≤ 12; omega, flt, fin, fun v hv => congrArg Prod.fst ((hN (lbv A f v)).2.2 v hv rfl), fun v hv => hG _ v hv rfl, rfl⟩
  have hv : vn R.1 R.2.2.1 := fun j hj => by
    obtain ⟨v, v1, v2⟩ := lbv_sur hi hj
    have e1 := (hN j).2.2 v v1 v2
    have a1 : R.2.2.1.1 j = lbv A f (rn_nx A v) := congrArg Prod.fst e1
    have a2 : R.2.2.1.2 j = lbv A f (rn_pv A v) := congrArg Prod.snd e1
    rw [a1, a2]
    refine ⟨vlt _ (rnx_lt v1), vlt _ (rn_pv_lt v1), ?_, ?_⟩
    · have := congrArg Prod.snd ((hN _).2.2 (rn_nx A v) (rnx_lt v1) rfl)
      rw [pv_nx v1, v2] at this
      exact this
    · have := congrArg Prod.fst ((hN _).2.2 (rn_pv A v) (rn_pv_lt v1) rfl)
      rw [nx_pv v1, v2] at this
      exact this
  refine ⟨f, R, hi, hv, by show (crL A).length ≤ 12; omega, ⟨fun j => (hN j).1, fun j => (hN j).2.1⟩, ?_⟩
  have := iso_rg hi
  omega
/-- what a part shows of a list, it shows of that list's code -/
theorem em_tr (hB : isoV B sB g T) (hE : isoV E sE h T) (hR : emN E sE k R) : ∃ g', emN B sB g' R ∧ ∀ p, p ∈ B.flatten → ∃ q, q ∈ E.flatten ∧ gl g' p = gl k q := by
  obtain ⟨R1, R2, R3, R4⟩ := em_to hR
  have ex : ∀ y, ∃ x, y < T.1 → ((x, 0) : vT) ∈ E.flatten ∧ ((x, 1) : vT) ∈ E.flatten ∧ h x = y := fun y => by
    by_cases hy : y < T.1
    · obtain ⟨x, x1, x2⟩ := iso_vis hE hy (u := 0) (by omega)
      obtain ⟨x', y1, y2⟩ := iso_vis hE hy (u := 1) (by omega)
      have := hE.1.2.2.2.2.1 _ _ x1 y1 (x2.trans y2.symm)
      have this : x = x' := this
      rw [← this] at y1
      exact ⟨x, fun _ => ⟨x1, y1, x2⟩⟩
    · exact ⟨0, fun h9 => absurd h9 hy⟩
  obtain ⟨τ, hτ⟩ := Classical.axiomOfChoice ex
  have hu : ∀ {p : vT}, p ∈ B.flatten → p.2 < 2 := fun {p} hp => (hB.1.1.2 p hp).2.1
  have huE : ∀ {p : vT}, p ∈ E.flatten → p.2 < 2 := fun {p} hp => (hE.1.1.2 p hp).2.1
  have tB : ∀ {p : vT}, p ∈ B.flatten → ((τ (g p.1), p.2) : vT) ∈ E.flatten ∧ h (τ (g p.1)) = g p.1 := fun {p} hp => by
    obtain ⟨a1, a2, a3⟩ := hτ (g p.1) (hB.1.2.2.2.1 p hp)
    refine ⟨?_, a3⟩
    have := hu hp
    rcases (show p.2 = 0 ∨ p.2 = 1 by omega) with e | e <;> rw [e]
    · exact a1
    · exact a2
  have tE : ∀ {q : vT}, q ∈ E.flatten → τ (h q.1) = q.1 := fun {q} hq => by
    obtain ⟨a1, a2, a3⟩ := hτ (h q.1) (hE.1.2.2.2.1 q hq)
    have := hE.1.2.2.2.2.1 _ _ a1 hq a3
    exact this
  refine ⟨fun x => k (τ (g x)), em_of hB.1.1 ?_ hR.2.2.1 (fun p hp => R1 _ (tB hp).1) (fun p q hp hq e => ?_) (fun L hL p hp => ?_) (fun p hp => ?_), fun p hp => ⟨_, (tB hp).1, rfl⟩⟩
  · have := hR.2.1
    rw [hB.1.2.1, ← hE.1.2.1]
    exact this
  · have e1 := R2 _ _ (tB hp).1 (tB hq).1 e
    have e1 : τ (g p.1) = τ (g q.1) := e1
    have e2 : g p.1 = g q.1 := by rw [← (tB hp).2, ← (tB hq).2, e1]
    exact hB.1.2.2.2.2.1 p q hp hq e2
  · have hpB : p ∈ B.flatten := List.mem_flatten.mpr ⟨L, hL, hp⟩
    have hsB : sc L p ∈ B.flatten := List.mem_flatten.mpr ⟨L, hL, sc_in hp (L_nd hB.1.1.1 hL)⟩
    obtain ⟨m1, m2⟩ := tB hpB
    obtain ⟨M, hM, hq⟩ := List.mem_flatten.mp m1
    have hsE : sc M (τ (g p.1), p.2) ∈ E.flatten := List.mem_flatten.mpr ⟨M, hM, sc_in hq (L_nd hE.1.1.1 hM)⟩
    have a1 := (hB.2 L hL p hp).1
    have a2 := (hE.2 M hM _ hq).1
    have a3 := R3 M hM _ hq
    have e0 : gl h (τ (g p.1), p.2) = gl g p := by
      show 2 * h (τ (g p.1)) + p.2 = 2 * g p.1 + p.2
      rw [m2]
    rw [e0, a1] at a2
    have a2 : 2 * g (sc L p).1 + (sc L p).2 = 2 * h (sc M (τ (g p.1), p.2)).1 + (sc M (τ (g p.1), p.2)).2 := a2
    have u1 := hu hsB
    have u2 := huE hsE
    have e1 : g (sc L p).1 = h (sc M (τ (g p.1), p.2)).1 := by omega
    have e2 : (sc L p).2 = (sc M (τ (g p.1), p.2)).2 := by omega
    show R.2.2.1.1 (gl k (τ (g p.1), p.2)) = 2 * k (τ (g (sc L p).1)) + (sc L p).2
    rw [a3, e1, tE hsE, e2]
    rfl
  · obtain ⟨m1, m2⟩ := tB hp
    have a1 := R4 _ m1
    have a2 := hE.1.2.2.2.2.2.2.1 _ m1
    have a3 := hB.1.2.2.2.2.2.2.1 p hp
    have a2 : T.2.2.2 (h (τ (g p.1))) < 0 ↔ sE (τ (g p.1)) = true := a2
    rw [m2] at a2
    exact a1.trans (a2.symm.trans a3)
end XSU8
end
