/-! a list that a part of a net shows (tools/mkem.py: the proofs of ciso, without onto) -/
def emN (A : rn_L) (sg : Nat → Bool) (f : Nat → Nat) (T : ow_NT) : Prop := wkF A.flatten ∧ A.flatten.length ≤ 2 * T.1 ∧ T.1 ≤ 12 ∧ (∀ v, v < A.flatten.length → f (crs A v) < T.1) ∧ (∀ v w, v < A.flatten.length → w < A.flatten.length → f (crs A v) = f (crs A w) → crs A v = crs A w) ∧ (∀ v, v < A.flatten.length → T.2.2.1.1 (lbv A f v) = lbv A f (rn_nx A v)) ∧ (∀ v, v < A.flatten.length → (T.2.2.2 (f (crs A v)) < 0 ↔ sg (crs A v) = true)) ∧ True
section XEM
variable {A : rn_L} {sg : Nat → Bool} {f : Nat → Nat} {T : ow_NT}
theorem em_lt {v : Nat} (h : emN A sg f T) (hv : v < A.flatten.length) : lbv A f v < 2 * T.1 := by
  have := uns_lt h.1 hv
  have := h.2.2.2.1 v hv
  unfold lbv
  omega
theorem em_hf {v : Nat} (h : emN A sg f T) (hv : v < A.flatten.length) : lbv A f v / 2 = f (crs A v) ∧ lbv A f v % 2 = uns A v := by
  have := uns_lt h.1 hv
  unfold lbv
  omega
theorem em_inj {v w : Nat} (h : emN A sg f T) (hv : v < A.flatten.length) (hw : w < A.flatten.length) (e : lbv A f v = lbv A f w) : v = w := by
  have h1 := em_hf h hv
  have h2 := em_hf h hw
  have h3 : f (crs A v) = f (crs A w) := by omega
  have h4 := h.2.2.2.2.1 v w hv hw h3
  have h5 : uns A v = uns A w := by omega
  have h6 : vAt A v = vAt A w := Prod.ext h4 h5
  refine nodup_at h.1.1 (vAt_of hv) ?_
  rw [h6]
  exact vAt_of hw
theorem em_mt {v : Nat} (h : emN A sg f T) (hv : v < A.flatten.length) : mtf A v < A.flatten.length ∧ crs A (mtf A v) = crs A v ∧ lbv A f (mtf A v) = mt (lbv A f v) ∧ mtf A v ≠ v := by
  have hm := mtf_mt (wkF_ok h.1) hv
  have hl := (rn_mt_lt hm).2
  obtain ⟨hne, p, q, e1, e2, e3⟩ := hm
  have c1 : crs A (mtf A v) = crs A v := by
    unfold crs
    rw [vAt_eq e1, vAt_eq e2]
    exact e3.symm
  have u1 := uns_lt h.1 hv
  have u2 := uns_lt h.1 hl
  have hu : uns A (mtf A v) ≠ uns A v := by
    intro e
    have h6 : vAt A (mtf A v) = vAt A v := Prod.ext c1 e
    refine hne (nodup_at h.1.1 (vAt_of hv) ?_)
    rw [← h6]
    exact vAt_of hl
  refine ⟨hl, c1, ?_, fun e => hne e.symm⟩
  have h1 := em_hf h hv
  unfold lbv
  rw [c1]
  unfold mt
  split <;> omega
theorem emtJ_vis {vs cells : List Nat} {P : tf_P} {v : Nat} (hi : emN A sg f T) (h : tJ A f vs cells P) (hv : v < A.flatten.length) : tJ A f (vs ++ [v]) (cells ++ [tkn A sg (vs ++ [v]) v]) (tf_vis T.2.2.2 P (lbv A f v)) := by
  have hl := em_hf hi hv
  obtain ⟨a1, a2, a3, a4, a5, a6⟩ := id h
  have hgone : ∀ w, w < A.flatten.length → (o_gn (tf_vis T.2.2.2 P (lbv A f v)).gone (lbv A f w) ↔ w ∈ vs ++ [v]) := by
    intro w hw
    show o_gn (P.gone ||| 2 ^ lbv A f v) (lbv A f w) ↔ _
    rw [gn_or, a4 w hw, List.mem_append, List.mem_singleton]
    exact or_congr Iff.rfl ⟨fun e => em_inj hi hw hv e, fun e => by rw [e]⟩
  have hmem : ∀ w, w ∈ vs ++ [v] → w < A.flatten.length := by
    intro w hw
    rcases List.mem_append.mp hw with h9 | h9
    · exact a6 w h9
    · rw [List.mem_singleton.mp h9]
      exact hv
  have part : (tf_vis T.2.2.2 P (lbv A f v)).names = (fm A (vs ++ [v])).length ∧ (∀ k w, (fm A (vs ++ [v]))[k]? = some w → (tf_vis T.2.2.2 P (lbv A f v)).nam k = f (crs A w) ∧ (tf_vis T.2.2.2 P (lbv A f v)).num (f (crs A w)) = k + 1) ∧ (∀ w, w < A.flatten.length → crs A w ∉ (vs ++ [v]).map (crs A) → (tf_vis T.2.2.2 P (lbv A f v)).num (f (crs A w)) = 0) := by
    have e1 : (tf_vis T.2.2.2 P (lbv A f v)).num = (tf_name P (f (crs A v))).num := by
      rw [← hl.1]
      rfl
    have e2 : (tf_vis T.2.2.2 P (lbv A f v)).nam = (tf_name P (f (crs A v))).nam := by
      rw [← hl.1]
      rfl
    have e3 : (tf_vis T.2.2.2 P (lbv A f v)).names = (tf_name P (f (crs A v))).names := by
      rw [← hl.1]
      rfl
    rw [e1, e2, e3, fm_app]
    by_cases hc : crs A v ∈ (fm A vs).map (crs A)
    · have hc2 := (fm_cr vs).mp hc
      have hn : ¬ P.num (f (crs A v)) = 0 := by
        obtain ⟨w, q1, q2⟩ := num_at hc2
        have := (a2 _ w q1).2
        rw [q2] at this
        omega
      have e4 : tf_name P (f (crs A v)) = P := by
        unfold tf_name
        rw [if_neg hn]
      rw [e4, show fmA A (fm A vs) v = fm A vs from if_pos hc]
      refine ⟨a1, a2, fun w hw hx => a3 w hw (fun h9 => hx ?_)⟩
      rw [List.map_append]
      exact List.mem_append_left _ h9
    · have hc2 : crs A v ∉ vs.map (crs A) := fun h9 => hc ((fm_cr vs).mpr h9)
      have e4 : tf_name P (f (crs A v)) = ⟨nu P.num (f (crs A v)) (P.names + 1), nu P.nam P.names (f (crs A v)), P.names + 1, P.gone, P.T, P.len⟩ := by
        unfold tf_name
        rw [if_pos (a3 v hv hc2)]
      rw [e4, show fmA A (fm A vs) v = fm A vs ++ [v] from if_neg hc]
      refine ⟨?_, fun k w e => ?_, fun w hw hx => ?_⟩
      · show P.names + 1 = _
        rw [List.length_append, a1]
        rfl
      · show nu P.nam P.names (f (crs A v)) k = f (crs A w) ∧ nu P.num (f (crs A v)) (P.names + 1) (f (crs A w)) = k + 1
        by_cases hk : k < (fm A vs).length
        · rw [List.getElem?_append_left hk] at e
          have h9 := a2 k w e
          have hwm : w ∈ vs := fm_mem vs (List.mem_of_getElem? e)
          rw [nu_ne _ _ (by omega), nu_ne]
          · exact h9
          · intro e9
            have := hi.2.2.2.2.1 w v (a6 w hwm) hv e9
            exact hc2 (by rw [← this]; exact List.mem_map.mpr ⟨w, hwm, rfl⟩)
        · have h9 := (List.getElem?_eq_some_iff.mp e).1
          rw [List.length_append] at h9
          have h9' : k < (fm A vs).length + 1 := h9
          have ek : k = (fm A vs).length := by omega
          rw [ek, List.getElem?_append_right (Nat.le_refl _), Nat.sub_self] at e
          cases e
          rw [ek, ← a1, nu_same, nu_same]
          exact ⟨rfl, rfl⟩
      · show nu P.num (f (crs A v)) (P.names + 1) (f (crs A w)) = 0
        rw [List.map_append] at hx
        rw [nu_ne]
        · exact a3 w hw (fun h9 => hx (List.mem_append_left _ h9))
        · intro e9
          have := hi.2.2.2.2.1 w v hw hv e9
          exact hx (List.mem_append_right _ (by rw [this]; exact List.mem_singleton.mpr rfl))
  have hj0 : tJ A f (vs ++ [v]) (tfL (tf_vis T.2.2.2 P (lbv A f v))) (tf_vis T.2.2.2 P (lbv A f v)) := ⟨part.1, part.2.1, part.2.2, hgone, rfl, hmem⟩
  refine ⟨part.1, part.2.1, part.2.2, hgone, ?_, hmem⟩
  rw [tfL_vis, a5]
  congr 2
  have hnm := tJ_num (v := v) hj0 (by rw [List.map_append]; exact List.mem_append_right _ (List.mem_singleton.mpr rfl))
  have e1 : (tf_vis T.2.2.2 P (lbv A f v)).num = (tf_name P (f (crs A v))).num := by
    rw [← hl.1]
    rfl
  rw [e1] at hnm
  unfold tf_cell cd_first tkn
  rw [hl.1, hl.2, hnm]
  have h1 : 1 ≤ num A (vs ++ [v]) (crs A v) := by
    unfold num
    omega
  have h7 := hi.2.2.2.2.2.2.1 v hv
  by_cases h8 : sg (crs A v) = true
  · rw [if_pos (h7.mpr h8), if_pos h8]
    omega
  · rw [if_neg (fun h9 => h8 (h7.mp h9)), if_neg h8]
    omega
theorem emtJ_ring {vs cells : List Nat} {s : Nat} (hi : emN A sg f T) (hs : s < A.flatten.length) : ∀ (d j : Nat) (P : tf_P), j + d = rlen A (rn_c A s) → 0 < d → ∀ e, d ≤ e → tJ A f (vs ++ rgj A s j) (cells ++ (rgj A s j).map (tkn A sg (vs ++ rgj A s j))) P → tJ A f (vs ++ rgl A s) (cells ++ (rgl A s).map (tkn A sg (vs ++ rgl A s))) (tf_ring T.2.2.2 T.2.2.1.1 (lbv A f s) e (lbv A f (rv A s j)) P) := by
  intro d
  induction d with
  | zero => exact fun _ _ _ h => absurd h (Nat.lt_irrefl _)
  | succ d ih =>
    intro j P hj _ e he h
    obtain ⟨e1, rfl⟩ : ∃ e1, e = e1 + 1 := ⟨e - 1, by omega⟩
    have hjl : j < rlen A (rn_c A s) := by omega
    have hv := rv_lt hs hjl
    have hst := emtJ_vis hi h hv
    have hN := hi.2.2.2.2.2.1 _ hv
    have hnx := rv_nx hs hjl
    have hcells : tJ A f (vs ++ rgj A s (j + 1)) (cells ++ (rgj A s (j + 1)).map (tkn A sg (vs ++ rgj A s (j + 1)))) (tf_vis T.2.2.2 P (lbv A f (rv A s j))) := by
      have e2 : vs ++ rgj A s (j + 1) = vs ++ rgj A s j ++ [rv A s j] := by rw [rgj_s, List.append_assoc]
      rw [e2]
      have e3 : cells ++ (rgj A s (j + 1)).map (tkn A sg (vs ++ rgj A s j ++ [rv A s j])) = cells ++ (rgj A s j).map (tkn A sg (vs ++ rgj A s j)) ++ [tkn A sg (vs ++ rgj A s j ++ [rv A s j]) (rv A s j)] := by
        have e9 : (rgj A s j).map (tkn A sg (vs ++ rgj A s j ++ [rv A s j])) = (rgj A s j).map (tkn A sg (vs ++ rgj A s j)) := by
          apply List.map_congr_left
          intro w hw
          exact tkn_st (List.mem_append_right _ hw)
        rw [rgj_s, List.map_append, e9, ← List.append_assoc]
        rfl
      rw [e3]
      exact hst
    rw [tf_ring]
    by_cases hjd : j + 1 = rlen A (rn_c A s)
    · rw [if_pos hjd] at hnx
      rw [if_pos (by rw [hN, hnx])]
      have e4 : rgj A s (j + 1) = rgl A s := by
        unfold rgj rgl
        rw [hjd]
      rw [e4] at hcells
      exact hcells
    · rw [if_neg hjd] at hnx
      have hne : ¬ T.2.2.1.1 (lbv A f (rv A s j)) = lbv A f s := by
        rw [hN, hnx]
        intro e5
        exact rv_ne hs (by omega) (by omega) (em_inj hi (rv_lt hs (by omega)) hs e5)
      rw [if_neg hne, hN, hnx]
      exact ih (j + 1) _ (by omega) (by omega) e1 (by omega) hcells
theorem emtJ_comp {vs cells : List Nat} {P : tf_P} {s : Nat} (hi : emN A sg f T) (hs : s < A.flatten.length) (h : tJ A f vs cells P) : tJ A f (vs ++ rgl A s) (cells ++ ((rgl A s).map (tkn A sg (vs ++ rgl A s)) ++ [0])) (tf_sep (tf_ring T.2.2.2 T.2.2.1.1 (lbv A f s) 24 (lbv A f s) P)) := by
  have h0 := rlen_pos hs
  have h1 := rlen_le hs
  have h2 := hi.2.1
  have h3 := hi.2.2.1
  have := emtJ_ring (vs := vs) (cells := cells) hi hs (rlen A (rn_c A s)) 0 P (by omega) h0 24 (by omega) (by
    rw [show rgj A s 0 = [] from rfl, List.append_nil, List.map_nil, List.append_nil]
    exact h)
  rw [rv_0 hs] at this
  rw [← List.append_assoc]
  exact tJ_sep this
theorem emtJ_S {S : List Nat} {P : tf_P} {s : Nat} (hi : emN A sg f T) (hs : s < A.flatten.length) (h : tJ A f (vsO A S) (tks A sg (vsO A S) S) P) : tJ A f (vsO A (S ++ [s])) (tks A sg (vsO A (S ++ [s])) (S ++ [s])) (tf_sep (tf_ring T.2.2.2 T.2.2.1.1 (lbv A f s) 24 (lbv A f s) P)) := by
  rw [tks_grow, vsO_app]
  exact emtJ_comp hi hs h
theorem emtJ_look {S : List Nat} {cells : List Nat} {P : tf_P} (hi : emN A sg f T) (hS : tS A S) (h : tJ A f (vsO A S) cells P) : ∀ d k, k + d = (fm A (vsO A S)).length → (∀ j w, j < k → (fm A (vsO A S))[j]? = some w → gn A S (rn_c A (mtf A w)) = true) → ((fm A (vsO A S)).drop k).find? (fun v => !gn A S (rn_c A (mtf A v))) = none ∧ (tf_look P d k).1 = none ∨ ∃ j v, (fm A (vsO A S))[j]? = some v ∧ ((fm A (vsO A S)).drop k).find? (fun v => !gn A S (rn_c A (mtf A v))) = some v ∧ tf_look P d k = (some (lbv A f (mtf A v)), j + 1) ∧ ∀ i w, i < j → (fm A (vsO A S))[i]? = some w → gn A S (rn_c A (mtf A w)) = true := by
  intro d
  induction d with
  | zero =>
    intro k hk hc
    refine Or.inl ⟨?_, rfl⟩
    rw [List.drop_of_length_le (by omega)]
    rfl
  | succ d ih =>
    intro k hk hc
    have hkl : k < (fm A (vsO A S)).length := by omega
    have e0 : (fm A (vsO A S))[k]? = some (fm A (vsO A S))[k] := List.getElem?_eq_getElem hkl
    have ed := List.drop_eq_getElem_cons hkl
    generalize hvv : (fm A (vsO A S))[k] = v at e0 ed
    have hvm : v ∈ vsO A S := fm_mem _ (List.mem_of_getElem? e0)
    have hv := h.2.2.2.2.2 v hvm
    have hnam := (h.2.1 k v e0).1
    have hg := (h.2.2.2.1 v hv).mpr hvm
    obtain ⟨m1, m2, m3, m4⟩ := em_mt hi hv
    have hgm := h.2.2.2.1 (mtf A v) m1
    have hgv := gn_vs hS m1
    have hl := em_hf hi hv
    have hu := uns_lt hi.1 hv
    have hlab : lbv A f v = 2 * P.nam k + uns A v := by rw [hnam]; rfl
    have hm0 : mt (2 * P.nam k) = 2 * P.nam k + 1 := by
      unfold mt
      rw [if_pos (by omega)]
    have hm1 : mt (2 * P.nam k + 1) = 2 * P.nam k := by
      unfold mt
      rw [if_neg (by omega)]
      rfl
    have hu2 : (lbv A f v = 2 * P.nam k ∧ lbv A f (mtf A v) = 2 * P.nam k + 1) ∨ (lbv A f v = 2 * P.nam k + 1 ∧ lbv A f (mtf A v) = 2 * P.nam k) := by
      rcases Nat.lt_or_ge (uns A v) 1 with h9 | h9
      · have e9 : uns A v = 0 := by omega
        rw [m3, hlab, e9, Nat.add_zero]
        exact Or.inl ⟨rfl, hm0⟩
      · have e9 : uns A v = 1 := by omega
        rw [m3, hlab, e9]
        exact Or.inr ⟨rfl, hm1⟩
    rw [ed, List.find?_cons, tf_look]
    unfold o_gn at hg hgm
    by_cases hp : gn A S (rn_c A (mtf A v)) = true
    · -- both visits gone
      have hgm2 := hgm.mpr (hgv.mp hp)
      have b1 : ¬ P.gone / 2 ^ (2 * P.nam k) % 2 = 0 ∧ ¬ P.gone / 2 ^ (2 * P.nam k + 1) % 2 = 0 := by
        rcases hu2 with ⟨q1, q2⟩ | ⟨q1, q2⟩
        · rw [q1] at hg
          rw [q2] at hgm2
          exact ⟨by omega, by omega⟩
        · rw [q1] at hg
          rw [q2] at hgm2
          exact ⟨by omega, by omega⟩
      rw [if_neg b1.1, if_neg b1.2, show (!gn A S (rn_c A (mtf A v))) = false from by rw [hp]; rfl]
      refine ih (k + 1) (by omega) (fun j w hj e => ?_)
      by_cases e9 : j = k
      · rw [e9, e0] at e
        cases e
        exact hp
      · exact hc j w (by omega) e
    · have hp2 : gn A S (rn_c A (mtf A v)) = false := by
        cases h9 : gn A S (rn_c A (mtf A v))
        · rfl
        · exact absurd h9 hp
      have hgm2 : P.gone / 2 ^ lbv A f (mtf A v) % 2 = 0 := by
        have : ¬ P.gone / 2 ^ lbv A f (mtf A v) % 2 = 1 := fun h9 => hp (hgv.mpr (hgm.mp h9))
        omega
      rw [show (!gn A S (rn_c A (mtf A v))) = true from by rw [hp2]; rfl]
      refine Or.inr ⟨k, v, e0, rfl, ?_, hc⟩
      rcases hu2 with ⟨q1, q2⟩ | ⟨q1, q2⟩
      · rw [q1] at hg
        rw [q2] at hgm2 ⊢
        rw [if_neg (by omega), if_pos hgm2]
      · rw [q2] at hgm2 ⊢
        rw [if_pos hgm2]
theorem emtJ_out (hi : emN A sg f T) : ∀ (d fu : Nat) (S : List Nat) (k : Nat) (P : tf_P), tS A S → tJ A f (vsO A S) (tks A sg (vsO A S) S) P → rem (gn A S) (fun _ => 1) A.length ≤ d → rem (gn A S) (fun _ => 1) A.length ≤ fu → k ≤ (fm A (vsO A S)).length → (∀ j w, j < k → (fm A (vsO A S))[j]? = some w → gn A S (rn_c A (mtf A w)) = true) → tJ A f (vsO A (trF A fu S)) (tks A sg (vsO A (trF A fu S)) (trF A fu S)) (tf_out T.2.2.2 T.2.2.1.1 d (tf_look P (P.names - k) k).1 (tf_look P (P.names - k) k).2 P) := by
  have hd := wkF_ok hi.1
  intro d
  induction d with
  | zero =>
    intro fu S k P hS hJ hr1 hr2 hk hc
    have hx : nxS A S = none := by
      cases hx : nxS A S with
      | none => rfl
      | some w =>
        obtain ⟨h1, h2, -⟩ := nxS_step hd hS hx
        have hw : w < A.flatten.length := h1.2 w (by simp)
        have h3 := rem_zero (g := gn A S) A.length (by omega) (rn_c A w) (rn_c_in A w hw).1
        rw [h2] at h3
        cases h3
    rw [trF_none hx]
    exact hJ
  | succ d ih =>
    intro fu S k P hS hJ hr1 hr2 hk hc
    have hfind : ((fm A (vsO A S)).drop k).find? (fun v => !gn A S (rn_c A (mtf A v))) = (fm A (vsO A S)).find? (fun v => !gn A S (rn_c A (mtf A v))) := by
      have : ((fm A (vsO A S)).take k ++ (fm A (vsO A S)).drop k).find? (fun v => !gn A S (rn_c A (mtf A v))) = ((fm A (vsO A S)).drop k).find? (fun v => !gn A S (rn_c A (mtf A v))) := by
        rw [List.find?_append]
        have h9 : ((fm A (vsO A S)).take k).find? (fun v => !gn A S (rn_c A (mtf A v))) = none := by
          rw [List.find?_eq_none]
          intro w hw h8
          obtain ⟨j, hj⟩ := List.getElem?_of_mem hw
          rw [List.getElem?_take] at hj
          by_cases h7 : j < k
          · rw [if_pos h7] at hj
            have := hc j w h7 hj
            rw [this] at h8
            cases h8
          · rw [if_neg h7] at hj
            cases hj
        rw [h9]
        rfl
      rw [List.take_append_drop] at this
      exact this.symm
    have hl := emtJ_look hi hS hJ ((fm A (vsO A S)).length - k) k (by omega) hc
    rw [hJ.1]
    rcases hl with ⟨l1, l2⟩ | ⟨j, v, l1, l2, l3, l4⟩
    · rw [hfind] at l1
      have hx : nxS A S = none := by
        unfold nxS
        rw [l1]
        rfl
      rw [trF_none hx, l2]
      exact hJ
    · rw [hfind] at l2
      have hx : nxS A S = some (mtf A v) := by
        unfold nxS
        rw [l2]
        rfl
      obtain ⟨h1, h2, -⟩ := nxS_step hd hS hx
      have hw : mtf A v < A.flatten.length := h1.2 _ (by simp)
      have hrs := rem_st (f := fun _ => 1) h2 (fun b => gn_app (A := A) (S := S) (w := mtf A v) (b := b)) A.length (rn_c_in A _ hw).1
      obtain ⟨fu1, rfl⟩ : ∃ fu1, fu = fu1 + 1 := ⟨fu - 1, by omega⟩
      rw [trF_some hx, l3]
      have hJ2 := emtJ_S hi hw hJ
      have hpre := fm_pre (A := A) (vsO A S) (rgl A (mtf A v))
      rw [← vsO_app] at hpre
      obtain ⟨us, hus⟩ := hpre
      have hjl := (List.getElem?_eq_some_iff.mp l1).1
      refine ih fu1 (S ++ [mtf A v]) (j + 1) _ h1 hJ2 (by omega) (by omega) ?_ (fun i w hij e => ?_)
      · rw [hus, List.length_append]
        omega
      · rw [hus, List.getElem?_append_left (by omega)] at e
        rw [gn_app]
        by_cases e9 : i = j
        · rw [e9, l1] at e
          cases e
          rw [decide_eq_true rfl, Bool.or_true]
        · rw [l4 i w (by omega) e]
          rfl
theorem em_code {s : Nat} (hi : emN A sg f T) (hA : A.length ≤ 23) (hs : s < A.flatten.length) : tfL (tf_code T.2.2.2 T.2.2.1.1 (lbv A f s)) = cdv A sg s := by
  have h0 : tJ A f (vsO A []) (tks A sg (vsO A []) []) tf_0 := by
    refine ⟨rfl, fun k w e => ?_, fun v hv _ => rfl, fun v hv => ?_, rfl, fun v hv => by cases hv⟩
    · rw [show fm A (vsO A []) = [] from rfl, List.getElem?_nil] at e
      cases e
    · refine ⟨fun h9 => ?_, fun h9 => by cases h9⟩
      have h8 : 0 / 2 ^ lbv A f v % 2 = 1 := h9
      rw [Nat.zero_div] at h8
      omega
  have h1 := emtJ_S hi hs h0
  have hts : tS A [s] := ⟨List.nodup_cons.mpr ⟨fun h => (by cases h), List.nodup_nil⟩, fun t ht => by rw [List.mem_singleton.mp ht]; exact hs⟩
  have hrs := rem_st (g := gn A []) (f := fun _ => 1) (c := rn_c A s) rfl (fun b => gn_app (A := A) (S := []) (w := s) (b := b)) A.length (rn_c_in A _ hs).1
  have hr1 := rem_1 A.length
  have hr0 : rem (gn A []) (fun _ => 1) A.length = A.length := (rem_congr A.length (fun c _ => rfl)).trans hr1
  have h2 := emtJ_out hi 23 A.length ([] ++ [s]) 0 _ hts h1 (by omega) (by omega) (Nat.zero_le _) (fun j w hj _ => absurd hj (Nat.not_lt_zero _))
  have h3 := h2.2.2.2.2.1
  exact h3
end XEM
