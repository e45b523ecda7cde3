/-! conway: the tree of both sides on lists of components -/
/-- v is the first visit that comes to its crossing first, and under -/
def bdF (A : rn_L) (v : Nat) : Prop := v < A.flatten.length ∧ (∀ u, u < v → crs A u ≠ crs A v) ∧ uns A v ≠ 0 ∧ ∀ u, u < v → (∀ t, t < u → crs A t ≠ crs A u) → uns A u = 0
noncomputable def fbV (A : rn_L) : Option Nat := @dite _ (∃ v, bdF A v) (Classical.propDecidable _) (fun h => some (Classical.choose h)) (fun _ => none)
def chA (A : rn_L) (x : Nat) : rn_L := A.map (List.map (flp (fun y => decide (y = x))))
def chS (sg : Nat → Bool) (x : Nat) : Nat → Bool := fun y => if y = x then !sg y else sg y
noncomputable def skV : Nat → rn_L → (Nat → Bool) → Nat → Int
  | 0, _, _, _ => 0
  | F + 1, A, sg, k => match fbV A with
    | none => if A.length = 1 ∧ k = 0 then 1 else 0
    | some v => (if sg (crs A v) then -1 else 1) * (if k = 0 then 0 else skV F (smV A v (mtf A v)) sg (k - 1)) + skV F (chA A (crs A v)) (chS sg (crs A v)) k
section XCA
variable {A : rn_L} {sg : Nat → Bool} {v w k f F : Nat}
theorem bd_uni (h : bdF A v) (h' : bdF A w) : v = w := by
  obtain ⟨a1, a2, a3, a4⟩ := h
  obtain ⟨b1, b2, b3, b4⟩ := h'
  rcases Nat.lt_trichotomy v w with q | q | q
  · exact absurd (b4 v q (fun t ht => a2 t ht)) a3
  · exact q
  · exact absurd (a4 w q (fun t ht => b2 t ht)) b3
theorem fb_some (h : bdF A v) : fbV A = some v := by
  unfold fbV
  have hx : ∃ v, bdF A v := ⟨v, h⟩
  rw [dif_pos hx]
  exact congrArg some (bd_uni (Classical.choose_spec hx) h)
theorem fb_none (h : ∀ v, ¬ bdF A v) : fbV A = none := by
  unfold fbV
  rw [dif_neg (fun ⟨v, hv⟩ => h v hv)]
theorem sk_none (h : ∀ v, ¬ bdF A v) : skV (F + 1) A sg k = if A.length = 1 ∧ k = 0 then 1 else 0 := by
  rw [skV, fb_none h]
theorem sk_some (h : bdF A v) : skV (F + 1) A sg k = (if sg (crs A v) then -1 else 1) * (if k = 0 then 0 else skV F (smV A v (mtf A v)) sg (k - 1)) + skV F (chA A (crs A v)) (chS sg (crs A v)) k := by
  rw [skV, fb_some h]
theorem bd_lt (hF : wkF A.flatten) (h : bdF A v) : v < mtf A v ∧ mtf A v < A.flatten.length ∧ crs A (mtf A v) = crs A v := by
  have hd := wkF_ok hF
  have h1 := mtf_lt hd h.1
  have h2 := crs_mtf hd h.1
  have h3 := mtf_ne hd h.1
  refine ⟨?_, h1, h2⟩
  rcases Nat.lt_or_ge (mtf A v) v with h8 | h8
  · exact absurd h2 (h.2.1 _ h8)
  · omega
theorem cps_fl {a : Nat} : ∀ {b : Nat}, a ≤ b → (cps A a b).flatten = seg (rn_b A a) (rn_b A b) := by
  intro b hab
  obtain ⟨d, rfl⟩ : ∃ d, b = a + d := ⟨b - a, by omega⟩
  induction d with
  | zero => rw [Nat.add_zero, cps_0, seg_0]; rfl
  | succ d ih =>
    have m1 := rn_b_mono2 (A := A) (show a ≤ a + d by omega)
    have m2 := rn_b_mono2 (A := A) (show a + d ≤ a + d + 1 by omega)
    rw [show a + (d + 1) = (a + d) + 1 by omega, cps_s (by omega), List.flatten_append, ih (by omega), seg_app m1 m2]
    show _ ++ (_ ++ []) = _
    rw [List.append_nil]
theorem mem_seg {a b j : Nat} : j ∈ seg a b ↔ a ≤ j ∧ j < b := by
  unfold seg
  rw [List.mem_map]
  constructor
  · rintro ⟨i, hi, rfl⟩
    have := List.mem_range.mp hi
    omega
  · rintro ⟨h1, h2⟩
    exact ⟨j - a, List.mem_range.mpr (by omega), by omega⟩
theorem seg_get {b j : Nat} (h : j < b) (Y : List Nat) : (seg 0 b ++ Y)[j]? = some j := by
  rw [List.getElem?_append_left (by rw [seg_len]; omega)]
  unfold seg
  rw [List.getElem?_map, List.getElem?_range (by omega)]
  exact congrArg some (Nat.zero_add j)
/-- what stands where after a smoothing -/
theorem smC_fl (hvw : v < w) (hw : w < A.flatten.length) : ∃ Y, (smC A (rn_c A v) v w (rn_c A w)).flatten = seg 0 v ++ Y ∧ ∀ j, j ∈ seg 0 v ++ Y ↔ j < A.flatten.length ∧ j ≠ v ∧ j ≠ w := by
  obtain ⟨c1, c2, c3⟩ := rn_c_in A v (by omega)
  obtain ⟨j1, j2, j3⟩ := rn_c_in A w hw
  generalize rn_c A v = c at c1 c2 c3
  generalize rn_c A w = J at j1 j2 j3
  have hb0 : rn_b A 0 = 0 := rfl
  have hbn : rn_b A A.length = A.flatten.length := rn_b_len A
  have e0 : (cps A 0 c).flatten = seg 0 (rn_b A c) := by rw [cps_fl (Nat.zero_le c), hb0]
  unfold smC
  by_cases hone : w < rn_b A (c + 1)
  · rw [if_pos hone]
    have m1 := rn_b_le A (c + 1)
    refine ⟨seg (w + 1) (rn_b A (c + 1)) ++ seg (rn_b A (c + 1)) A.flatten.length ++ seg (v + 1) w, ?_, fun j => ?_⟩
    · rw [List.flatten_append, List.flatten_append, List.flatten_append, e0, cps_fl (show c + 1 ≤ A.length by omega), hbn, seg_app (Nat.zero_le _) c2]
      show _ ++ ((_ ++ _) ++ []) ++ _ ++ (_ ++ []) = _
      simp only [List.append_assoc, List.append_nil]
    · simp only [List.mem_append, mem_seg]
      omega
  · rw [if_neg hone]
    have hcJ : c < J := by
      rcases Nat.lt_or_ge c J with h9 | h9
      · exact h9
      · have := rn_b_mono2 (A := A) (show J + 1 ≤ c + 1 by omega)
        omega
    have m1 := rn_b_mono2 (A := A) (show c + 1 ≤ J by omega)
    have m2 := rn_b_le A (J + 1)
    refine ⟨seg (w + 1) (rn_b A (J + 1)) ++ seg (rn_b A J) w ++ seg (v + 1) (rn_b A (c + 1)) ++ seg (rn_b A (c + 1)) (rn_b A J) ++ seg (rn_b A (J + 1)) A.flatten.length, ?_, fun j => ?_⟩
    · rw [List.flatten_append, List.flatten_append, List.flatten_append, e0, cps_fl (show c + 1 ≤ J by omega), cps_fl (show J + 1 ≤ A.length by omega), hbn, seg_app (Nat.zero_le _) c2]
      show _ ++ ((_ ++ _ ++ _ ++ _) ++ []) ++ _ ++ _ = _
      simp only [List.append_assoc, List.append_nil]
    · simp only [List.mem_append, mem_seg]
      omega
theorem smC_ok (hF : wkF A.flatten) (hvw : v < w) (hw : w < A.flatten.length) : (smC A (rn_c A v) v w (rn_c A w)).flatten.Nodup ∧ (∀ j, j ∈ (smC A (rn_c A v) v w (rn_c A w)).flatten ↔ j < A.flatten.length ∧ j ≠ v ∧ j ≠ w) ∧ ∀ j, j < v → (smC A (rn_c A v) v w (rn_c A w)).flatten[j]? = some j := by
  obtain ⟨Y, y1, y2⟩ := smC_fl hvw hw
  refine ⟨?_, fun j => by rw [y1]; exact y2 j, fun j hj => by rw [y1]; exact seg_get hj Y⟩
  have pm := (sm_perm hvw hw).nodup_iff.mp hF.1
  have n4 := (List.nodup_cons.mp (List.nodup_cons.mp pm).2).2
  unfold smV at n4
  rw [fl_map] at n4
  exact (List.pairwise_map.mp n4).imp (fun h e => h (by rw [e]))
theorem sm_pre (hF : wkF A.flatten) (hvw : v < w) (hw : w < A.flatten.length) {j : Nat} (hj : j < v) : vAt (smV A v w) j = vAt A j := sk_pre (smC_ok hF hvw hw).2.2 hj
/-- the fuel does not matter where it is enough -/
theorem sk_fu : ∀ (f F k0 : Nat) (A : rn_L) (sg : Nat → Bool) (k : Nat), wkF A.flatten → gPre A k0 → ouT A k0 f → f < F → skV F A sg k = skV (f + 1) A sg k := by
  intro f
  induction f using Nat.strongRecOn with
  | ind f ih =>
  intro F k0 A sg k hF hg ho hfF
  obtain ⟨F, rfl⟩ : ∃ F', F = F' + 1 := ⟨F - 1, by omega⟩
  by_cases hx : ∃ v, bdF A v
  · obtain ⟨v, hv⟩ := hx
    obtain ⟨b1, b2, b3⟩ := bd_lt hF hv
    obtain ⟨c1, c2, c3⟩ := smC_ok hF b1 b2
    obtain ⟨f1, h1, h2, h3, h4, -⟩ := sk_sm hF hg ho hv.1 b2 b1 b3 hv.2.1 hv.2.2.1 hv.2.2.2 c1 c2 c3
    obtain ⟨f2, g1, g2, g3, g4⟩ := sk_ch (x := crs A v) hF hg ho hv.1 rfl hv.2.1 hv.2.2.1 hv.2.2.2
    obtain ⟨f, rfl⟩ : ∃ f', f = f' + 1 := ⟨f - 1, by omega⟩
    have e1 : ∀ k, skV F (smV A v (mtf A v)) sg k = skV (f + 1) (smV A v (mtf A v)) sg k := fun k => (ih f1 (by omega) F v _ sg k h2 h3 h4 (by omega)).trans (ih f1 (by omega) (f + 1) v _ sg k h2 h3 h4 (by omega)).symm
    have e2 : skV F (chA A (crs A v)) (chS sg (crs A v)) k = skV (f + 1) (chA A (crs A v)) (chS sg (crs A v)) k := (ih f2 (by omega) F (v + 1) _ _ k g2 g3 g4 (by omega)).trans (ih f2 (by omega) (f + 1) (v + 1) _ _ k g2 g3 g4 (by omega)).symm
    rw [sk_some hv, sk_some (F := f + 1) hv, e1, e2]
  · have hn : ∀ v, ¬ bdF A v := fun v hv => hx ⟨v, hv⟩
    rw [sk_none hn, sk_none hn]
theorem ou_all (hF : wkF A.flatten) (hl : A.flatten.length ≤ 24) : gPre A 0 ∧ ouT A 0 12 := by
  refine ⟨fun v hv => absurd hv (Nat.not_lt_zero _), crL A, ?_, fun v hv => Or.inr (crL_m hF (u := uns A v) (vAt_mem hv))⟩
  have := crL_len hF
  omega
/-- one step, the fuel kept -/
theorem sk_st (hF : wkF A.flatten) (hl : A.flatten.length ≤ 24) (h : bdF A v) : skV 13 A sg k = (if sg (crs A v) then -1 else 1) * (if k = 0 then 0 else skV 13 (smV A v (mtf A v)) sg (k - 1)) + skV 13 (chA A (crs A v)) (chS sg (crs A v)) k := by
  obtain ⟨hg, ho⟩ := ou_all hF hl
  obtain ⟨b1, b2, b3⟩ := bd_lt hF h
  obtain ⟨c1, c2, c3⟩ := smC_ok hF b1 b2
  obtain ⟨f1, h1, h2, h3, h4, -⟩ := sk_sm hF hg ho h.1 b2 b1 b3 h.2.1 h.2.2.1 h.2.2.2 c1 c2 c3
  obtain ⟨f2, g1, g2, g3, g4⟩ := sk_ch (x := crs A v) hF hg ho h.1 rfl h.2.1 h.2.2.1 h.2.2.2
  have e1 : ∀ k, skV 12 (smV A v (mtf A v)) sg k = skV 13 (smV A v (mtf A v)) sg k := fun k => (sk_fu f1 12 v _ sg k h2 h3 h4 (by omega)).trans (sk_fu f1 13 v _ sg k h2 h3 h4 (by omega)).symm
  have e2 : skV 12 (chA A (crs A v)) (chS sg (crs A v)) k = skV 13 (chA A (crs A v)) (chS sg (crs A v)) k := (sk_fu f2 12 (v + 1) _ _ k g2 g3 g4 (by omega)).trans (sk_fu f2 13 (v + 1) _ _ k g2 g3 g4 (by omega)).symm
  rw [sk_some (F := 12) h, e1, e2]
theorem ch_len (x : Nat) : (chA A x).flatten.length = A.flatten.length := flp_len
theorem ch_wk (hF : wkF A.flatten) (x : Nat) : wkF (chA A x).flatten := by
  unfold chA
  rw [fl_map2]
  exact wkF_flp hF
/-- powers above the number of crossings do not occur -/
theorem sk_deg : ∀ (F : Nat) (A : rn_L) (sg : Nat → Bool) (k : Nat), wkF A.flatten → A.flatten.length < 2 * k → skV F A sg k = 0
  | 0, _, _, _, _, _ => rfl
  | F + 1, A, sg, k, hF, hl => by
    by_cases hx : ∃ v, bdF A v
    · obtain ⟨v, hv⟩ := hx
      obtain ⟨b1, b2, b3⟩ := bd_lt hF hv
      obtain ⟨c1, c2, c3⟩ := smC_ok hF b1 b2
      have pm := (sm_perm b1 b2).length_eq
      rw [List.length_cons, List.length_cons] at pm
      obtain ⟨hg, ho⟩ : gPre A 0 ∧ ouT A 0 (crL A).length := ⟨fun v hv => absurd hv (Nat.not_lt_zero _), crL A, Nat.le_refl _, fun v hv => Or.inr (crL_m hF (u := uns A v) (vAt_mem hv))⟩
      obtain ⟨f1, h1, h2, h3, h4, -⟩ := sk_sm hF hg ho hv.1 b2 b1 b3 hv.2.1 hv.2.2.1 hv.2.2.2 c1 c2 c3
      rw [sk_some hv, if_neg (show ¬ k = 0 by omega), sk_deg F (smV A v (mtf A v)) sg (k - 1) h2 (by omega), sk_deg F (chA A (crs A v)) _ k (ch_wk hF _) (by rw [ch_len]; exact hl), Int.mul_zero, Int.add_zero]
    · have hn : ∀ v, ¬ bdF A v := fun v hv => hx ⟨v, hv⟩
      rw [sk_none hn, if_neg (by omega)]
/-- the first component is come to over everywhere first, and there are others -/
def gdC (A : rn_L) : Prop := gPre A (rn_b A 1) ∧ 2 ≤ A.length
theorem b1_eq {A B : rn_L} (h : A.head? = B.head?) : rn_b A 1 = rn_b B 1 := by
  cases A with
  | nil => cases B with
    | nil => rfl
    | cons b B => cases h
  | cons a A => cases B with
    | nil => cases h
    | cons b B =>
      cases h
      rfl
theorem gd_sm (hF : wkF A.flatten) (h : gdC A) (hvw : v < w) (hw : w < A.flatten.length) (hv1 : rn_b A 1 ≤ v) : gdC (smV A v w) := by
  obtain ⟨h1, h2⟩ := h
  obtain ⟨c1, c2, c3⟩ := rn_c_in A v (by omega)
  obtain ⟨j1, j2, j3⟩ := rn_c_in A w hw
  have pre : ∀ {j}, j < v → vAt (smV A v w) j = vAt A j := fun hj => sm_pre hF hvw hw hj
  have hc1 : 1 ≤ rn_c A v := by
    rcases Nat.eq_zero_or_pos (rn_c A v) with e | e
    · rw [e] at c3
      have c3 : v < rn_b A 1 := c3
      omega
    · exact e
  have hb : (smV A v w).head? = A.head? ∧ 2 ≤ (smV A v w).length := by
    have hd0 : ∀ Y : rn_L, ((cps A 0 (rn_c A v)).map (List.map (vAt A)) ++ Y).head? = A.head? := fun Y => by
      rw [cps_cons (show 0 < rn_c A v by omega), List.map_cons, List.cons_append, List.head?_cons, cmp_seg (show 0 < A.length by omega)]
      cases A with
      | nil => exact absurd h2 (by decide)
      | cons a A => rfl
    unfold smV smC
    by_cases hone : w < rn_b A (rn_c A v + 1)
    · rw [if_pos hone]
      refine ⟨?_, ?_⟩
      · rw [List.map_append, List.map_append, List.map_append, List.append_assoc, List.append_assoc]
        exact hd0 _
      · rw [List.length_map, List.length_append, List.length_append, List.length_append, cps_n, cps_n]
        show 2 ≤ rn_c A v - 0 + 1 + (A.length - (rn_c A v + 1)) + 1
        omega
    · rw [if_neg hone]
      have hcJ : rn_c A v < rn_c A w := by
        rcases Nat.lt_or_ge (rn_c A v) (rn_c A w) with h9 | h9
        · exact h9
        · have := rn_b_mono2 (A := A) (show rn_c A w + 1 ≤ rn_c A v + 1 by omega)
          omega
      refine ⟨?_, ?_⟩
      · rw [List.map_append, List.map_append, List.map_append, List.append_assoc, List.append_assoc]
        exact hd0 _
      · rw [List.length_map, List.length_append, List.length_append, List.length_append, cps_n, cps_n, cps_n]
        show 2 ≤ rn_c A v - 0 + 1 + (rn_c A w - (rn_c A v + 1)) + (A.length - (rn_c A w + 1))
        omega
  refine ⟨fun u hu hul hfu => ?_, hb.2⟩
  rw [b1_eq hb.1] at hu
  have e1 : uns (smV A v w) u = uns A u := by unfold uns; rw [pre (by omega)]
  rw [e1]
  refine h1 u hu (by omega) (fun t ht e9 => hfu t ht ?_)
  unfold crs at e9 ⊢
  rw [pre (by omega), pre (by omega)]
  exact e9
theorem b1_ch (x : Nat) : rn_b (chA A x) 1 = rn_b A 1 := by
  cases A with
  | nil => rfl
  | cons a A =>
    show ((([a].map (List.map (flp _))) : rn_L).flatten).length = ([a].flatten).length
    rw [fl_map2, List.length_map]
theorem ch_crs {u x : Nat} (hu : u < A.flatten.length) : crs (chA A x) u = crs A u := by
  unfold crs chA
  rw [flp_vAt hu, flp_1]
theorem ch_uns {u x : Nat} (hu : u < A.flatten.length) : uns (chA A x) u = if crs A u = x then 1 - uns A u else uns A u := by
  unfold uns chA
  rw [flp_vAt hu, flp_2]
  by_cases h9 : crs A u = x
  · rw [if_pos h9, if_pos (by exact decide_eq_true h9)]
  · rw [if_neg h9]
    exact if_neg (fun h8 => h9 (of_decide_eq_true h8))
theorem gd_ch {x : Nat} (h : gdC A) (hx : ∀ u, u < rn_b A 1 → u < A.flatten.length → crs A u ≠ x) : gdC (chA A x) := by
  obtain ⟨h1, h2⟩ := h
  refine ⟨fun u hu hul hfu => ?_, by unfold chA; rw [List.length_map]; exact h2⟩
  rw [b1_ch] at hu
  rw [ch_len] at hul
  rw [ch_uns hul, if_neg (hx u hu hul)]
  refine h1 u hu hul (fun t ht e9 => hfu t ht ?_)
  rw [ch_crs (by omega), ch_crs hul]
  exact e9
/-- then nothing is counted -/
theorem sk_zero : ∀ (F : Nat) (A : rn_L) (sg : Nat → Bool) (k : Nat), wkF A.flatten → gdC A → skV F A sg k = 0
  | 0, _, _, _, _, _ => rfl
  | F + 1, A, sg, k, hF, hg => by
    by_cases hx : ∃ v, bdF A v
    · obtain ⟨v, hv⟩ := hx
      obtain ⟨b1, b2, b3⟩ := bd_lt hF hv
      have hv1 : rn_b A 1 ≤ v := by
        rcases Nat.lt_or_ge v (rn_b A 1) with h9 | h9
        · exact absurd (hg.1 v h9 hv.1 hv.2.1) hv.2.2.1
        · exact h9
      obtain ⟨c1, c2, c3⟩ := smC_ok hF b1 b2
      obtain ⟨hg0, ho⟩ : gPre A 0 ∧ ouT A 0 (crL A).length := ⟨fun v hv => absurd hv (Nat.not_lt_zero _), crL A, Nat.le_refl _, fun v hv => Or.inr (crL_m hF (u := uns A v) (vAt_mem hv))⟩
      obtain ⟨f1, h1, h2, h3, h4, -⟩ := sk_sm hF hg0 ho hv.1 b2 b1 b3 hv.2.1 hv.2.2.1 hv.2.2.2 c1 c2 c3
      have z1 : ∀ k, skV F (smV A v (mtf A v)) sg k = 0 := fun k => sk_zero F _ sg k h2 (gd_sm hF hg b1 b2 hv1)
      rw [sk_some hv, z1, sk_zero F (chA A (crs A v)) _ k (ch_wk hF _) (gd_ch hg (fun u hu hul => hv.2.1 u (by omega)))]
      split <;> omega
    · have hn : ∀ v, ¬ bdF A v := fun v hv => hx ⟨v, hv⟩
      have := hg.2
      rw [sk_none hn, if_neg (by omega)]
/-- one component that is come to over everywhere first -/
theorem sk_one (h1 : A.length = 1) (hg : gPre A (rn_b A 1)) : skV (F + 1) A sg k = if k = 0 then 1 else 0 := by
  have hb : rn_b A 1 = A.flatten.length := by rw [← h1]; exact rn_b_len A
  have hn : ∀ v, ¬ bdF A v := fun v hv => hv.2.2.1 (hg v (by rw [hb]; exact hv.1) hv.1 hv.2.1)
  rw [sk_none hn]
  by_cases e : k = 0
  · rw [if_pos ⟨h1, e⟩, if_pos e]
  · rw [if_neg (fun h => e h.2), if_neg e]
end XCA
