/-! skein has an answer -/
/-- what stands where the first visits have kept their places -/
theorem sk_pre {A : rn_L} {C : List (List Nat)} {v : Nat} (h : ∀ j, j < v → C.flatten[j]? = some j) {j : Nat} (hj : j < v) : vAt (C.map (List.map (vAt A))) j = vAt A j := by
  refine vAt_eq ?_
  rw [fl_map, List.getElem?_map, h j hj]
  rfl
theorem sk_at {A : rn_L} {C : List (List Nat)} {u : Nat} (hu : u < (C.map (List.map (vAt A))).flatten.length) : ∃ i, i ∈ C.flatten ∧ vAt (C.map (List.map (vAt A))) u = vAt A i := by
  rw [fl_map, List.length_map] at hu
  refine ⟨C.flatten[u], List.getElem_mem hu, vAt_eq ?_⟩
  rw [fl_map, List.getElem?_map, List.getElem?_eq_getElem hu]
  rfl
/-- a crossing has two visits alone -/
theorem sk_two {A : rn_L} {v w i : Nat} (hd : rn_ok A.flatten) (hv : v < A.flatten.length) (hw : w < A.flatten.length) (hi : i < A.flatten.length) (hvw : v ≠ w) (e : crs A w = crs A v) (hiv : i ≠ v) (hiw : i ≠ w) : crs A i ≠ crs A v := fun e9 => by
  have h1 : rn_mt A.flatten v w := ⟨hvw, _, _, vAt_of hv, vAt_of hw, e.symm⟩
  have h2 : rn_mt A.flatten v i := ⟨fun h => hiv h.symm, _, _, vAt_of hv, vAt_of hi, e9.symm⟩
  exact hiw ((mtf_eq hd h2).symm.trans (mtf_eq hd h1))
/-- the net that is smoothed at its first bad visit -/
theorem sk_sm {A : rn_L} {C : List (List Nat)} {k f v w : Nat} (hF : wkF A.flatten) (hg : gPre A k) (ho : ouT A k f) (hv : v < A.flatten.length) (hw : w < A.flatten.length) (hvw : v < w) (e : crs A w = crs A v) (hf : ∀ u, u < v → crs A u ≠ crs A v) (hb : uns A v ≠ 0) (hgood : ∀ u, u < v → (∀ t, t < u → crs A t ≠ crs A u) → uns A u = 0) (hN : C.flatten.Nodup) (hm : ∀ j, j ∈ C.flatten ↔ j < A.flatten.length ∧ j ≠ v ∧ j ≠ w) (hp : ∀ j, j < v → C.flatten[j]? = some j) : ∃ f', f' + 1 ≤ f ∧ wkF (C.map (List.map (vAt A))).flatten ∧ gPre (C.map (List.map (vAt A))) v ∧ ouT (C.map (List.map (vAt A))) v f' ∧ (C.map (List.map (vAt A))).flatten.length ≤ A.flatten.length := by
  have hd := wkF_ok hF
  obtain ⟨hkv, R, hR, hcov⟩ := ou_bad hg ho hv hf hb
  have inj : ∀ i j, i < A.flatten.length → j < A.flatten.length → vAt A i = vAt A j → i = j := fun i j hi hj e => nodup_at hF.1 (vAt_of hi) (by rw [e]; exact vAt_of hj)
  have hlen : C.flatten.length ≤ A.flatten.length := by
    have := nodup_le C.flatten (List.range A.flatten.length) hN (fun j hj => List.mem_range.mpr ((hm j).mp hj).1)
    rw [List.length_range] at this
    exact this
  have hvl : v ≤ C.flatten.length := by
    rcases Nat.lt_or_ge C.flatten.length v with h9 | h9
    · have := hp _ h9
      rw [List.getElem?_eq_none (Nat.le_refl _)] at this
      cases this
    · exact h9
  refine ⟨R.length, by omega, ⟨?_, fun p hp2 => ?_⟩, fun u hu hul hfu => ?_, ⟨R, Nat.le_refl _, fun u hu => ?_⟩, ?_⟩
  · rw [fl_map]
    exact nodup_map hN (fun i j hi hj e => inj i j ((hm i).mp hi).1 ((hm j).mp hj).1 e)
  · rw [fl_map] at hp2 ⊢
    obtain ⟨j, hj, e1⟩ := List.mem_map.mp hp2
    obtain ⟨hjl, hjv, hjw⟩ := (hm j).mp hj
    obtain ⟨g1, g2, -⟩ := hF.2 _ (List.mem_of_getElem? (vAt_of hjl))
    rw [← e1]
    refine ⟨g1, g2, ?_⟩
    obtain ⟨n1, p1, p2, a1, a2, a3⟩ := mtf_mt hd hjl
    rw [vAt_of hjl] at a1
    cases a1
    have hml := mtf_lt hd hjl
    have e2 := vAt_eq a2
    obtain ⟨-, k2, -⟩ := hF.2 _ (List.mem_of_getElem? a2)
    have hcm := crs_mtf hd hjl
    have hnv := sk_two hd hv hw hjl (by omega) e hjv hjw
    refine List.mem_map.mpr ⟨mtf A j, (hm _).mpr ⟨hml, fun e9 => ?_, fun e9 => ?_⟩, ?_⟩
    · rw [e9] at hcm
      exact hnv hcm.symm
    · rw [e9] at hcm
      exact hnv (hcm.symm.trans e)
    · have hne : (vAt A j).2 ≠ p2.2 := fun e9 => n1 (inj j (mtf A j) hjl hml (by rw [e2]; exact Prod.ext a3 e9))
      rw [e2]
      exact Prod.ext a3.symm (by show p2.2 = 1 - (vAt A j).2; omega)
  · have h1 : vAt (C.map (List.map (vAt A))) u = vAt A u := sk_pre hp hu
    have h2 : uns (C.map (List.map (vAt A))) u = uns A u := by unfold uns; rw [h1]
    rw [h2]
    refine hgood u hu (fun t ht e9 => hfu t ht ?_)
    unfold crs at e9 ⊢
    rw [h1, sk_pre hp (by omega)]
    exact e9
  · obtain ⟨i, hi, e1⟩ := sk_at hu
    obtain ⟨hil, hiv, hiw⟩ := (hm i).mp hi
    have e2 : crs (C.map (List.map (vAt A))) u = crs A i := by unfold crs; rw [e1]
    rw [e2]
    rcases hcov i hil (sk_two hd hv hw hil (by omega) e hiv hiw) with ⟨t, ht1, ht2, ht3⟩ | h9
    · refine Or.inl ⟨t, by omega, by rw [fl_map, List.length_map]; omega, ?_⟩
      rw [← ht3]
      unfold crs
      rw [sk_pre hp (by omega)]
    · exact Or.inr h9
  · rw [fl_map, List.length_map]
    exact hlen
theorem flp_vAt {A : rn_L} {b : Nat → Bool} {u : Nat} (hu : u < A.flatten.length) : vAt (A.map (List.map (flp b))) u = flp b (vAt A u) := by
  refine vAt_eq ?_
  rw [fl_map2, List.getElem?_map, vAt_of hu]
  rfl
theorem flp_len {A : rn_L} {b : Nat → Bool} : (A.map (List.map (flp b))).flatten.length = A.flatten.length := by
  rw [fl_map2, List.length_map]
/-- the net that is changed at its first bad visit -/
theorem sk_ch {A : rn_L} {k f v x : Nat} (hF : wkF A.flatten) (hg : gPre A k) (ho : ouT A k f) (hv : v < A.flatten.length) (hx : x = crs A v) (hf : ∀ u, u < v → crs A u ≠ crs A v) (hb : uns A v ≠ 0) (hgood : ∀ u, u < v → (∀ t, t < u → crs A t ≠ crs A u) → uns A u = 0) : ∃ f', f' + 1 ≤ f ∧ wkF (A.map (List.map (flp (fun y => decide (y = x))))).flatten ∧ gPre (A.map (List.map (flp (fun y => decide (y = x))))) (v + 1) ∧ ouT (A.map (List.map (flp (fun y => decide (y = x))))) (v + 1) f' := by
  obtain ⟨hkv, R, hR, hcov⟩ := ou_bad hg ho hv hf hb
  have ec : ∀ {u}, u < A.flatten.length → crs (A.map (List.map (flp (fun y => decide (y = x))))) u = crs A u := fun hu => by
    unfold crs
    rw [flp_vAt hu, flp_1]
  have eu : ∀ {u}, u < A.flatten.length → uns (A.map (List.map (flp (fun y => decide (y = x))))) u = if crs A u = x then 1 - uns A u else uns A u := fun {u} hu => by
    unfold uns
    rw [flp_vAt hu, flp_2]
    by_cases h9 : crs A u = x
    · rw [if_pos h9, if_pos (by exact decide_eq_true h9)]
    · rw [if_neg h9]
      exact if_neg (fun h8 => h9 (of_decide_eq_true h8))
  refine ⟨R.length, by omega, by rw [fl_map2]; exact wkF_flp hF, fun u hu hul hfu => ?_, R, Nat.le_refl _, fun u hu => ?_⟩
  · rw [flp_len] at hul
    rw [eu hul]
    by_cases huv : u = v
    · rw [huv, if_pos hx.symm]
      omega
    · have h1 : u < v := by omega
      rw [if_neg (by rw [hx]; exact hf u h1)]
      refine hgood u h1 (fun t ht e9 => hfu t ht ?_)
      rw [ec (by omega), ec hul]
      exact e9
  · rw [flp_len] at hu
    rw [ec hu]
    by_cases h9 : crs A u = crs A v
    · exact Or.inl ⟨v, by omega, by rw [flp_len]; exact hv, by rw [ec hv]; exact h9.symm⟩
    · rcases hcov u hu h9 with ⟨t, t1, t2, t3⟩ | h8
      · exact Or.inl ⟨t, by omega, by rw [flp_len]; exact t2, by rw [ec t2]; exact t3⟩
      · exact Or.inr h8
/-- no circles at all -/
theorem tp_leaf0 {j : Nat} {a : Int32} {s : Int64} {z : ow_MS} (hj : j ≤ 12) : Te (fun K => qe_X13_leaf K (nI 0) s a (nI j) z) (fun z1 => fr (fun g => g = 42 ∨ g = 44) z z1) := by
  refine e_X13_leaf ?_
  refine u_X13_leaf_0 ?_; unfold qm_X13_leaf_0
  rw [show nI 0 - 1 = -1 from rfl]
  refine w_rdF rfl (w_if (fun _ => w_rdJ ml42 rfl (by omega) rfl (w_if (fun _ => w_wrJ ml42 rfl (by omega) (w_some (fr_J (Or.inl rfl)))) (fun _ => w_wrJ ml42 rfl (by omega) (w_some (fr_J (Or.inl rfl)))))) (fun _ => ?_))
  refine u_X13_leaf_1 ?_; unfold qm_X13_leaf_1
  exact w_ifT (by decide) (w_some fr_rf)
theorem sk_pw {a : Nat} (ha : 1 ≤ a) : nI a - 40 + (-1) = nI (a - 1) - 40 ∧ nI a - 40 + 1 = nI (a + 1) - 40 := by
  constructor
  · rw [Int32.sub_eq_add_neg, Int32.add_assoc, Int32.add_comm (-40) (-1), ← Int32.add_assoc, ← Int32.sub_eq_add_neg, show nI a + (-1) = nI (a - 1) from by rw [← Int32.sub_eq_add_neg]; exact pk_sub (b := 1) ha]
  · rw [Int32.sub_eq_add_neg, Int32.add_assoc, Int32.add_comm (-40) 1, ← Int32.add_assoc, ← Int32.sub_eq_add_neg, nI_1]
theorem sk_pw2 {a : Nat} (ha : 2 ≤ a) : nI a - 40 + (-2) = nI (a - 2) - 40 ∧ nI a - 40 + 2 = nI (a + 2) - 40 := by
  constructor
  · rw [Int32.sub_eq_add_neg, Int32.add_assoc, Int32.add_comm (-40) (-2), ← Int32.add_assoc, ← Int32.sub_eq_add_neg, show nI a + (-2) = nI (a - 2) from by rw [← Int32.sub_eq_add_neg]; exact pk_sub (b := 2) ha]
  · rw [Int32.sub_eq_add_neg, Int32.add_assoc, Int32.add_comm (-40) 2, ← Int32.add_assoc, ← Int32.sub_eq_add_neg, show nI a + 2 = nI (a + 2) from nI_add a 2]
/-- the handles that skein at a depth may change -/
abbrev skH (d g : Nat) : Prop := 1000 * (d + 5) ≤ g ∨ g = 41 ∨ g = 42 ∨ g = 44
def metR (A : rn_L) (v : Nat) (y : ow_MS) : Prop := ∀ x, x < 40 → (y.2.1 41 x = 0 ∧ ∀ u, u < v → crs A u ≠ x) ∨ (y.2.1 41 x = 1 ∧ ∃ u, u < v ∧ crs A u = x)
theorem w_qd {dd : Nat} {x1 x4 x5 : Int32} {w2 : Int64} {z : ow_MS} {Q : ow_MS → Prop} (H : Tt (fun K k => q_X13_skein K (qd_X13_skein K dd) k 0 x1 x4 x5 0 0 0 0 0 w2 0 0 0 0 0 0 0 0 0 z) Q) : Te (fun K => qd_X13_skein K (dd + 1) x1 w2 x4 x5 z) Q := w_te H
theorem u_X13_skein_5 {dd : Nat} {x1 : Int32} {x4 : Int32} {x5 : Int32} {x7 : Int32} {x8 : Int32} {x9 : Int32} {x10 : Int32} {x11 : Int32} {w2 : Int64} {r6 : Nat} {r12 : Nat} {t0 : Int32} {t1 : Int32} {t2 : Int32} {t3 : Int32} {y0 : Int64} {y1 : Int64} {y2 : Int64} {z : ow_MS} {Q : ow_MS → Prop} (H : Tt (fun K k => qm_X13_skein_5 K (qd_X13_skein K dd) (q_X13_skein K (qd_X13_skein K dd) k) x1 x4 x5 x7 x8 x9 x10 x11 w2 r6 r12 t0 t1 t2 t3 y0 y1 y2 z) Q) : Tt (fun K k => q_X13_skein K (qd_X13_skein K dd) k 5 x1 x4 x5 x7 x8 x9 x10 x11 w2 r6 r12 t0 t1 t2 t3 y0 y1 y2 z) Q := w_un (fun _ _ => rfl) H
theorem u_X13_skein_13 {dd : Nat} {x1 : Int32} {x4 : Int32} {x5 : Int32} {x7 : Int32} {x8 : Int32} {x9 : Int32} {x10 : Int32} {x11 : Int32} {w2 : Int64} {r6 : Nat} {r12 : Nat} {t0 : Int32} {t1 : Int32} {t2 : Int32} {t3 : Int32} {y0 : Int64} {y1 : Int64} {y2 : Int64} {z : ow_MS} {Q : ow_MS → Prop} (H : Tt (fun K k => qm_X13_skein_13 K (qd_X13_skein K dd) (q_X13_skein K (qd_X13_skein K dd) k) x1 x4 x5 x7 x8 x9 x10 x11 w2 r6 r12 t0 t1 t2 t3 y0 y1 y2 z) Q) : Tt (fun K k => q_X13_skein K (qd_X13_skein K dd) k 13 x1 x4 x5 x7 x8 x9 x10 x11 w2 r6 r12 t0 t1 t2 t3 y0 y1 y2 z) Q := w_un (fun _ _ => rfl) H
theorem u_X13_skein_8 {dd : Nat} {x1 : Int32} {x4 : Int32} {x5 : Int32} {x7 : Int32} {x8 : Int32} {x9 : Int32} {x10 : Int32} {x11 : Int32} {w2 : Int64} {r6 : Nat} {r12 : Nat} {t0 : Int32} {t1 : Int32} {t2 : Int32} {t3 : Int32} {y0 : Int64} {y1 : Int64} {y2 : Int64} {z : ow_MS} {Q : ow_MS → Prop} (H : Tt (fun K k => qm_X13_skein_8 K (qd_X13_skein K dd) (q_X13_skein K (qd_X13_skein K dd) k) x1 x4 x5 x7 x8 x9 x10 x11 w2 r6 r12 t0 t1 t2 t3 y0 y1 y2 z) Q) : Tt (fun K k => q_X13_skein K (qd_X13_skein K dd) k 8 x1 x4 x5 x7 x8 x9 x10 x11 w2 r6 r12 t0 t1 t2 t3 y0 y1 y2 z) Q := w_un (fun _ _ => rfl) H
theorem u_X13_skein_11 {dd : Nat} {x1 : Int32} {x4 : Int32} {x5 : Int32} {x7 : Int32} {x8 : Int32} {x9 : Int32} {x10 : Int32} {x11 : Int32} {w2 : Int64} {r6 : Nat} {r12 : Nat} {t0 : Int32} {t1 : Int32} {t2 : Int32} {t3 : Int32} {y0 : Int64} {y1 : Int64} {y2 : Int64} {z : ow_MS} {Q : ow_MS → Prop} (H : Tt (fun K k => qm_X13_skein_11 K (qd_X13_skein K dd) (q_X13_skein K (qd_X13_skein K dd) k) x1 x4 x5 x7 x8 x9 x10 x11 w2 r6 r12 t0 t1 t2 t3 y0 y1 y2 z) Q) : Tt (fun K k => q_X13_skein K (qd_X13_skein K dd) k 11 x1 x4 x5 x7 x8 x9 x10 x11 w2 r6 r12 t0 t1 t2 t3 y0 y1 y2 z) Q := w_un (fun _ _ => rfl) H
theorem u_X13_skein_12 {dd : Nat} {x1 : Int32} {x4 : Int32} {x5 : Int32} {x7 : Int32} {x8 : Int32} {x9 : Int32} {x10 : Int32} {x11 : Int32} {w2 : Int64} {r6 : Nat} {r12 : Nat} {t0 : Int32} {t1 : Int32} {t2 : Int32} {t3 : Int32} {y0 : Int64} {y1 : Int64} {y2 : Int64} {z : ow_MS} {Q : ow_MS → Prop} (H : Tt (fun K k => qm_X13_skein_12 K (qd_X13_skein K dd) (q_X13_skein K (qd_X13_skein K dd) k) x1 x4 x5 x7 x8 x9 x10 x11 w2 r6 r12 t0 t1 t2 t3 y0 y1 y2 z) Q) : Tt (fun K k => q_X13_skein K (qd_X13_skein K dd) k 12 x1 x4 x5 x7 x8 x9 x10 x11 w2 r6 r12 t0 t1 t2 t3 y0 y1 y2 z) Q := w_un (fun _ _ => rfl) H
theorem u_X13_skein_9 {dd : Nat} {x1 : Int32} {x4 : Int32} {x5 : Int32} {x7 : Int32} {x8 : Int32} {x9 : Int32} {x10 : Int32} {x11 : Int32} {w2 : Int64} {r6 : Nat} {r12 : Nat} {t0 : Int32} {t1 : Int32} {t2 : Int32} {t3 : Int32} {y0 : Int64} {y1 : Int64} {y2 : Int64} {z : ow_MS} {Q : ow_MS → Prop} (H : Tt (fun K k => qm_X13_skein_9 K (qd_X13_skein K dd) (q_X13_skein K (qd_X13_skein K dd) k) x1 x4 x5 x7 x8 x9 x10 x11 w2 r6 r12 t0 t1 t2 t3 y0 y1 y2 z) Q) : Tt (fun K k => q_X13_skein K (qd_X13_skein K dd) k 9 x1 x4 x5 x7 x8 x9 x10 x11 w2 r6 r12 t0 t1 t2 t3 y0 y1 y2 z) Q := w_un (fun _ _ => rfl) H
theorem u_X13_skein_10 {dd : Nat} {x1 : Int32} {x4 : Int32} {x5 : Int32} {x7 : Int32} {x8 : Int32} {x9 : Int32} {x10 : Int32} {x11 : Int32} {w2 : Int64} {r6 : Nat} {r12 : Nat} {t0 : Int32} {t1 : Int32} {t2 : Int32} {t3 : Int32} {y0 : Int64} {y1 : Int64} {y2 : Int64} {z : ow_MS} {Q : ow_MS → Prop} (H : Tt (fun K k => qm_X13_skein_10 K (qd_X13_skein K dd) (q_X13_skein K (qd_X13_skein K dd) k) x1 x4 x5 x7 x8 x9 x10 x11 w2 r6 r12 t0 t1 t2 t3 y0 y1 y2 z) Q) : Tt (fun K k => q_X13_skein K (qd_X13_skein K dd) k 10 x1 x4 x5 x7 x8 x9 x10 x11 w2 r6 r12 t0 t1 t2 t3 y0 y1 y2 z) Q := w_un (fun _ _ => rfl) H
theorem u_X13_skein_7 {dd : Nat} {x1 : Int32} {x4 : Int32} {x5 : Int32} {x7 : Int32} {x8 : Int32} {x9 : Int32} {x10 : Int32} {x11 : Int32} {w2 : Int64} {r6 : Nat} {r12 : Nat} {t0 : Int32} {t1 : Int32} {t2 : Int32} {t3 : Int32} {y0 : Int64} {y1 : Int64} {y2 : Int64} {z : ow_MS} {Q : ow_MS → Prop} (H : Tt (fun K k => qm_X13_skein_7 K (qd_X13_skein K dd) (q_X13_skein K (qd_X13_skein K dd) k) x1 x4 x5 x7 x8 x9 x10 x11 w2 r6 r12 t0 t1 t2 t3 y0 y1 y2 z) Q) : Tt (fun K k => q_X13_skein K (qd_X13_skein K dd) k 7 x1 x4 x5 x7 x8 x9 x10 x11 w2 r6 r12 t0 t1 t2 t3 y0 y1 y2 z) Q := w_un (fun _ _ => rfl) H
theorem u_X13_skein_6 {dd : Nat} {x1 : Int32} {x4 : Int32} {x5 : Int32} {x7 : Int32} {x8 : Int32} {x9 : Int32} {x10 : Int32} {x11 : Int32} {w2 : Int64} {r6 : Nat} {r12 : Nat} {t0 : Int32} {t1 : Int32} {t2 : Int32} {t3 : Int32} {y0 : Int64} {y1 : Int64} {y2 : Int64} {z : ow_MS} {Q : ow_MS → Prop} (H : Tt (fun K k => qm_X13_skein_6 K (qd_X13_skein K dd) (q_X13_skein K (qd_X13_skein K dd) k) x1 x4 x5 x7 x8 x9 x10 x11 w2 r6 r12 t0 t1 t2 t3 y0 y1 y2 z) Q) : Tt (fun K k => q_X13_skein K (qd_X13_skein K dd) k 6 x1 x4 x5 x7 x8 x9 x10 x11 w2 r6 r12 t0 t1 t2 t3 y0 y1 y2 z) Q := w_un (fun _ _ => rfl) H
theorem u_X13_skein_2 {dd : Nat} {x1 : Int32} {x4 : Int32} {x5 : Int32} {x7 : Int32} {x8 : Int32} {x9 : Int32} {x10 : Int32} {x11 : Int32} {w2 : Int64} {r6 : Nat} {r12 : Nat} {t0 : Int32} {t1 : Int32} {t2 : Int32} {t3 : Int32} {y0 : Int64} {y1 : Int64} {y2 : Int64} {z : ow_MS} {Q : ow_MS → Prop} (H : Tt (fun K k => qm_X13_skein_2 K (qd_X13_skein K dd) (q_X13_skein K (qd_X13_skein K dd) k) x1 x4 x5 x7 x8 x9 x10 x11 w2 r6 r12 t0 t1 t2 t3 y0 y1 y2 z) Q) : Tt (fun K k => q_X13_skein K (qd_X13_skein K dd) k 2 x1 x4 x5 x7 x8 x9 x10 x11 w2 r6 r12 t0 t1 t2 t3 y0 y1 y2 z) Q := w_un (fun _ _ => rfl) H
theorem u_X13_skein_4 {dd : Nat} {x1 : Int32} {x4 : Int32} {x5 : Int32} {x7 : Int32} {x8 : Int32} {x9 : Int32} {x10 : Int32} {x11 : Int32} {w2 : Int64} {r6 : Nat} {r12 : Nat} {t0 : Int32} {t1 : Int32} {t2 : Int32} {t3 : Int32} {y0 : Int64} {y1 : Int64} {y2 : Int64} {z : ow_MS} {Q : ow_MS → Prop} (H : Tt (fun K k => qm_X13_skein_4 K (qd_X13_skein K dd) (q_X13_skein K (qd_X13_skein K dd) k) x1 x4 x5 x7 x8 x9 x10 x11 w2 r6 r12 t0 t1 t2 t3 y0 y1 y2 z) Q) : Tt (fun K k => q_X13_skein K (qd_X13_skein K dd) k 4 x1 x4 x5 x7 x8 x9 x10 x11 w2 r6 r12 t0 t1 t2 t3 y0 y1 y2 z) Q := w_un (fun _ _ => rfl) H
theorem u_X13_skein_3 {dd : Nat} {x1 : Int32} {x4 : Int32} {x5 : Int32} {x7 : Int32} {x8 : Int32} {x9 : Int32} {x10 : Int32} {x11 : Int32} {w2 : Int64} {r6 : Nat} {r12 : Nat} {t0 : Int32} {t1 : Int32} {t2 : Int32} {t3 : Int32} {y0 : Int64} {y1 : Int64} {y2 : Int64} {z : ow_MS} {Q : ow_MS → Prop} (H : Tt (fun K k => qm_X13_skein_3 K (qd_X13_skein K dd) (q_X13_skein K (qd_X13_skein K dd) k) x1 x4 x5 x7 x8 x9 x10 x11 w2 r6 r12 t0 t1 t2 t3 y0 y1 y2 z) Q) : Tt (fun K k => q_X13_skein K (qd_X13_skein K dd) k 3 x1 x4 x5 x7 x8 x9 x10 x11 w2 r6 r12 t0 t1 t2 t3 y0 y1 y2 z) Q := w_un (fun _ _ => rfl) H
theorem u_X13_skein_1 {dd : Nat} {x1 : Int32} {x4 : Int32} {x5 : Int32} {x7 : Int32} {x8 : Int32} {x9 : Int32} {x10 : Int32} {x11 : Int32} {w2 : Int64} {r6 : Nat} {r12 : Nat} {t0 : Int32} {t1 : Int32} {t2 : Int32} {t3 : Int32} {y0 : Int64} {y1 : Int64} {y2 : Int64} {z : ow_MS} {Q : ow_MS → Prop} (H : Tt (fun K k => qm_X13_skein_1 K (qd_X13_skein K dd) (q_X13_skein K (qd_X13_skein K dd) k) x1 x4 x5 x7 x8 x9 x10 x11 w2 r6 r12 t0 t1 t2 t3 y0 y1 y2 z) Q) : Tt (fun K k => q_X13_skein K (qd_X13_skein K dd) k 1 x1 x4 x5 x7 x8 x9 x10 x11 w2 r6 r12 t0 t1 t2 t3 y0 y1 y2 z) Q := w_un (fun _ _ => rfl) H
theorem u_X13_skein_0 {dd : Nat} {x1 : Int32} {x4 : Int32} {x5 : Int32} {x7 : Int32} {x8 : Int32} {x9 : Int32} {x10 : Int32} {x11 : Int32} {w2 : Int64} {r6 : Nat} {r12 : Nat} {t0 : Int32} {t1 : Int32} {t2 : Int32} {t3 : Int32} {y0 : Int64} {y1 : Int64} {y2 : Int64} {z : ow_MS} {Q : ow_MS → Prop} (H : Tt (fun K k => qm_X13_skein_0 K (qd_X13_skein K dd) (q_X13_skein K (qd_X13_skein K dd) k) x1 x4 x5 x7 x8 x9 x10 x11 w2 r6 r12 t0 t1 t2 t3 y0 y1 y2 z) Q) : Tt (fun K k => q_X13_skein K (qd_X13_skein K dd) k 0 x1 x4 x5 x7 x8 x9 x10 x11 w2 r6 r12 t0 t1 t2 t3 y0 y1 y2 z) Q := w_un (fun _ _ => rfl) H
theorem tp_skein : ∀ (f depth dd k j a : Nat) (A : rn_L) (s : Int64) (z : ow_MS), f < dd → depth + f ≤ 12 → j ≤ depth → wkF A.flatten → A.flatten.length ≤ 24 → A.length ≤ 6 + j → rn_At z (1000 * (depth + 4)) A [] → gPre A k → ouT A k f → 40 ≤ a + 2 * depth → a ≤ 40 + 2 * depth → Te (fun K => qd_X13_skein K dd (nI depth) s (nI a - 40) (nI j) z) (fun z1 => fr (skH depth) z z1) := by
  intro f
  induction f using Nat.strongRecOn with
  | ind f ih =>
  intro depth dd k j a A s z hdd hdf hj hF hl hC hA hg ho ha1 ha2
  obtain ⟨dd, rfl⟩ : ∃ d', dd = d' + 1 := ⟨dd - 1, by omega⟩
  have hd := wkF_ok hF
  have hn : mw_net (1000 * (depth + 4)) := pnL (by omega)
  have hn2 : mw_net (1000 * (depth + 1 + 4)) := pnL (by omega)
  have cx : ∀ {i}, i < A.flatten.length → crs A i < 40 ∧ uns A i < 2 := fun hi => by
    obtain ⟨g1, g2, -⟩ := hF.2 _ (List.mem_of_getElem? (vAt_of hi))
    exact ⟨g1, g2⟩
  let Q : ow_MS → Prop := fun z1 => fr (skH depth) z z1
  have mono41 : ∀ {y : ow_MS}, fr (fun g => g = 41) z y → fr (skH depth) z y := fun hf => fr_mono (fun g hg => Or.inr (Or.inl hg)) hf
  have aA : ∀ {y : ow_MS}, fr (fun g => g = 41) z y → rn_At y (1000 * (depth + 4)) A [] := fun hf => fr_At hf (fun g hg => by omega) hA
  have aV : ∀ {y : ow_MS}, fr (fun g => g = 41) z y → y.1 (1000 * (depth + 4) + 1) = nI A.flatten.length := fun hf => by rw [(aA hf).1, List.append_nil]
  have c5 : ∀ (x8 : Int32) (y : ow_MS), fr (fun g => g = 41) z y → Tt (fun K i => q_X13_skein K (qd_X13_skein K dd) i 5 (nI depth) (nI a - 40) (nI j) (-1) x8 0 0 0 s (1000 * (depth + 4)) 0 0 0 0 0 0 0 0 y) Q := by
    intro x8 y hf
    refine u_X13_skein_5 ?_; unfold qm_X13_skein_5
    refine w_ifT rfl (w_rdF (aA hf).2.1 (w_cs0 (R := fun z1 => fr (fun g => g = 42 ∨ g = 44) y z1) ?_ (fun z1 h9 => w_some ?_)))
    · rcases Nat.eq_zero_or_pos A.length with h0 | h0
      · rw [h0]; exact tp_leaf0 (by omega)
      · exact tp_leaf h0 (by omega) (by omega) (by omega) (by omega)
    · exact fr_tr (mono41 hf) (fr_mono (fun g hg => Or.inr (Or.inr hg)) h9)
  have bad : ∀ (v : Nat) (x8 : Int32) (y : ow_MS), fr (fun g => g = 41) z y → v < A.flatten.length → (∀ u, u < v → crs A u ≠ crs A v) → uns A v ≠ 0 → (∀ u, u < v → (∀ t, t < u → crs A t ≠ crs A u) → uns A u = 0) → Tt (fun K i => q_X13_skein K (qd_X13_skein K dd) i 5 (nI depth) (nI a - 40) (nI j) (nI v) x8 0 0 0 s (1000 * (depth + 4)) 0 0 0 0 0 0 0 0 y) Q := by
    intro v x8 y hf hv hfst hb hgood
    have hAy := aA hf
    obtain ⟨g1, g2, g3⟩ := rn_c_in A v hv
    have hml := mtf_lt hd hv
    have hmc := crs_mtf hd hv
    have hmn := mtf_ne hd hv
    have hvm : v < mtf A v := by
      rcases Nat.lt_or_ge (mtf A v) v with h8 | h8
      · exact absurd hmc (hfst _ h8)
      · omega
    obtain ⟨fc, hfc, kF, kg, ko⟩ := sk_ch (x := crs A v) hF hg ho hv rfl hfst hb hgood
    have c13 : ∀ (a' : Nat) (x : Int32) (x11 : Int32) (s1 : Int64) (y5 : ow_MS), x = nI a' - 40 → 40 ≤ a' + 2 * (depth + 1) → a' ≤ 40 + 2 * (depth + 1) → fr (skH depth) z y5 → rn_At y5 (1000 * (depth + 1 + 4)) (A.map (List.map (flp (fun y => decide (y = crs A v))))) [] → Tt (fun K i => q_X13_skein K (qd_X13_skein K dd) i 13 (nI depth) (nI a - 40) (nI j) (nI v) (nI (rn_c A v)) (nI (crs A v)) (nI (mtf A v)) x11 s (1000 * (depth + 4)) (1000 * (depth + 1 + 4)) x 0 (nI (depth + 1)) 0 0 s1 0 y5) Q := by
      intro a' x x11 s1 y5 hx h1 h2 hf5 hA5
      rw [hx]
      refine u_X13_skein_13 ?_; unfold qm_X13_skein_13
      refine w_cs0 (ih fc (by omega) (depth + 1) dd (v + 1) j a' _ s1 y5 (by omega) (by omega) (by omega) kF (by rw [flp_len]; exact hl) (by rw [List.length_map]; exact hC) hA5 kg ko h1 h2) (fun z6 h6 => w_some ?_)
      exact fr_tr hf5 (fr_mono (fun g hg => by unfold skH at hg ⊢; omega) h6)
    have c8 : ∀ (t0 : Int32), Tt (fun K i => q_X13_skein K (qd_X13_skein K dd) i 8 (nI depth) (nI a - 40) (nI j) (nI v) (nI (rn_c A v)) (nI (crs A v)) (nI (mtf A v)) 0 s (1000 * (depth + 4)) 0 t0 0 0 0 0 0 0 y) Q := by
      intro t0
      refine u_X13_skein_8 ?_; unfold qm_X13_skein_8
      rw [show nI depth + 1 = nI (depth + 1) from nI_1 _]
      refine w_rdN rfl (by omega) (w_cs0 (tp_smoothIn2 hn hn2 (by omega) hl (by omega) hAy g1 g2 g3 hvm hml) (fun z2 ⟨⟨q, hq, C, b1, b2, b3, b4, b5⟩, s2, f2⟩ => ?_))
      obtain ⟨fs, hfs, mF, mg, mo, ml⟩ := sk_sm hF hg ho hv hml hvm hmc hfst hb hgood b3 b4 (fun i hi => b5 i hi ⟨by omega, by omega, by omega⟩)
      have hz2 : fr (skH depth) z z2 := fr_tr (mono41 hf) (fr_mono (fun g hg => Or.inl (by omega)) f2)
      have hA2 : rn_At z2 (1000 * (depth + 4)) A [] := fr_At f2 (fun g hg => by omega) hAy
      have c11 : ∀ (a' : Nat) (x : Int32) (s1 : Int64), x = nI a' - 40 → 40 ≤ a' + 2 * (depth + 1) → a' ≤ 40 + 2 * (depth + 1) → Tt (fun K i => q_X13_skein K (qd_X13_skein K dd) i 11 (nI depth) (nI a - 40) (nI j) (nI v) (nI (rn_c A v)) (nI (crs A v)) (nI (mtf A v)) t0 s (1000 * (depth + 4)) (1000 * (depth + 1 + 4)) x 0 (nI (depth + 1)) 0 0 s1 0 z2) Q := by
        intro a' x s1 hx h1 h2
        rw [hx]
        refine u_X13_skein_11 ?_; unfold qm_X13_skein_11
        rw [show nI depth + 1 = nI (depth + 1) from nI_1 _, show nI j + 1 = nI (j + 1) from nI_1 _]
        refine w_cs0 (ih fs (by omega) (depth + 1) dd v (j + 1) a' _ s1 z2 (by omega) (by omega) (by omega) mF (by omega) (by rw [List.length_map, b1]; omega) b2 mg mo h1 h2) (fun z3 h3 => ?_)
        have hA3 : rn_At z3 (1000 * (depth + 4)) A [] := fr_At h3 (fun g hg => by unfold skH at hg; omega) hA2
        refine w_cs0 (tn_copy hn2 hn (by omega) (by omega) (by omega) hA3) (fun z4 ⟨hA4, f4, _⟩ => w_cs0 (tp_changeIn hn2 (by omega) (cx hv).1 (fun u hu => ⟨(cx hu).2, (cx hu).1⟩) hA4) (fun z5 ⟨hA5, f5, _⟩ => ?_))
        have hz5 : fr (skH depth) z z5 := fr_tr hz2 (fr_tr (fr_mono (fun g hg => by unfold skH at hg ⊢; omega) h3) (fr_tr (fr_mono (fun g hg => Or.inl (by omega)) f4) (fr_mono (fun g hg => Or.inl (by omega)) f5)))
        refine w_rdF rfl (w_if (fun _ => c13 40 _ _ _ z5 rfl (by omega) (by omega) hz5 hA5) (fun _ => w_if (fun _ => ?_) (fun _ => ?_)))
        · refine u_X13_skein_12 ?_; unfold qm_X13_skein_12
          exact c13 (a - 2) _ _ _ z5 (sk_pw2 (by omega)).1 (by omega) (by omega) hz5 hA5
        · refine u_X13_skein_12 ?_; unfold qm_X13_skein_12
          exact c13 (a + 2) _ _ _ z5 (sk_pw2 (by omega)).2 (by omega) (by omega) hz5 hA5
      have c9 : ∀ (y0 : Int64), Tt (fun K i => q_X13_skein K (qd_X13_skein K dd) i 9 (nI depth) (nI a - 40) (nI j) (nI v) (nI (rn_c A v)) (nI (crs A v)) (nI (mtf A v)) t0 s (1000 * (depth + 4)) (1000 * (depth + 1 + 4)) 0 (nI (depth + 1)) 0 0 y0 0 0 z2) Q := by
        intro y0
        refine u_X13_skein_9 ?_; unfold qm_X13_skein_9
        refine w_rdF rfl (w_if (fun _ => c11 40 _ _ rfl (by omega) (by omega)) (fun _ => w_if (fun _ => ?_) (fun _ => ?_)))
        · refine u_X13_skein_10 ?_; unfold qm_X13_skein_10
          exact c11 (a - 1) _ _ (sk_pw (by omega)).1 (by omega) (by omega)
        · refine u_X13_skein_10 ?_; unfold qm_X13_skein_10
          exact c11 (a + 1) _ _ (sk_pw (by omega)).2 (by omega) (by omega)
      exact w_if (fun _ => c9 _) (fun _ => c9 _)
    have c7 : ∀ (d w : Nat), w + d = mtf A v → v < w → Tt (fun K i => q_X13_skein K (qd_X13_skein K dd) i 7 (nI depth) (nI a - 40) (nI j) (nI v) (nI (rn_c A v)) (nI (crs A v)) (nI w) 0 s (1000 * (depth + 4)) 0 0 0 0 0 0 0 0 y) Q := by
      intro d
      induction d with
      | zero =>
        intro w hw hvw
        have hw : w = mtf A v := by omega
        subst hw
        refine u_X13_skein_7 ?_; unfold qm_X13_skein_7
        exact w_rdI (pl4 hn) rfl (by omega) (at_cu hAy hml).1 (w_ifT (by rw [hmc]) (w_rdI (pl6 hn) rfl (cx hv).1 rfl (w_if (fun _ => c8 _) (fun _ => c8 _))))
      | succ d ih7 =>
        intro w hw hvw
        have hwl : w < A.flatten.length := by omega
        refine u_X13_skein_7 ?_; unfold qm_X13_skein_7
        rw [show nI w + 1 = nI (w + 1) from nI_1 _]
        refine w_rdI (pl4 hn) rfl (by omega) (at_cu hAy hwl).1 (w_ifF (fun e9 => ?_) (ih7 (w + 1) (by omega) (by omega)))
        have e8 := (nI_eq (by have := (cx hwl).1; omega) (by have := (cx hv).1; omega)).mp e9
        exact sk_two hd hv hml hwl (by omega) hmc (by omega) (by omega) e8
    have c6 : ∀ (d c : Nat), c + d = rn_c A v → Tt (fun K i => q_X13_skein K (qd_X13_skein K dd) i 6 (nI depth) (nI a - 40) (nI j) (nI v) (nI c) 0 0 0 s (1000 * (depth + 4)) 0 0 0 0 0 0 0 0 y) Q := by
      intro d
      induction d with
      | zero =>
        intro c hc
        have hc : c = rn_c A v := by omega
        subst hc
        refine u_X13_skein_6 ?_; unfold qm_X13_skein_6
        rw [show nI (rn_c A v) + 1 = nI (rn_c A v + 1) from nI_1 _, show nI v + 1 = nI (v + 1) from nI_1 _]
        exact w_rdI (pl3 hn) rfl (by omega) (hAy.2.2.1 _ (by omega)) (w_ltT (by have := rn_b_le A (rn_c A v + 1); unfold rn_b at this; omega) g3 (w_rdI (pl4 hn) rfl (by omega) (at_cu hAy hv).1 (c7 (mtf A v - (v + 1)) (v + 1) (by omega) (by omega))))
      | succ d ih6 =>
        intro c hc
        refine u_X13_skein_6 ?_; unfold qm_X13_skein_6
        rw [show nI c + 1 = nI (c + 1) from nI_1 _]
        have hle : rn_b A (c + 1) ≤ rn_b A (rn_c A v) := rn_b_mono2 (by omega)
        exact w_rdI (pl3 hn) rfl (by omega) (hAy.2.2.1 _ (by omega)) (w_ltF (by omega) (show rn_b A (c + 1) ≤ v by omega) (ih6 (c + 1) (by omega)))
    refine u_X13_skein_5 ?_; unfold qm_X13_skein_5
    exact w_ifF (rn_neg1 (by omega)) (c6 (rn_c A v) 0 (by omega))
  have scan : ∀ (d v : Nat) (y : ow_MS), v + d = A.flatten.length → fr (fun g => g = 41) z y → metR A v y → (∀ u, u < v → (∀ t, t < u → crs A t ≠ crs A u) → uns A u = 0) → Tt (fun K i => q_X13_skein K (qd_X13_skein K dd) i 2 (nI depth) (nI a - 40) (nI j) (-1) (nI v) 0 0 0 s (1000 * (depth + 4)) 0 0 0 0 0 0 0 0 y) Q := by
    intro d
    induction d with
    | zero =>
      intro v y hv hf hm hgd
      refine u_X13_skein_2 ?_; unfold qm_X13_skein_2
      exact w_rdF (aV hf) (w_leT (by omega) (by omega) (c5 _ y hf))
    | succ d ihs =>
      intro v y hv hf hm hgd
      have hvl : v < A.flatten.length := by omega
      have hcv := cx hvl
      have next : ∀ (y2 : ow_MS), fr (fun g => g = 41) z y2 → metR A (v + 1) y2 → (∀ u, u < v + 1 → (∀ t, t < u → crs A t ≠ crs A u) → uns A u = 0) → Tt (fun K i => q_X13_skein K (qd_X13_skein K dd) i 4 (nI depth) (nI a - 40) (nI j) (-1) (nI v) (nI (crs A v)) 0 0 s (1000 * (depth + 4)) 0 0 0 0 0 0 0 0 y2) Q := by
        intro y2 hf2 hm2 hg2
        refine u_X13_skein_4 ?_; unfold qm_X13_skein_4
        rw [show nI v + 1 = nI (v + 1) from nI_1 _]
        exact ihs (v + 1) y2 (by omega) hf2 hm2 hg2
      refine u_X13_skein_2 ?_; unfold qm_X13_skein_2
      refine w_rdF (aV hf) (w_leF (by omega) hvl (w_ifT rfl (w_rdI (pl4 hn) rfl (by omega) (at_cu (aA hf) hvl).1 (w_rdI ml41 rfl hcv.1 rfl ?_))))
      rcases hm _ hcv.1 with ⟨e0, hno⟩ | ⟨e1, u, hu, hue⟩
      · rw [e0]
        have hf2 : fr (fun g => g = 41) z (usI y 41 (crs A v) (vp_nar .boolean 1)) := fr_I2 hf rfl
        refine w_ifT rfl (w_wrZ ml41 rfl hcv.1 (w_rdI (pl5 hn) rfl (by omega) (at_cu (aA hf2) hvl).2 (w_if (fun h9 => ?_) (fun h9 => ?_))))
        · have hb : uns A v ≠ 0 := fun e => by rw [e] at h9; exact absurd h9 (by decide)
          refine u_X13_skein_3 ?_; unfold qm_X13_skein_3
          refine u_X13_skein_4 ?_; unfold qm_X13_skein_4
          rw [show nI v + 1 = nI (v + 1) from nI_1 _]
          refine u_X13_skein_2 ?_; unfold qm_X13_skein_2
          exact w_rdF (aV hf2) (w_le (by omega) (by omega) (fun _ => bad v _ _ hf2 hvl hno hb hgd) (fun _ => w_ifF (rn_neg1 (by omega)) (bad v _ _ hf2 hvl hno hb hgd)))
        · have hb : uns A v = 0 := by
            rcases Nat.eq_zero_or_pos (uns A v) with h8 | h8
            · exact h8
            · exact absurd (show nI (uns A v) = 1 by rw [show uns A v = 1 by omega]; rfl) h9
          refine u_X13_skein_3 ?_; unfold qm_X13_skein_3
          refine next _ hf2 (fun x hx => ?_) (fun u hu hfu => ?_)
          · by_cases hxv : x = crs A v
            · rw [hxv]
              exact Or.inr ⟨po_usI_at.trans (by decide), v, by omega, rfl⟩
            · rcases hm x hx with ⟨a1, a2⟩ | ⟨a1, u, hu, a2⟩
              · refine Or.inl ⟨rd_ne hxv a1, fun u hu e => ?_⟩
                by_cases huv : u = v
                · rw [huv] at e
                  exact hxv e.symm
                · exact a2 u (by omega) e
              · exact Or.inr ⟨rd_ne hxv a1, u, by omega, a2⟩
          · by_cases huv : u = v
            · rw [huv]; exact hb
            · exact hgd u (by omega) hfu
      · rw [e1]
        refine w_ifF (by decide) (next y hf (fun x hx => ?_) (fun t ht hft => ?_))
        · rcases hm x hx with ⟨a1, a2⟩ | ⟨a1, t, ht, a2⟩
          · refine Or.inl ⟨a1, fun t ht e => ?_⟩
            by_cases htv : t = v
            · rw [htv] at e
              exact a2 u hu (hue.trans e)
            · exact a2 t (by omega) e
          · exact Or.inr ⟨a1, t, by omega, a2⟩
        · by_cases htv : t = v
          · rw [htv] at hft
            exact absurd hue (hft u hu)
          · exact hgd t (by omega) hft
  have clr : ∀ (d i : Nat) (y : ow_MS), i + d = 40 → fr (fun g => g = 41) z y → (∀ x, x < i → y.2.1 41 x = 0) → Tt (fun K t => q_X13_skein K (qd_X13_skein K dd) t 1 (nI depth) (nI a - 40) (nI j) (nI i) 0 0 0 0 s (1000 * (depth + 4)) 0 0 0 0 0 0 0 0 y) Q := by
    intro d
    induction d with
    | zero =>
      intro i y hi hf hx
      refine u_X13_skein_1 ?_; unfold qm_X13_skein_1
      exact w_leT (a := 40) (by omega) (by omega) (scan A.flatten.length 0 y (by omega) hf (fun x h9 => Or.inl ⟨hx x (by omega), fun u hu => absurd hu (by omega)⟩) (fun u hu => absurd hu (by omega)))
    | succ d ihc =>
      intro i y hi hf hx
      refine u_X13_skein_1 ?_; unfold qm_X13_skein_1
      rw [show nI i + 1 = nI (i + 1) from nI_1 _]
      refine w_leF (a := 40) (by omega) (by omega) (w_wrZ ml41 rfl (by omega) (ihc (i + 1) _ (by omega) (fr_I2 hf rfl) (fun x h9 => ?_)))
      by_cases hxi : x = i
      · rw [hxi]
        exact po_usI_at.trans (by decide)
      · exact rd_ne hxi (hx x (by omega))
  refine w_qd ?_
  refine u_X13_skein_0 ?_; unfold qm_X13_skein_0
  exact w_rdN rfl (by omega) (clr 40 0 z (by omega) fr_rf (fun x hx => absurd hx (by omega)))
