/-! the arcs of the reference -/
def inR (y : ow_MS) (h v m : Nat) : Prop := ∃ i, i < m ∧ y.2.1 h v = nI i
theorem inR_mono {y : ow_MS} {h v m k : Nat} (hm : m ≤ k) (h9 : inR y h v m) : inR y h v k := by
  obtain ⟨i, h1, h2⟩ := h9
  exact ⟨i, by omega, h2⟩
theorem inR_fr {P : Nat → Prop} {y y1 : ow_MS} {h v m : Nat} (hf : fr P y y1) (hP : ¬ P h) (h9 : inR y h v m) : inR y1 h v m := by
  obtain ⟨i, h1, h2⟩ := h9
  exact ⟨i, h1, by rw [(hf h hP).2.1]; exact h2⟩
theorem inR_set {y : ow_MS} {h v m i : Nat} (hi : i < m) : inR (usI y h v (nI i)) h v m := ⟨i, hi, po_usI_at⟩
theorem inR_keep {y : ow_MS} {h v m w : Nat} {x : Int32} (h9 : inR y h v m) (hx : ∃ i, i < m ∧ x = nI i) : inR (usI y h w x) h v m := by
  by_cases hv : v = w
  · obtain ⟨i, hi, e⟩ := hx
    rw [hv]
    exact ⟨i, hi, po_usI_at.trans e⟩
  · obtain ⟨i, h1, h2⟩ := h9
    exact ⟨i, h1, rd_ne hv h2⟩
theorem inR_ot {y : ow_MS} {h v m w g : Nat} {x : Int32} (hg : h ≠ g) (h9 : inR y h v m) : inR (usI y g w x) h v m := by
  obtain ⟨i, h1, h2⟩ := h9
  exact ⟨i, h1, rd_ot hg h2⟩
/-- how many visits under stand before v -/
def uN (A : rn_L) : Nat → Nat
  | 0 => 0
  | v + 1 => uN A v + if uns A v = 0 then 0 else 1
theorem uN_mono {A : rn_L} {a : Nat} : ∀ b, a ≤ b → uN A a ≤ uN A b
  | 0, h => by rw [show a = 0 by omega]; exact Nat.le_refl _
  | b + 1, h => by
    by_cases e : a = b + 1
    · rw [e]; exact Nat.le_refl _
    · have := uN_mono (A := A) (a := a) b (by omega)
      show uN A a ≤ uN A b + _
      omega
theorem uN_ov {A : rn_L} : ∀ V, uN A V + (ovs A V).length = V
  | 0 => rfl
  | v + 1 => by
    have ih := uN_ov (A := A) v
    have e : (ovs A (v + 1)).length = (ovs A v).length + if uns A v = 0 then 1 else 0 := by
      unfold ovs
      rw [List.range_succ, List.filter_append, List.length_append]
      by_cases h : uns A v = 0
      · rw [if_pos h, List.filter_cons_of_pos (p := fun u => decide (uns A u = 0)) (decide_eq_true h)]
        rfl
      · rw [if_neg h, List.filter_cons_of_neg (p := fun u => decide (uns A u = 0)) (by simpa using h)]
        rfl
    rw [e]
    show uN A v + _ + _ = _
    by_cases h : uns A v = 0
    · rw [if_pos h, if_pos h]; omega
    · rw [if_neg h, if_neg h]; omega
theorem ok_u {A : rn_L} {c x : Nat} (h : okF A.flatten c) (hx : x < c) (u : Nat) (hu : u < 2) : ∃ t, t < A.flatten.length ∧ crs A t = x ∧ uns A t = u := by
  obtain ⟨t, ht, e⟩ := List.getElem_of_mem ((h.2 (x, u)).mpr ⟨hx, hu⟩)
  refine ⟨t, ht, ?_, ?_⟩
  · unfold crs
    rw [vAt_eq (List.getElem?_eq_getElem ht), e]
  · unfold uns
    rw [vAt_eq (List.getElem?_eq_getElem ht), e]
/-- half the visits are under -/
theorem uN_c {A : rn_L} {c : Nat} (hok : okF A.flatten c) : uN A A.flatten.length ≤ c := by
  have h1 := uN_ov (A := A) A.flatten.length
  have h2 := okF_len hok
  have h3 : c ≤ (ovs A A.flatten.length).length := by
    have := nodup_le (List.range c) ((ovs A A.flatten.length).map (crs A)) List.nodup_range (fun x hx => by
      obtain ⟨t, t1, t2, t3⟩ := ok_u hok (List.mem_range.mp hx) 0 (by omega)
      exact List.mem_map.mpr ⟨t, List.mem_filter.mpr ⟨List.mem_range.mpr t1, decide_eq_true t3⟩, t2⟩)
    rw [List.length_range, List.length_map] at this
    exact this
  omega
/-- what makeArcs leaves: a arcs, and the three of each crossing -/
def arcI (y : ow_MS) (c a : Nat) : Prop := y.1 58 = nI a ∧ ∀ x, x < c → inR y 61 x a ∧ inR y 62 x a ∧ inR y 63 x a
abbrev arcH (g : Nat) : Prop := 58 ≤ g ∧ g ≤ 63
section ARC
variable {z : ow_MS}
theorem u_X13_makeArcs_8 {x2 : Int32} {x3 : Int32} {x4 : Int32} {r1 : Nat} {t0 : Int32} {z : ow_MS} {Q : ow_MS → Prop} (H : Tt (fun K k => qm_X13_makeArcs_8 K (q_X13_makeArcs K k) x2 x3 x4 r1 t0 z) Q) : Tt (fun K k => q_X13_makeArcs K k 8 x2 x3 x4 r1 t0 z) Q := w_un (fun _ _ => rfl) H
theorem u_X13_makeArcs_9 {x2 : Int32} {x3 : Int32} {x4 : Int32} {r1 : Nat} {t0 : Int32} {z : ow_MS} {Q : ow_MS → Prop} (H : Tt (fun K k => qm_X13_makeArcs_9 K (q_X13_makeArcs K k) x2 x3 x4 r1 t0 z) Q) : Tt (fun K k => q_X13_makeArcs K k 9 x2 x3 x4 r1 t0 z) Q := w_un (fun _ _ => rfl) H
theorem u_X13_makeArcs_1 {x2 : Int32} {x3 : Int32} {x4 : Int32} {r1 : Nat} {t0 : Int32} {z : ow_MS} {Q : ow_MS → Prop} (H : Tt (fun K k => qm_X13_makeArcs_1 K (q_X13_makeArcs K k) x2 x3 x4 r1 t0 z) Q) : Tt (fun K k => q_X13_makeArcs K k 1 x2 x3 x4 r1 t0 z) Q := w_un (fun _ _ => rfl) H
theorem u_X13_makeArcs_7 {x2 : Int32} {x3 : Int32} {x4 : Int32} {r1 : Nat} {t0 : Int32} {z : ow_MS} {Q : ow_MS → Prop} (H : Tt (fun K k => qm_X13_makeArcs_7 K (q_X13_makeArcs K k) x2 x3 x4 r1 t0 z) Q) : Tt (fun K k => q_X13_makeArcs K k 7 x2 x3 x4 r1 t0 z) Q := w_un (fun _ _ => rfl) H
theorem u_X13_makeArcs_4 {x2 : Int32} {x3 : Int32} {x4 : Int32} {r1 : Nat} {t0 : Int32} {z : ow_MS} {Q : ow_MS → Prop} (H : Tt (fun K k => qm_X13_makeArcs_4 K (q_X13_makeArcs K k) x2 x3 x4 r1 t0 z) Q) : Tt (fun K k => q_X13_makeArcs K k 4 x2 x3 x4 r1 t0 z) Q := w_un (fun _ _ => rfl) H
theorem u_X13_makeArcs_6 {x2 : Int32} {x3 : Int32} {x4 : Int32} {r1 : Nat} {t0 : Int32} {z : ow_MS} {Q : ow_MS → Prop} (H : Tt (fun K k => qm_X13_makeArcs_6 K (q_X13_makeArcs K k) x2 x3 x4 r1 t0 z) Q) : Tt (fun K k => q_X13_makeArcs K k 6 x2 x3 x4 r1 t0 z) Q := w_un (fun _ _ => rfl) H
theorem u_X13_makeArcs_5 {x2 : Int32} {x3 : Int32} {x4 : Int32} {r1 : Nat} {t0 : Int32} {z : ow_MS} {Q : ow_MS → Prop} (H : Tt (fun K k => qm_X13_makeArcs_5 K (q_X13_makeArcs K k) x2 x3 x4 r1 t0 z) Q) : Tt (fun K k => q_X13_makeArcs K k 5 x2 x3 x4 r1 t0 z) Q := w_un (fun _ _ => rfl) H
theorem u_X13_makeArcs_2 {x2 : Int32} {x3 : Int32} {x4 : Int32} {r1 : Nat} {t0 : Int32} {z : ow_MS} {Q : ow_MS → Prop} (H : Tt (fun K k => qm_X13_makeArcs_2 K (q_X13_makeArcs K k) x2 x3 x4 r1 t0 z) Q) : Tt (fun K k => q_X13_makeArcs K k 2 x2 x3 x4 r1 t0 z) Q := w_un (fun _ _ => rfl) H
theorem u_X13_makeArcs_3 {x2 : Int32} {x3 : Int32} {x4 : Int32} {r1 : Nat} {t0 : Int32} {z : ow_MS} {Q : ow_MS → Prop} (H : Tt (fun K k => qm_X13_makeArcs_3 K (q_X13_makeArcs K k) x2 x3 x4 r1 t0 z) Q) : Tt (fun K k => q_X13_makeArcs K k 3 x2 x3 x4 r1 t0 z) Q := w_un (fun _ _ => rfl) H
theorem e_X13_makeArcs {r1 : Nat} {z : ow_MS} {Q : ow_MS → Prop} (H : Tt (fun K k => q_X13_makeArcs K k 0 0 0 0 r1 0 z) Q) : Te (fun K => qe_X13_makeArcs K r1 z) Q := w_te H
theorem u_X13_makeArcs_0 {x2 : Int32} {x3 : Int32} {x4 : Int32} {r1 : Nat} {t0 : Int32} {z : ow_MS} {Q : ow_MS → Prop} (H : Tt (fun K k => qm_X13_makeArcs_0 K (q_X13_makeArcs K k) x2 x3 x4 r1 t0 z) Q) : Tt (fun K k => q_X13_makeArcs K k 0 x2 x3 x4 r1 t0 z) Q := w_un (fun _ _ => rfl) H
theorem tp_arcs {n c : Nat} {A : rn_L} {sg : Nat → Bool} (hn : mw_net n) (hA : oNet z n A sg) (hok : okF A.flatten c) : Te (fun K => qe_X13_makeArcs K n z) (fun z1 => (∃ a, a ≤ c + A.length ∧ arcI z1 c a) ∧ fr arcH z z1) := by
  have hl := hA.len
  have hC := hA.2.2.2
  have hmn := net_mod hn
  have hV := okF_len hok
  have hUc := uN_c hok
  let Q : ow_MS → Prop := fun z1 => (∃ a, a ≤ c + A.length ∧ arcI z1 c a) ∧ fr arcH z z1
  have oA : ∀ {y : ow_MS}, fr arcH z y → oNet y n A sg := fun hf => oNet_fr hf (fun g hg => by unfold arcH at hg; omega) hA
  have c8 : ∀ (d v a : Nat) (y : ow_MS), v + d = A.flatten.length → a ≤ c + A.length → fr arcH z y → y.1 58 = nI a → (∀ u, u < A.flatten.length → inR y 59 u a ∧ (uns A u ≠ 0 → inR y 60 u a)) → (∀ u, u < v → (uns A u = 0 → inR y 61 (crs A u) a) ∧ (uns A u ≠ 0 → inR y 62 (crs A u) a ∧ inR y 63 (crs A u) a)) → Tt (fun K i => q_X13_makeArcs K i 8 (nI v) 0 0 n 0 y) Q := by
    intro d
    induction d with
    | zero =>
      intro v a y hv ha hf h58 hR hD
      refine u_X13_makeArcs_8 ?_; unfold qm_X13_makeArcs_8
      refine w_rdF (oA hf).1.V (w_leT (by omega) (by omega) (w_some ⟨⟨a, ha, h58, fun x hx => ?_⟩, hf⟩))
      obtain ⟨t, t1, t2, t3⟩ := ok_u hok hx 0 (by omega)
      obtain ⟨s, s1, s2, s3⟩ := ok_u hok hx 1 (by omega)
      have k1 := (hD t (by omega)).1 t3
      have k2 := (hD s (by omega)).2 (by omega)
      rw [t2] at k1
      rw [s2] at k2
      exact ⟨k1, k2⟩
    | succ d ih =>
      intro v a y hv ha hf h58 hR hD
      have hvl : v < A.flatten.length := by omega
      have hO := oA hf
      obtain ⟨c1, c2, c3⟩ := hO.cx hvl
      obtain ⟨⟨i, hi, ei⟩, hB⟩ := hR v hvl
      refine u_X13_makeArcs_8 ?_; unfold qm_X13_makeArcs_8
      refine w_rdF hO.1.V (w_leF (by omega) hvl (w_rdI (pl4 hn) rfl (by omega) (lk_cu hO.1 hvl).1 (w_rdI (pl5 hn) rfl (by omega) (lk_cu hO.1 hvl).2 (w_eqN (b := 0) (by omega) (by omega) (fun h0 => w_rdI ml59 rfl (by omega) ei (w_wrI ml61 rfl (by omega) ?_)) (fun h0 => ?_)))))
      · refine u_X13_makeArcs_9 ?_; unfold qm_X13_makeArcs_9
        rw [nI_1]
        refine ih (v + 1) a _ (by omega) ha (fr_I2 hf (by unfold arcH; omega)) h58 (fun u hu => ⟨inR_ot (by omega) (hR u hu).1, fun h9 => inR_ot (by omega) ((hR u hu).2 h9)⟩) (fun u hu => ⟨fun h9 => ?_, fun h9 => ?_⟩)
        · by_cases huv : u = v
          · rw [huv]; exact inR_set hi
          · exact inR_keep ((hD u (by omega)).1 h9) ⟨i, hi, rfl⟩
        · have huv : u ≠ v := fun e => h9 (by rw [e]; exact h0)
          obtain ⟨k1, k2⟩ := (hD u (by omega)).2 h9
          exact ⟨inR_ot (by omega) k1, inR_ot (by omega) k2⟩
      · obtain ⟨j, hj, ej⟩ := hB h0
        refine w_rdI ml59 rfl (by omega) ei (w_wrI ml62 rfl (by omega) (w_rdI ml60 rfl (by omega) (rd_ot (by omega) ej) (w_wrI ml63 rfl (by omega) ?_)))
        refine u_X13_makeArcs_9 ?_; unfold qm_X13_makeArcs_9
        rw [nI_1]
        refine ih (v + 1) a _ (by omega) ha (fr_I2 (fr_I2 hf (by unfold arcH; omega)) (by unfold arcH; omega)) h58 (fun u hu => ⟨inR_ot (by omega) (inR_ot (by omega) (hR u hu).1), fun h9 => inR_ot (by omega) (inR_ot (by omega) ((hR u hu).2 h9))⟩) (fun u hu => ⟨fun h9 => ?_, fun h9 => ?_⟩)
        · have huv : u ≠ v := fun e => h0 (by rw [← e]; exact h9)
          exact inR_ot (by omega) (inR_ot (by omega) ((hD u (by omega)).1 h9))
        · by_cases huv : u = v
          · rw [huv]
            exact ⟨inR_ot (by omega) (inR_set hi), inR_set hj⟩
          · obtain ⟨k1, k2⟩ := (hD u (by omega)).2 h9
            exact ⟨inR_ot (by omega) (inR_keep k1 ⟨i, hi, rfl⟩), inR_keep (inR_ot (by omega) k2) ⟨j, hj, rfl⟩⟩
  have c1 : ∀ (d k a : Nat) (y : ow_MS), k + d = A.length → a ≤ uN A (rn_b A k) + k → fr arcH z y → y.1 58 = nI a → (∀ u, u < rn_b A k → inR y 59 u a ∧ (uns A u ≠ 0 → inR y 60 u a)) → Tt (fun K i => q_X13_makeArcs K i 1 (nI k) 0 0 n 0 y) Q := by
    intro d
    induction d with
    | zero =>
      intro k a y hk ha hf h58 hR
      have hk : k = A.length := by omega
      subst hk
      rw [rn_b_len] at hR ha
      refine u_X13_makeArcs_1 ?_; unfold qm_X13_makeArcs_1
      exact w_rdF (lk_C (oA hf).1) (w_leT (by omega) (by omega) (c8 A.flatten.length 0 a y (by omega) (by omega) hf h58 hR (fun u hu => absurd hu (by omega))))
    | succ d ih =>
      intro k a y hk ha hf h58 hR
      have hb1 := rn_b_le A k
      have hb2 := rn_b_le A (k + 1)
      have hb3 := rn_b_mono A k
      have c7 : ∀ (x3 x4 : Int32) (a : Nat) (y : ow_MS), a ≤ uN A (rn_b A (k + 1)) + (k + 1) → fr arcH z y → y.1 58 = nI a → (∀ u, u < rn_b A (k + 1) → inR y 59 u a ∧ (uns A u ≠ 0 → inR y 60 u a)) → Tt (fun K i => q_X13_makeArcs K i 7 (nI k) x3 x4 n 0 y) Q := by
        intro x3 x4 a y ha hf h58 hR
        refine u_X13_makeArcs_7 ?_; unfold qm_X13_makeArcs_7
        rw [nI_1]
        exact ih (k + 1) a y (by omega) ha hf h58 hR
      have hUm := uN_mono (A := A) (rn_b A (k + 1)) hb3
      have hUl := uN_mono (A := A) A.flatten.length hb2
      -- a ring without a visit under
      have c4 : ∀ (d v : Nat) (y : ow_MS), v + d = rn_b A (k + 1) → rn_b A k ≤ v → (∀ u, rn_b A k ≤ u → u < rn_b A (k + 1) → uns A u = 0) → fr arcH z y → y.1 58 = nI a → (∀ u, u < v → inR y 59 u (a + 1)) → (∀ u, u < rn_b A k → uns A u ≠ 0 → inR y 60 u (a + 1)) → Tt (fun K i => q_X13_makeArcs K i 4 (nI k) (-1) (nI v) n 0 y) Q := by
        intro d
        induction d with
        | zero =>
          intro v y hv hvb hno hf h58 hR hB
          refine u_X13_makeArcs_4 ?_; unfold qm_X13_makeArcs_4
          rw [nI_1]
          refine w_rdI (pl3 hn) rfl (by omega) (lk_b (oA hf).1 (by omega)) (w_leT (by omega) (by omega) (w_rdF h58 (w_wrF (c7 _ _ (a + 1) _ (by omega) (fr_F2 hf (by unfold arcH; omega)) (po_usF_at.trans (nI_1 a)) (fun u hu => ⟨hR u (by omega), fun h9 => ?_⟩)))))
          rcases Nat.lt_or_ge u (rn_b A k) with h8 | h8
          · exact hB u h8 h9
          · exact absurd (hno u h8 hu) h9
        | succ d ih4 =>
          intro v y hv hvb hno hf h58 hR hB
          refine u_X13_makeArcs_4 ?_; unfold qm_X13_makeArcs_4
          rw [nI_1, nI_1]
          refine w_rdI (pl3 hn) rfl (by omega) (lk_b (oA hf).1 (by omega)) (w_leF (by omega) (by omega) (w_rdF h58 (w_wrI ml59 rfl (by omega) (ih4 (v + 1) _ (by omega) (by omega) hno (fr_I2 hf (by unfold arcH; omega)) h58 (fun u hu => ?_) (fun u hu h9 => inR_ot (by omega) (hB u hu h9))))))
          by_cases huv : u = v
          · rw [huv]; exact inR_set (by omega)
          · exact inR_keep (hR u (by omega)) ⟨a, by omega, rfl⟩
      -- a ring whose first visit under is s
      have c5 : ∀ (s : Nat), rn_b A k ≤ s → s < rn_b A (k + 1) → uns A s = 1 → (∀ u, rn_b A k ≤ u → u < s → uns A u = 0) → ∀ (y : ow_MS), fr arcH z y → y.1 58 = nI a → (∀ u, u < rn_b A k → inR y 59 u a ∧ (uns A u ≠ 0 → inR y 60 u a)) → Tt (fun K i => q_X13_makeArcs K i 5 (nI k) (nI s) (nI s) n 0 y) Q := by
        intro s hs1 hs2 hs3 hs4 y hf h58 hR
        have hUs : uN A (s + 1) = uN A s + 1 := by
          show uN A s + (if uns A s = 0 then 0 else 1) = _
          rw [if_neg (by omega)]
        have hUb := uN_mono (A := A) s hs1
        have hUe := uN_mono (A := A) (a := s + 1) (rn_b A (k + 1)) hs2
        have nx : ∀ v, rn_b A k ≤ v → v < rn_b A (k + 1) → rn_nx A v = if v + 1 < rn_b A (k + 1) then v + 1 else rn_b A k := by
          intro v h1 h2
          have e := rn_c_of A k v h1 h2
          unfold rn_nx
          rw [e]
        -- behind the end of the row: from its beginning to s
        have p2 : ∀ (d v m : Nat) (y : ow_MS), v + d = s → rn_b A k ≤ v → m + uN A (s + 1) ≤ a + uN A (rn_b A (k + 1)) → fr arcH z y → y.1 58 = nI m → (∀ u, u < v → inR y 59 u (m + 1)) → (∀ u, s < u → u < rn_b A (k + 1) → inR y 59 u (m + 1)) → (∀ u, u < rn_b A (k + 1) → uns A u ≠ 0 → inR y 60 u (m + 1)) → Tt (fun K i => q_X13_makeArcs K i 6 (nI k) (nI s) (nI v) n 0 y) Q := by
          intro d
          induction d with
          | zero =>
            intro v m y hv hvb hm hf h58 hR1 hR2 hB
            have hv : v = s := by omega
            subst hv
            refine u_X13_makeArcs_6 ?_; unfold qm_X13_makeArcs_6
            refine w_rdI (pl5 hn) rfl (by omega) (lk_cu (oA hf).1 (by omega)).2 (w_ifF (by rw [hs3]; decide) (w_rdF h58 (w_wrI ml59 rfl (by omega) (w_rdF (x := nI m) h58 (w_wrF (w_ifT rfl (c7 _ _ (m + 1) _ (by omega) (fr_F2 (fr_I2 hf (by unfold arcH; omega)) (by unfold arcH; omega)) (po_usF_at.trans (nI_1 m)) (fun u hu => ⟨?_, fun h9 => ?_⟩))))))))
            · show inR (usI y 59 v (nI m)) 59 u (m + 1)
              by_cases huv : u = v
              · rw [huv]; exact inR_set (by omega)
              · rcases Nat.lt_or_ge u v with h8 | h8
                · exact inR_keep (hR1 u h8) ⟨m, by omega, rfl⟩
                · exact inR_keep (hR2 u (by omega) hu) ⟨m, by omega, rfl⟩
            · show inR (usI y 59 v (nI m)) 60 u (m + 1)
              exact inR_ot (by omega) (hB u hu h9)
          | succ d ih2 =>
            intro v m y hv hvb hm hf h58 hR1 hR2 hB
            have e0 := hs4 v hvb (by omega)
            have en := nx v hvb (by omega)
            rw [if_pos (by omega)] at en
            have hf2 : fr arcH z (usI y 59 v (nI m)) := fr_I2 hf (by unfold arcH; omega)
            have hnx : (usI y 59 v (nI m)).2.1 (n + 9) v = nI (v + 1) := by
              rw [lk_n (oA hf2).1 (by omega), en]
            refine u_X13_makeArcs_6 ?_; unfold qm_X13_makeArcs_6
            refine w_rdI (pl5 hn) rfl (by omega) (lk_cu (oA hf).1 (by omega)).2 (w_ifT (by rw [e0]; rfl) (w_rdF h58 (w_wrI ml59 rfl (by omega) (w_rdI (pl9 hn) rfl (by omega) hnx (ih2 (v + 1) m _ (by omega) (by omega) hm hf2 h58 (fun u hu => ?_) (fun u h1 h2 => inR_keep (hR2 u h1 h2) ⟨m, by omega, rfl⟩) (fun u hu h9 => inR_ot (by omega) (hB u hu h9)))))))
            by_cases huv : u = v
            · rw [huv]; exact inR_set (by omega)
            · exact inR_keep (hR1 u (by omega)) ⟨m, by omega, rfl⟩
        -- before the end of the row
        have p1 : ∀ (d v m : Nat) (y : ow_MS), v + d = rn_b A (k + 1) → s < v → m + uN A (s + 1) ≤ a + uN A v → fr arcH z y → y.1 58 = nI m → (∀ u, u < rn_b A k → inR y 59 u (m + 1)) → (∀ u, s < u → u < v → inR y 59 u (m + 1)) → (∀ u, u < v → uns A u ≠ 0 → inR y 60 u (m + 1)) → Tt (fun K i => q_X13_makeArcs K i 6 (nI k) (nI s) (if v < rn_b A (k + 1) then nI v else nI (rn_b A k)) n 0 y) Q := by
          intro d
          induction d with
          | zero =>
            intro v m y hv hsv hm hf h58 hR1 hR2 hB
            rw [if_neg (by omega)]
            have hv : v = rn_b A (k + 1) := by omega
            subst hv
            exact p2 (s - rn_b A k) (rn_b A k) m y (by omega) (Nat.le_refl _) hm hf h58 hR1 hR2 hB
          | succ d ih1 =>
            intro v m y hv hsv hm hf h58 hR1 hR2 hB
            rw [if_pos (by omega)]
            have en := nx v (by omega) (by omega)
            have hUv : uN A (v + 1) = uN A v + if uns A v = 0 then 0 else 1 := rfl
            have hUv2 := uN_mono (A := A) (rn_b A (k + 1)) (show v + 1 ≤ rn_b A (k + 1) by omega)
            have eN : nI (rn_nx A v) = if v + 1 < rn_b A (k + 1) then nI (v + 1) else nI (rn_b A k) := by
              rw [en]
              split <;> rfl
            have hf2 : fr arcH z (usI y 59 v (nI m)) := fr_I2 hf (by unfold arcH; omega)
            by_cases e0 : uns A v = 0
            · have hnx : (usI y 59 v (nI m)).2.1 (n + 9) v = if v + 1 < rn_b A (k + 1) then nI (v + 1) else nI (rn_b A k) := by
                rw [lk_n (oA hf2).1 (by omega), eN]
              rw [if_pos e0] at hUv
              refine u_X13_makeArcs_6 ?_; unfold qm_X13_makeArcs_6
              refine w_rdI (pl5 hn) rfl (by omega) (lk_cu (oA hf).1 (by omega)).2 (w_ifT (by rw [e0]; rfl) (w_rdF h58 (w_wrI ml59 rfl (by omega) (w_rdI (pl9 hn) rfl (by omega) hnx (ih1 (v + 1) m _ (by omega) (by omega) (by omega) hf2 h58 (fun u hu => inR_keep (hR1 u hu) ⟨m, by omega, rfl⟩) (fun u h1 h2 => ?_) (fun u hu h9 => ?_))))))
              · by_cases huv : u = v
                · rw [huv]; exact inR_set (by omega)
                · exact inR_keep (hR2 u h1 (by omega)) ⟨m, by omega, rfl⟩
              · by_cases huv : u = v
                · rw [huv] at h9
                  exact absurd e0 h9
                · exact inR_ot (by omega) (hB u (by omega) h9)
            · rw [if_neg e0] at hUv
              have hu2 := ((oA hf).cx (i := v) (by omega)).2.1
              refine u_X13_makeArcs_6 ?_; unfold qm_X13_makeArcs_6
              refine w_rdI (pl5 hn) rfl (by omega) (lk_cu (oA hf).1 (by omega)).2 (w_ifF (fun h9 => e0 ((nI_eq (by omega) (by omega)).mp (h9.trans nI_0.symm))) (w_rdF h58 (w_wrI ml59 rfl (by omega) (w_rdF (x := nI m) h58 (w_wrF (w_ifF (fun h9 => absurd ((nI_eq (by omega) (by omega)).mp h9) (by omega)) ?_))))))
              have hf3 : fr arcH z (usF (usI y 59 v (nI m)) 58 (nI m + 1)) := fr_F2 hf2 (by unfold arcH; omega)
              have hf4 : fr arcH z (usI (usF (usI y 59 v (nI m)) 58 (nI m + 1)) 60 v (nI (m + 1))) := fr_I2 hf3 (by unfold arcH; omega)
              have hnx : (usI (usF (usI y 59 v (nI m)) 58 (nI m + 1)) 60 v (nI (m + 1))).2.1 (n + 9) v = if v + 1 < rn_b A (k + 1) then nI (v + 1) else nI (rn_b A k) := by
                rw [lk_n (oA hf4).1 (by omega), eN]
              have h58' : (usI (usF (usI y 59 v (nI m)) 58 (nI m + 1)) 60 v (nI (m + 1))).1 58 = nI (m + 1) := by
                show (usF (usI y 59 v (nI m)) 58 (nI m + 1)).1 58 = _
                exact po_usF_at.trans (nI_1 m)
              refine u_X13_makeArcs_5 ?_; unfold qm_X13_makeArcs_5
              refine w_rdF (x := nI (m + 1)) (po_usF_at.trans (nI_1 m)) (w_wrI ml60 rfl (by omega) (w_rdI (pl9 hn) rfl (by omega) hnx (ih1 (v + 1) (m + 1) _ (by omega) (by omega) (by omega) hf4 h58' (fun u hu => ?_) (fun u h1 h2 => ?_) (fun u hu h9 => ?_))))
              · exact inR_ot (by omega) (show inR (usI y 59 v (nI m)) 59 u (m + 1 + 1) from inR_keep (inR_mono (by omega) (hR1 u hu)) ⟨m, by omega, rfl⟩)
              · refine inR_ot (by omega) (show inR (usI y 59 v (nI m)) 59 u (m + 1 + 1) from ?_)
                by_cases huv : u = v
                · rw [huv]; exact inR_set (by omega)
                · exact inR_keep (inR_mono (by omega) (hR2 u h1 (by omega))) ⟨m, by omega, rfl⟩
              · by_cases huv : u = v
                · rw [huv]; exact inR_set (by omega)
                · exact inR_keep (show inR (usI y 59 v (nI m)) 60 u (m + 1 + 1) from inR_ot (by omega) (inR_mono (by omega) (hB u (by omega) h9))) ⟨m + 1, by omega, rfl⟩
        have hf2 : fr arcH z (usI y 60 s (nI a)) := fr_I2 hf (by unfold arcH; omega)
        have en := nx s hs1 hs2
        have hnx : (usI y 60 s (nI a)).2.1 (n + 9) s = if s + 1 < rn_b A (k + 1) then nI (s + 1) else nI (rn_b A k) := by
          rw [lk_n (oA hf2).1 (by omega), en]
          split <;> rfl
        refine u_X13_makeArcs_5 ?_; unfold qm_X13_makeArcs_5
        refine w_rdF h58 (w_wrI ml60 rfl (by omega) (w_rdI (pl9 hn) rfl (by omega) hnx (p1 (rn_b A (k + 1) - (s + 1)) (s + 1) a _ (by omega) (by omega) (by omega) hf2 h58 (fun u hu => inR_ot (by omega) (inR_mono (by omega) (hR u hu).1)) (fun u h1 h2 => absurd h1 (by omega)) (fun u hu h9 => ?_))))
        by_cases hus : u = s
        · rw [hus]; exact inR_set (by omega)
        · rcases Nat.lt_or_ge u (rn_b A k) with h8 | h8
          · exact inR_keep (inR_mono (by omega) ((hR u h8).2 h9)) ⟨a, by omega, rfl⟩
          · exact absurd (hs4 u h8 (by omega)) h9
      -- the first visit under is looked for from the end on
      have c2 : ∀ (d i : Nat) (x3 : Int32), i = rn_b A k + d → i ≤ rn_b A (k + 1) → ((x3 = -1 ∧ ∀ u, i ≤ u → u < rn_b A (k + 1) → uns A u = 0) ∨ ∃ s, x3 = nI s ∧ i ≤ s ∧ s < rn_b A (k + 1) ∧ uns A s = 1 ∧ ∀ u, i ≤ u → u < s → uns A u = 0) → Tt (fun K t => q_X13_makeArcs K t 2 (nI k) x3 (iI ((i : Int) - 1)) n 0 y) Q := by
        intro d
        induction d with
        | zero =>
          intro i x3 hi hie hx
          refine u_X13_makeArcs_2 ?_; unfold qm_X13_makeArcs_2
          refine w_rdI (pl3 hn) rfl (by omega) (lk_b (oA hf).1 (by omega)) (w_ifT (by rw [nI_iI, iI_lt (by omega) (by omega) (by omega) (by omega)]; omega) ?_)
          rcases hx with ⟨hx, hno⟩ | ⟨s, hx, s1, s2, s3, s4⟩
          · rw [hx]
            refine w_ifT rfl (w_rdI (pl3 hn) rfl (by omega) (lk_b (oA hf).1 (by omega)) (c4 (rn_b A (k + 1) - rn_b A k) (rn_b A k) y (by omega) (Nat.le_refl _) (fun u h1 h2 => hno u (by omega) h2) hf h58 (fun u hu => inR_mono (by omega) (hR u hu).1) (fun u hu h9 => inR_mono (by omega) ((hR u hu).2 h9))))
          · rw [hx]
            exact w_ifF (rn_neg1 (by omega)) (c5 s (by omega) s2 s3 (fun u h1 h2 => s4 u (by omega) h2) y hf h58 hR)
        | succ d ih2 =>
          intro i x3 hi hie hx
          obtain ⟨j, hj⟩ : ∃ j, i = j + 1 := ⟨i - 1, by omega⟩
          have e1 : iI ((i : Int) - 1) = nI j := iI_nI (by omega)
          have e2 : nI j + (-1) = iI ((j : Int) - 1) := by
            rw [nI_iI]
            show iI (j : Int) + iI (-1) = _
            rw [iI_add]
            rfl
          have hu2 := ((oA hf).cx (i := j) (by omega)).2.1
          rw [e1]
          refine u_X13_makeArcs_2 ?_; unfold qm_X13_makeArcs_2
          refine w_rdI (pl3 hn) rfl (by omega) (lk_b (oA hf).1 (by omega)) (w_ltF (by omega) (by omega) (w_rdI (pl5 hn) rfl (by omega) (lk_cu (oA hf).1 (by omega)).2 (w_eqN (b := 1) (by omega) (by omega) (fun h9 => ?_) (fun h9 => ?_))))
          · refine u_X13_makeArcs_3 ?_; unfold qm_X13_makeArcs_3
            rw [e2]
            refine ih2 j _ (by omega) (by omega) (Or.inr ⟨j, rfl, Nat.le_refl _, by omega, h9, fun u h1 h2 => absurd h1 (by omega)⟩)
          · refine u_X13_makeArcs_3 ?_; unfold qm_X13_makeArcs_3
            rw [e2]
            refine ih2 j _ (by omega) (by omega) ?_
            rcases hx with ⟨hx, hno⟩ | ⟨s, hx, s1, s2, s3, s4⟩
            · refine Or.inl ⟨hx, fun u h1 h2 => ?_⟩
              by_cases huj : u = j
              · rw [huj]; omega
              · exact hno u (by omega) h2
            · refine Or.inr ⟨s, hx, by omega, s2, s3, fun u h1 h2 => ?_⟩
              by_cases huj : u = j
              · rw [huj]; omega
              · exact s4 u (by omega) h2
      refine u_X13_makeArcs_1 ?_; unfold qm_X13_makeArcs_1
      rw [nI_1]
      refine w_rdF (lk_C (oA hf).1) (w_leF (by omega) (by omega) (w_rdI (pl3 hn) rfl (by omega) (lk_b (oA hf).1 (by omega)) ?_))
      rw [show nI (rn_b A (k + 1)) - 1 = iI ((rn_b A (k + 1) : Nat) - 1) from by rw [nI_iI]; exact iI_sub _ 1]
      exact c2 (rn_b A (k + 1) - rn_b A k) (rn_b A (k + 1)) (-1) (by omega) (Nat.le_refl _) (Or.inl ⟨rfl, fun u h1 h2 => absurd h1 (by omega)⟩)
  refine e_X13_makeArcs ?_
  refine u_X13_makeArcs_0 ?_; unfold qm_X13_makeArcs_0
  refine w_wrF (c1 A.length 0 0 _ (by omega) (Nat.zero_le _) (fr_F (by unfold arcH; omega)) po_usF_at (fun u hu => absurd hu (by simp [rn_b])))
end ARC
