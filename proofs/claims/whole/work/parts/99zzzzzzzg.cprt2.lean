/-! parts of a net: how many come when a crossing goes -/
def cidx (A : rn_L) (p : vT) : Nat := A.findIdx (fun L => decide (p ∈ L))
def pLe (A : rn_L) (k : Nat) : Prop := ∀ M : Nat → Nat, (∀ x, (x, 0) ∈ A.flatten → M (cidx A (x, 0)) = M (cidx A (x, 1))) → dLe A.length M k
theorem cidx_at {A : rn_L} {p : vT} (h : p ∈ A.flatten) : ∃ hj : cidx A p < A.length, p ∈ A[cidx A p] := by
  obtain ⟨L, hL, hp⟩ := List.mem_flatten.mp h
  have hj : cidx A p < A.length := List.findIdx_lt_length_of_exists ⟨L, hL, decide_eq_true hp⟩
  exact ⟨hj, of_decide_eq_true (List.findIdx_getElem (w := hj))⟩
theorem cidx_of {A : rn_L} (hn : A.flatten.Nodup) {p : vT} {j : Nat} (hj : j < A.length) (hp : p ∈ A[j]) : cidx A p = j := by
  induction A generalizing j with
  | nil => exact absurd hj (Nat.not_lt_zero _)
  | cons B A ih =>
    rw [List.flatten_cons] at hn
    have hd := List.nodup_append.mp hn
    unfold cidx
    rw [List.findIdx_cons]
    cases j with
    | zero =>
      have hp : p ∈ B := hp
      rw [decide_eq_true hp]
      rfl
    | succ j =>
      have hj' : j < A.length := Nat.lt_of_succ_lt_succ hj
      have hp' : p ∈ A[j] := hp
      have hnB : p ∉ B := fun h9 => hd.2.2 p h9 p (List.mem_flatten.mpr ⟨A[j], List.getElem_mem hj', hp'⟩) rfl
      rw [decide_eq_false hnB]
      have := ih hd.2.1 hj' hp'
      unfold cidx at this
      rw [this]
      rfl
theorem wox_len {A : rn_L} {x : Nat} : (wox A x).length = A.length := by
  unfold wox rmv
  rw [List.length_map, List.length_map]
theorem wox_idx {A : rn_L} {x : Nat} {p : vT} (hx : p.1 ≠ x) : cidx (wox A x) p = cidx A p := by
  unfold cidx wox rmv
  rw [List.map_map, List.findIdx_map]
  congr 1
  funext L
  have h0 : p ≠ (x, 0) := fun e => hx (by rw [e])
  have h1 : p ≠ (x, 1) := fun e => hx (by rw [e])
  have e : p ∈ List.filter (fun p => decide (p ≠ (x, 1))) (List.filter (fun p => decide (p ≠ (x, 0))) L) ↔ p ∈ L := by
    rw [List.mem_filter, List.mem_filter]
    exact ⟨fun h => h.1.1, fun h => ⟨⟨h, decide_eq_true h0⟩, decide_eq_true h1⟩⟩
  exact decide_eq_decide.mpr e
theorem pLe_rm {A : rn_L} {k x : Nat} (hu : ∀ p, p ∈ A.flatten → p.2 < 2) (h : pLe A k) : pLe (wox A x) (k + 1) := by
  intro M hM
  rw [wox_len]
  refine mgL_k [(cidx A (x, 0), cidx A (x, 1))] M k (h _ (fun y hy => ?_))
  show (if M (cidx A (y, 0)) = M (cidx A (x, 0)) then M (cidx A (x, 1)) else M (cidx A (y, 0))) = (if M (cidx A (y, 1)) = M (cidx A (x, 0)) then M (cidx A (x, 1)) else M (cidx A (y, 1)))
  by_cases e : y = x
  · rw [e, if_pos rfl]
    split <;> rfl
  · have := hM y ((wox_mem hu).mpr ⟨hy, e⟩)
    rw [wox_idx (p := (y, 0)) e, wox_idx (p := (y, 1)) e] at this
    rw [this]
theorem sc_idx {L : List vT} (hn : L.Nodup) {i : Nat} (hi : i + 1 < L.length) : sc L (L[i]'(by omega)) = L[i + 1] := by
  have es : L = L.take i ++ L[i]'(by omega) :: L[i + 1] :: L.drop (i + 1 + 1) := by
    rw [← List.drop_eq_getElem_cons hi, ← List.drop_eq_getElem_cons (by omega), List.take_append_drop]
  have hni : L[i]'(by omega) ∉ L.take i := by
    have h1 : (L.take i ++ L[i]'(by omega) :: L[i + 1] :: L.drop (i + 1 + 1)).Nodup := by
      rw [← es]
      exact hn
    exact (nd_mid h1).1
  have := sc_mid (q := L[i + 1]) (Y := L.drop (i + 1 + 1)) hni
  rw [← es] at this
  exact this
theorem sc_const {β : Type} {φ : vT → β} {L : List vT} (hn : L.Nodup) (h : ∀ p, p ∈ L → φ (sc L p) = φ p) {p q : vT} (hp : p ∈ L) (hq : q ∈ L) : φ p = φ q := by
  have key : ∀ i (hi : i < L.length), φ L[i] = φ (L[0]'(by omega)) := by
    intro i
    induction i with
    | zero => intro hi; rfl
    | succ i ih =>
      intro hi
      rw [← ih (by omega), ← sc_idx hn hi]
      exact h _ (List.getElem_mem _)
  obtain ⟨i, hi, rfl⟩ := List.mem_iff_getElem.mp hp
  obtain ⟨j, hj, rfl⟩ := List.mem_iff_getElem.mp hq
  rw [key i hi, key j hj]
section CP2
variable {A : rn_L} {sg : Nat → Bool} {f : Nat → Nat} {T : ow_NT}
/-- visits of one component, visits of one crossing: one label -/
theorem prt_lab (h : isoV A sg f T) {M : Nat → Nat} (hM : ∀ x, (x, 0) ∈ A.flatten → M (cidx A (x, 0)) = M (cidx A (x, 1))) {p q : vT} (hp : p ∈ A.flatten) (hq : q ∈ A.flatten) (e : (np_parts T.1 T.2.2.1.1).1 (gl f p) = (np_parts T.1 T.2.2.1.1).1 (gl f q)) : M (cidx A p) = M (cidx A q) := by
  have hv := isoV_vn h
  have lt : ∀ p, p ∈ A.flatten → gl f p < 2 * T.1 := fun p hpf => by
    have h1 := h.1.2.2.2.1 p hpf
    have h2 := (h.1.1.2 p hpf).2.1
    unfold gl
    omega
  have hr := (parts_iff hv h.1.2.2.1 (lt p hp) (lt q hq)).mp e
  have key := hr (fun k => ∃ r, r ∈ A.flatten ∧ gl f r = k ∧ M (cidx A r) = M (cidx A p)) ⟨p, hp, rfl, rfl⟩ ?_ ?_
  · obtain ⟨r, r1, r2, r3⟩ := key
    rw [← gl_gin h.1 r q r1 hq r2]
    exact r3.symm
  · rintro k - ⟨r, r1, r2, r3⟩
    obtain ⟨L, hL, hrL⟩ := List.mem_flatten.mp r1
    have nL := L_nd h.1.1.1 hL
    have hs := sc_in hrL nL
    have hsf : sc L r ∈ A.flatten := List.mem_flatten.mpr ⟨L, hL, hs⟩
    refine ⟨sc L r, hsf, ?_, ?_⟩
    · rw [← r2]
      exact (h.2 L hL r hrL).1.symm
    · obtain ⟨j, hj, ej⟩ := List.mem_iff_getElem.mp hL
      rw [cidx_of h.1.1.1 hj (by rw [ej]; exact hs), ← r3, cidx_of h.1.1.1 hj (by rw [ej]; exact hrL)]
  · rintro k - ⟨r, r1, r2, r3⟩
    obtain ⟨k1, k2, k3⟩ := h.1.1.2 r r1
    refine ⟨(r.1, 1 - r.2), k3, ?_, ?_⟩
    · rw [← r2]
      unfold gl mt
      dsimp only
      split <;> omega
    · rw [← r3]
      have c01 : r.2 = 0 ∨ r.2 = 1 := by omega
      rcases c01 with c0 | c0
      · have er : r = (r.1, 0) := Prod.ext rfl c0
        rw [c0]
        have := hM r.1 (by rw [← er]; exact r1)
        rw [← er] at this
        exact this.symm
      · have er : r = (r.1, 1) := Prod.ext rfl c0
        rw [c0] at k3 ⊢
        have := hM r.1 k3
        rw [← er] at this
        exact this
theorem emp_cnt (A : rn_L) : ((List.range A.length).filter (fun c => !neB A c)).length = cirs A := cirs_f.symm
theorem pLe_of (h : isoV A sg f T) {k : Nat} (hk : (np_parts T.1 T.2.2.1.1).2 + T.2.1 ≤ k) : pLe A k := by
  have hv := isoV_vn h
  obtain ⟨-, p2, p3, -⟩ := parts_I hv h.1.2.2.1
  have hN := isoS_iff.mp h.1
  intro M hM
  have hex : ∀ r, ∃ l, r < (np_parts T.1 T.2.2.1.1).2 → ∀ p, p ∈ A.flatten → (np_parts T.1 T.2.2.1.1).1 (gl f p) = nI r → M (cidx A p) = l := by
    intro r
    by_cases hp : ∃ p, p ∈ A.flatten ∧ (np_parts T.1 T.2.2.1.1).1 (gl f p) = nI r
    · obtain ⟨p, hp, e⟩ := hp
      exact ⟨M (cidx A p), fun _ q hq e2 => prt_lab h hM hq hp (by rw [e, e2])⟩
    · exact ⟨0, fun _ p h1 h2 => absurd ⟨p, h1, h2⟩ hp⟩
  refine ⟨(List.range (np_parts T.1 T.2.2.1.1).2).map (fun r => Classical.choose (hex r)) ++ ((List.range A.length).filter (fun c => !neB A c)).map M, ?_, fun j hj => ?_⟩
  · rw [List.length_append, List.length_map, List.length_map, List.length_range, emp_cnt, h.1.2.2.2.2.2.2.2]
    exact hk
  · by_cases hne : A[j] = []
    · refine List.mem_append_right _ (List.mem_map.mpr ⟨j, List.mem_filter.mpr ⟨List.mem_range.mpr hj, ?_⟩, rfl⟩)
      unfold neB
      rw [List.getElem?_eq_getElem hj, hne]
      rfl
    · obtain ⟨p, hp⟩ := List.exists_mem_of_ne_nil _ hne
      have hpf : p ∈ A.flatten := List.mem_flatten.mpr ⟨A[j], List.getElem_mem hj, hp⟩
      have hlt : gl f p < 2 * T.1 := by
        have h1 := h.1.2.2.2.1 p hpf
        have h2 := (h.1.1.2 p hpf).2.1
        unfold gl
        omega
      obtain ⟨r, r1, r2⟩ := p2 (gl f p) hlt
      refine List.mem_append_left _ (List.mem_map.mpr ⟨r, List.mem_range.mpr r1, ?_⟩)
      rw [← Classical.choose_spec (hex r) r1 p hpf r2, cidx_of h.1.1.1 hj hp]
theorem pLe_to (h : isoV A sg f T) {k : Nat} (hk : pLe A k) : (np_parts T.1 T.2.2.1.1).2 + T.2.1 ≤ k := by
  have hv := isoV_vn h
  have hc := h.1.2.2.1
  obtain ⟨hcl, p2, p3, -⟩ := parts_I hv hc
  have hN := isoS_iff.mp h.1
  have hP31 : (np_parts T.1 T.2.2.1.1).2 < 2 ^ 31 := by
    have := mp_out_le T.2.2.1.1 (2 * T.1) (fun _ => -1) (2 * T.1)
    unfold np_parts
    omega
  have lt : ∀ p, p ∈ A.flatten → gl f p < 2 * T.1 := fun p hpf => by
    have h1 := h.1.2.2.2.1 p hpf
    have h2 := (h.1.1.2 p hpf).2.1
    unfold gl
    omega
  -- one mark on a component
  have comp : ∀ L, L ∈ A → ∀ p q, p ∈ L → q ∈ L → (np_parts T.1 T.2.2.1.1).1 (gl f p) = (np_parts T.1 T.2.2.1.1).1 (gl f q) := by
    intro L hL p q hp hq
    refine sc_const (φ := fun p => (np_parts T.1 T.2.2.1.1).1 (gl f p)) (L_nd h.1.1.1 hL) (fun r hr => ?_) hp hq
    rw [← (h.2 L hL r hr).1]
    exact (hcl _ (lt _ (List.mem_flatten.mpr ⟨L, hL, hr⟩))).1
  let M : Nat → Nat := fun j => match A[j]? with
    | some (p :: _) => 2 * ((np_parts T.1 T.2.2.1.1).1 (gl f p)).toNatClampNeg
    | _ => 2 * j + 1
  have Mp : ∀ p, p ∈ A.flatten → ∀ r, r < (np_parts T.1 T.2.2.1.1).2 → (np_parts T.1 T.2.2.1.1).1 (gl f p) = nI r → M (cidx A p) = 2 * r := by
    intro p hp r hr e
    obtain ⟨hj, hpj⟩ := cidx_at hp
    have hL : A[cidx A p] ∈ A := List.getElem_mem hj
    show (match A[cidx A p]? with
      | some (p :: _) => 2 * ((np_parts T.1 T.2.2.1.1).1 (gl f p)).toNatClampNeg
      | _ => 2 * cidx A p + 1) = 2 * r
    rw [List.getElem?_eq_getElem hj]
    cases hl : A[cidx A p] with
    | nil =>
      rw [hl] at hpj
      cases hpj
    | cons a R =>
      have e2 := comp _ hL a p (by rw [hl]; exact List.mem_cons_self) hpj
      dsimp only
      rw [e2, e, nI_clamp (by omega)]
  have hMx : ∀ x, (x, 0) ∈ A.flatten → M (cidx A (x, 0)) = M (cidx A (x, 1)) := by
    intro x hx
    have hx1 : (x, 1) ∈ A.flatten := (h.1.1.2 _ hx).2.2
    obtain ⟨r, r1, r2⟩ := p2 _ (lt _ hx)
    rw [Mp _ hx r r1 r2, Mp _ hx1 r r1 ?_]
    have e : gl f (x, 0) = mt (gl f (x, 1)) := by
      unfold gl mt
      dsimp only
      split <;> omega
    rw [← r2, e]
    exact (hcl _ (lt _ hx1)).2.symm
  obtain ⟨R, hR, hR2⟩ := hk M hMx
  have hlist : ((List.range (np_parts T.1 T.2.2.1.1).2).map (fun r => 2 * r) ++ ((List.range A.length).filter (fun c => !neB A c)).map (fun j => 2 * j + 1)).Nodup := by
    rw [List.nodup_append]
    refine ⟨nodup_map List.nodup_range (fun a b _ _ e => by omega), nodup_map (List.nodup_range.filter _) (fun a b _ _ e => by omega), fun a ha b hb e => ?_⟩
    obtain ⟨a1, -, rfl⟩ := List.mem_map.mp ha
    obtain ⟨b1, -, rfl⟩ := List.mem_map.mp hb
    omega
  have := nodup_le _ R hlist (fun a ha => by
    rcases List.mem_append.mp ha with h9 | h9
    · obtain ⟨r, r1, rfl⟩ := List.mem_map.mp h9
      have r1 := List.mem_range.mp r1
      obtain ⟨v, v1, v2⟩ := p3 r r1
      obtain ⟨w, w1, w2⟩ := lbv_sur hN v1
      have hm := vAt_mem w1
      have w2 : gl f (vAt A w) = v := w2
      have := Mp _ hm r r1 (by rw [w2]; exact v2)
      rw [← this]
      exact hR2 _ (cidx_at hm).1
    · obtain ⟨j, j1, rfl⟩ := List.mem_map.mp h9
      obtain ⟨j1, j2⟩ := List.mem_filter.mp j1
      have j1 := List.mem_range.mp j1
      have : M j = 2 * j + 1 := by
        show (match A[j]? with
          | some (p :: _) => 2 * ((np_parts T.1 T.2.2.1.1).1 (gl f p)).toNatClampNeg
          | _ => 2 * j + 1) = 2 * j + 1
        unfold neB at j2
        rw [List.getElem?_eq_getElem j1] at j2 ⊢
        cases hl : A[j] with
        | nil => rfl
        | cons a L =>
          rw [hl] at j2
          cases j2
      rw [← this]
      exact hR2 j j1)
  rw [List.length_append, List.length_map, List.length_map, List.length_range, emp_cnt, h.1.2.2.2.2.2.2.2] at this
  omega
end CP2
