section
/-! 99zzzzzzzzzzzzza.xsu9 -/
/-! the row of a piece -/
section XSU9
variable {A W : rn_L} {sg : Nat → Bool} {f k : Nat → Nat} {T R : ow_NT} {m : Nat → Nat} {P : Nat}
/-- marks of a list's visits reach no further than the list -/
theorem em_lab (h : emN A sg f T) (hv : vn T.1 T.2.2.1) {q : Nat → Nat} (hq1 : ∀ v, v < A.flatten.length → q (rn_nx A v) = q v) (hq2 : ∀ v, v < A.flatten.length → q (mtf A v) = q v) {u j : Nat} (hu : u < A.flatten.length) (hp : ptN T.1 T.2.2.1.1 (lbv A f u) j) : ∃ v, v < A.flatten.length ∧ lbv A f v = j ∧ q v = q u := by
  have ex : ∀ j, ∃ x, (∀ v, v < A.flatten.length → lbv A f v = j → x = q v + 1) ∧ ((¬ ∃ v, v < A.flatten.length ∧ lbv A f v = j) → x = 0) := fun j => by
    by_cases hj : ∃ v, v < A.flatten.length ∧ lbv A f v = j
    · obtain ⟨v, v1, v2⟩ := hj
      exact ⟨q v + 1, fun w w1 w2 => by rw [em_inj h w1 v1 (w2.trans v2.symm)], fun h9 => absurd ⟨v, v1, v2⟩ h9⟩
    · exact ⟨0, fun v v1 v2 => absurd ⟨v, v1, v2⟩ hj, fun _ => rfl⟩
  obtain ⟨L, hL⟩ := Classical.axiomOfChoice ex
  have key := hp L (fun i hi => by
    by_cases hj : ∃ v, v < A.flatten.length ∧ lbv A f v = i
    · obtain ⟨v, v1, v2⟩ := hj
      obtain ⟨m1, m2, m3, m4⟩ := em_mt h v1
      have a1 : T.2.2.1.1 i = lbv A f (rn_nx A v) := by
        rw [← v2]
        exact h.2.2.2.2.2.1 v v1
      rw [(hL i).1 v v1 v2, (hL _).1 _ (rnx_lt v1) a1.symm, (hL _).1 _ m1 (by rw [m3, v2]), hq1 v v1, hq2 v v1]
      exact ⟨rfl, rfl⟩
    · have n1 : ¬ ∃ v, v < A.flatten.length ∧ lbv A f v = T.2.2.1.1 i := by
        rintro ⟨v, v1, v2⟩
        refine hj ⟨rn_pv A v, rn_pv_lt v1, (bj_vn hv).2 _ _ (em_lt h (rn_pv_lt v1)) hi ?_⟩
        rw [h.2.2.2.2.2.1 _ (rn_pv_lt v1), nx_pv v1]
        exact v2
      have n2 : ¬ ∃ v, v < A.flatten.length ∧ lbv A f v = mt i := by
        rintro ⟨v, v1, v2⟩
        refine hj ⟨mtf A v, (em_mt h v1).1, ?_⟩
        rw [(em_mt h v1).2.2.1, v2]
        exact mt_mt i
      rw [(hL i).2 hj, (hL _).2 n1, (hL _).2 n2]
      exact ⟨rfl, rfl⟩)
  rw [(hL _).1 u hu rfl] at key
  by_cases hj : ∃ v, v < A.flatten.length ∧ lbv A f v = j
  · obtain ⟨v, v1, v2⟩ := hj
    rw [(hL j).1 v v1 v2] at key
    exact ⟨v, v1, v2, by omega⟩
  · rw [(hL j).2 hj] at key
    omega
/-- all of a list is one part -/
def cnA (A : rn_L) (f : Nat → Nat) (T : ow_NT) : Prop := A.flatten ≠ [] ∧ ∀ u v, u < A.flatten.length → v < A.flatten.length → ptN T.1 T.2.2.1.1 (lbv A f u) (lbv A f v)
/-- a list is its own least code -/
def lsA9 (A : rn_L) (sg : Nat → Bool) : Prop := lsC A sg (List.range A.flatten.length) = some (tk sg A)
theorem sft_0 (U : List Nat) : sft 0 U = U := by
  unfold sft
  rw [show (fun t => if t = 0 then 0 else t + 4 * 0) = (id : Nat → Nat) from funext (fun t => by
    show (if t = 0 then 0 else t + 4 * 0) = t
    split <;> omega), List.map_id]
theorem pkR_one (h : emN W sg k R) (hv : vn R.1 R.2.2.1) (hc : cnA W k R) (hne : ∀ L, L ∈ W → L ≠ []) (hk : mk W m P) : lsC W sg (List.range W.flatten.length) = some (pkR W sg m P) := by
  have hl : 0 < W.flatten.length := List.length_pos_iff.mpr hc.1
  have hd := wkF_ok h.1
  have vis : ∀ c, c < W.length → ∃ v, v < W.flatten.length ∧ rn_c W v = c := fun c hcl => by
    obtain ⟨L, L1, L2⟩ := ring_sg W c hcl
    have hL := hne L L1
    rw [← L2] at hL
    have : sg9 (rn_b W c) (rn_b W (c + 1)) ≠ [] := fun e => hL (by rw [e]; rfl)
    obtain ⟨j, hj⟩ := List.exists_mem_of_ne_nil _ this
    have hj := sg9_m.mp hj
    have := rn_b_le W (c + 1)
    exact ⟨j, by omega, rn_c_of W c j hj.1 hj.2⟩
  have one : ∀ u v, u < W.flatten.length → v < W.flatten.length → m (rn_c W u) = m (rn_c W v) := fun u v hu hv9 => by
    obtain ⟨w, w1, w2, w3⟩ := em_lab h hv (q := fun v => m (rn_c W v)) (fun v hv => by
      show m (rn_c W (rn_nx W v)) = m (rn_c W v)
      rw [c_nx hv]) (fun v hv => (hk.2.1 _ _ ⟨v, mtf W v, mtf_mt hd hv, rfl, rfl⟩).symm) hu (hc.2 u v hu hv9)
    rw [← em_inj h w1 hv9 w2]
    exact w3.symm
  have hP : P = 1 := by
    have h0 := hk.1 _ (rn_c_in W 0 hl).1
    have key : ∀ p, p < P → p = m (rn_c W 0) := fun p hp => by
      obtain ⟨c, c1, c2⟩ := hk.2.2.2 p hp
      obtain ⟨v, v1, v2⟩ := vis c c1
      rw [← c2, ← v2]
      exact one v 0 v1 hl
    have a1 := key 0 (by omega)
    rcases Nat.lt_or_ge 1 P with q | q
    · have := key 1 q
      omega
    · omega
  subst hP
  have m0 : ∀ v, v < W.flatten.length → m (rn_c W v) = 0 := fun v hv => by
    have := hk.1 _ (rn_c_in W v hv).1
    omega
  have hpv : pvl W m 0 W.flatten.length = List.range W.flatten.length := by
    unfold pvl
    exact List.filter_eq_self.mpr (fun v hv => decide_eq_true (m0 v (List.mem_range.mp hv)))
  obtain ⟨U, hU⟩ := lsC_ne (A := W) (sg := sg) (vs := List.range W.flatten.length) (fun e => by
    have := congrArg List.length e
    rw [List.length_range] at this
    have : W.flatten.length = 0 := this
    omega)
  have hrw : rwL W sg m 1 = [(W.flatten.length, U)] := by
    rw [rwL_s]
    unfold rwA
    rw [hpv, hU, List.length_range]
    rfl
  have hcir : cir W m 1 = 0 := by
    rw [cir_eq hk]
    unfold cirs
    exact List.countP_eq_zero.mpr (fun L hL e => hne L hL (List.isEmpty_iff.mp e))
  rw [hU]
  unfold pkR
  rw [hrw, hcir]
  have hs := (sel_perm (R := [(W.flatten.length, U)])).1
  generalize sel [(W.flatten.length, U)] [(W.flatten.length, U)].length (fun _ => false) = ps at hs
  have hs := List.perm_singleton.mp hs
  cases ps with
  | nil => cases hs
  | cons p ps =>
    cases ps with
    | cons p2 ps => exact absurd (List.cons.inj hs).2 (List.cons_ne_nil _ _)
    | nil =>
      have hs : rAt [(W.flatten.length, U)] p = (W.flatten.length, U) := (List.cons.inj hs).1
      show some U = some (sft 0 (rAt [(W.flatten.length, U)] p).2 ++ [] ++ [])
      rw [hs, List.append_nil, List.append_nil, sft_0]
/-- the row of a piece is its own least code, and the net shows it -/
theorem em_row (h : emN W sg k R) (hv : vn R.1 R.2.2.1) (hc : cnA W k R) (hne : ∀ L, L ∈ W → L ≠ []) (h6 : W.length ≤ 6) (hk : mk W m P) : ∃ A' sg' g', pkR W sg m P = tk sg' A' ∧ okF A'.flatten (W.flatten.length / 2) ∧ A'.length = W.length ∧ emN A' sg' g' R ∧ cnA A' g' R ∧ lsA9 A' sg' ∧ ∀ u, u < A'.flatten.length → ∃ v, v < W.flatten.length ∧ lbv A' g' u = lbv W k v := by
  have hlen := h.2.1
  have h12 := h.2.2.1
  obtain ⟨f, R0, i1, i2⟩ := net_of h.1 (by omega) h6 sg
  obtain ⟨Cs, os, hZ⟩ := cp_ex i2
  obtain ⟨A', sg', e1, e2, e3, e4, f', e5⟩ := enc_iso i1 h6 i2 hk hZ
  obtain ⟨g', g1, g2⟩ := em_tr e5 (isoV_of i1 i2.1) h
  have hR0 : W.flatten.length / 2 = R0.1 := by
    have := i1.2.1
    omega
  have hlA : A'.flatten.length = W.flatten.length := by
    rw [okF_len e2.1, i1.2.1]
  have im : ∀ u, u < A'.flatten.length → ∃ v, v < W.flatten.length ∧ lbv A' g' u = lbv W k v := fun u hu => by
    obtain ⟨q, q1, q2⟩ := g2 _ (vAt_mem hu)
    obtain ⟨v, v1, rfl⟩ := mem_vAt q1
    exact ⟨v, v1, q2⟩
  have hcA : cnA A' g' R := by
    refine ⟨fun e => hc.1 (List.eq_nil_of_length_eq_zero (by rw [← hlA, e]; rfl)), fun u v hu hv => ?_⟩
    obtain ⟨a, a1, a2⟩ := im u hu
    obtain ⟨b, b1, b2⟩ := im v hv
    rw [a2, b2]
    exact hc.2 a b a1 b1
  have hU := pkR_one h hv hc hne hk
  have hl : 0 < W.flatten.length := List.length_pos_iff.mpr hc.1
  refine ⟨A', sg', g', e1, by rw [hR0]; exact e2.1, e4, g1, hcA, ?_, im⟩
  unfold lsA9
  rw [e1] at hU
  generalize tk sg' A' = U at hU
  obtain ⟨U', hU'⟩ := lsC_ne (A := A') (sg := sg') (vs := List.range A'.flatten.length) (fun e => by
    have := congrArg List.length e
    rw [List.length_range] at this
    have : A'.flatten.length = 0 := this
    omega)
  obtain ⟨w0, w1, w2⟩ := lsC_mem _ hU
  obtain ⟨s0, s1, s2⟩ := lsC_mem _ hU'
  have w1 := List.mem_range.mp w1
  have s1 := List.mem_range.mp s1
  have a1 : lexD U U' ≤ 0 := by
    obtain ⟨w, x1, x2⟩ := im s0 s1
    rw [s2, ← em_code g1 (by omega) s1, x2, em_code h (by omega) x1]
    exact lsC_le _ U hU w (List.mem_range.mpr x1)
  have a2 : lexD U' U ≤ 0 := by
    have hq : ∃ s, s < A'.flatten.length ∧ lbv A' g' s = lbv W k w0 := by
      obtain ⟨w, x1, x2⟩ := im 0 (by omega)
      obtain ⟨s, y1, y2, _⟩ := em_lab g1 hv (q := fun _ => 0) (fun _ _ => rfl) (fun _ _ => rfl) (u := 0) (by omega) (j := lbv W k w0) (by rw [x2]; exact hc.2 w w0 x1 w1)
      exact ⟨s, y1, y2⟩
    obtain ⟨s, y1, y2⟩ := hq
    rw [w2, ← em_code h (by omega) w1, ← y2, em_code g1 (by omega) y1]
    exact lsC_le _ U' hU' s (List.mem_range.mpr y1)
  have a3 := lexD_sym U U'
  rw [hU', lexD_0 U U' (by omega)]
end XSU9
end
