section
/-! 99zzzzzn.cpk -/
/-! the class's code of a net and the reference's row of it -/
theorem tk_ln {sg : Nat → Bool} : ∀ B : rn_L, (tk sg B).length = B.flatten.length + B.length
  | [] => rfl
  | L :: B => by
    rw [tk_cons, List.length_append, List.length_cons, List.length_map, tk_ln B, List.flatten_cons, List.length_append, List.length_cons]
    omega
theorem cntV_f {F : Nat → Int32} {p : Int32} : ∀ n, cntV F p n = ((List.range n).filter (fun k => decide (F k = p))).length
  | 0 => rfl
  | n + 1 => by
    rw [List.range_succ, List.filter_append, List.length_append, ← cntV_f n]
    show (if F n = p then cntV F p n + 1 else cntV F p n) = _
    by_cases e : F n = p
    · rw [if_pos e, List.filter_cons_of_pos (p := fun k => decide (F k = p)) (a := n) (decide_eq_true e)]
      rfl
    · rw [if_neg e, List.filter_cons_of_neg (by rw [decide_eq_false e]; decide)]
      rfl
section CQ2
variable {A : rn_L} {sg : Nat → Bool} {f : Nat → Nat} {T : ow_NT} {m : Nat → Nat} {P : Nat}
theorem mark_it {c : Nat} {S : ow_NP} (hv : vn c S) (hc : c ≤ 12) {k : Nat} (hk : k < 2 * c) : ∀ i, (np_parts c S.1).1 (it S.1 i k) = (np_parts c S.1).1 k
  | 0 => rfl
  | i + 1 => by
    show (np_parts c S.1).1 (S.1 (it S.1 i k)) = _
    rw [((parts_I hv hc).1 _ (it_lt hv hk i)).1]
    exact mark_it hv hc hk i
theorem part_iff (hi : isoN A sg f T) (hv : vn T.1 T.2.2.1) (hk : mk A m P) {v w : Nat} (h1 : v < A.flatten.length) (h2 : w < A.flatten.length) : (np_parts T.1 T.2.2.1.1).1 (lbv A f v) = (np_parts T.1 T.2.2.1.1).1 (lbv A f w) ↔ m (rn_c A v) = m (rn_c A w) := by
  have hc := hi.2.2.1
  have hd := wkF_ok hi.1
  constructor
  · intro e
    have hr := (parts_iff hv hc (lbv_lt hi h1) (lbv_lt hi h2)).mp e
    obtain ⟨u, u1, u2, u3⟩ := hr (fun k => ∃ u, u < A.flatten.length ∧ lbv A f u = k ∧ m (rn_c A u) = m (rn_c A v)) ⟨v, h1, rfl, rfl⟩ (fun j hj ⟨u, u1, u2, u3⟩ => by
      refine ⟨rn_nx A u, rnx_lt u1, ?_, ?_⟩
      · rw [← u2]
        exact (hi.2.2.2.2.2.1 u u1).symm
      · rw [c_nx u1]
        exact u3) (fun j hj ⟨u, u1, u2, u3⟩ => by
      obtain ⟨q1, q2, q3, q4⟩ := lbv_mt hi u1
      refine ⟨mtf A u, q1, by rw [q3, u2], ?_⟩
      rw [← u3]
      exact (hk.2.1 _ _ ⟨u, mtf A u, mtf_mt hd u1, rfl, rfl⟩).symm)
    rw [← u3, lbv_inj hi u1 h2 u2]
  · intro e
    have hcon := hk.2.2.1 _ _ (rn_c_in A v h1).1 (rn_c_in A w h2).1 e
    have same : ∀ a b, a < A.flatten.length → b < A.flatten.length → rn_c A b = rn_c A a → (np_parts T.1 T.2.2.1.1).1 (lbv A f b) = (np_parts T.1 T.2.2.1.1).1 (lbv A f a) := by
      intro a b ha hb he
      obtain ⟨i, _, h9⟩ := iso_same hi ha hb he
      rw [← h9]
      exact mark_it hv hc (lbv_lt hi ha) i
    have hS := hcon (fun c => ∀ u, u < A.flatten.length → rn_c A u = c → (np_parts T.1 T.2.2.1.1).1 (lbv A f u) = (np_parts T.1 T.2.2.1.1).1 (lbv A f v)) (fun u hu he => same v u h1 hu he) (fun x z hx hadj u hu he => by
      obtain ⟨a, b, ab, ea, eb⟩ := hadj
      have hlt := rn_mt_lt ab
      have hb : mtf A a = b := mtf_eq hd ab
      obtain ⟨q1, q2, q3, q4⟩ := lbv_mt hi hlt.1
      rw [hb] at q3
      rw [same b u hlt.2 hu (he.trans eb.symm), q3, ((parts_I hv hc).1 _ (lbv_lt hi hlt.1)).2]
      exact hx a hlt.1 ea)
    exact (hS w h2 rfl).symm
theorem pvl_m {p v n : Nat} : v ∈ pvl A m p n ↔ v < n ∧ m (rn_c A v) = p := by
  unfold pvl
  rw [List.mem_filter, List.mem_range, decide_eq_true_iff]
theorem pvl_cnt (hi : isoN A sg f T) (hv : vn T.1 T.2.2.1) (hk : mk A m P) {v r : Nat} (h1 : v < A.flatten.length) (er : (np_parts T.1 T.2.2.1.1).1 (lbv A f v) = nI r) : cntV (np_parts T.1 T.2.2.1.1).1 (nI r) (2 * T.1) = (pvl A m (m (rn_c A v)) A.flatten.length).length := by
  rw [cntV_f, ← List.length_map (f := lbv A f) (as := pvl A m (m (rn_c A v)) A.flatten.length)]
  refine nodup_eq (nodup_filter List.nodup_range) (nodup_map (nodup_filter List.nodup_range) (fun a b ha hb e => lbv_inj hi (pvl_m.mp ha).1 (pvl_m.mp hb).1 e)) (fun k => ?_)
  rw [List.mem_filter, List.mem_range, decide_eq_true_iff, List.mem_map]
  constructor
  · rintro ⟨hk1, hk2⟩
    obtain ⟨w, hw, ew⟩ := lbv_sur hi hk1
    refine ⟨w, pvl_m.mpr ⟨hw, ?_⟩, ew⟩
    refine ((part_iff hi hv hk hw h1).mp ?_)
    rw [ew, hk2, er]
  · rintro ⟨w, hw, ew⟩
    have hw2 := pvl_m.mp hw
    rw [← ew]
    refine ⟨lbv_lt hi hw2.1, ?_⟩
    rw [(part_iff hi hv hk hw2.1 h1).mpr hw2.2]
    exact er
/-- a part's code is what the reference finds of the part -/
theorem part_key {r : Nat} {C : cdT} (hi : isoN A sg f T) (hA : A.length ≤ 23) (hv : vn T.1 T.2.2.1) (hk : mk A m P) {v : Nat} (h1 : v < A.flatten.length) (er : (np_parts T.1 T.2.2.1.1).1 (lbv A f v) = nI r) (hC : epC T (np_parts T.1 T.2.2.1.1).1 (nI r) C) : lsC A sg (pvl A m (m (rn_c A v)) A.flatten.length) = some C.2 ∧ 2 * C.1 = (pvl A m (m (rn_c A v)) A.flatten.length).length ∧ ∃ B sgB, gp B C.1 ∧ C.2 = tk sgB B := by
  have hc := hi.2.2.1
  have hd := wkF_ok hi.1
  obtain ⟨k, k1, k2, k3, k4⟩ := epC_le (n0 := ptL T.1 T.2.2.1 r) (fun v hv1 ev => tf_len_pt T.2.2.2 hv hc hv1 ev) ⟨_, lbv_lt hi h1, er⟩ hC
  obtain ⟨s, s1, s2⟩ := lbv_sur hi k1
  have es : (np_parts T.1 T.2.2.1.1).1 (lbv A f s) = (np_parts T.1 T.2.2.1.1).1 (lbv A f v) := by rw [s2, k2, er]
  have ems := (part_iff hi hv hk s1 h1).mp es
  have e2 : C.2 = cdv A sg s := by
    rw [k3, ← s2]
    exact iso_code hi hA s1
  have hsin : s ∈ pvl A m (m (rn_c A v)) A.flatten.length := pvl_m.mpr ⟨s1, ems⟩
  have hcnt := pvl_cnt hi hv hk h1 er
  obtain ⟨B, sgB, g1, g2, g3, g4⟩ := cdv_gp (sg := sg) hi.1 s1
  have htl := (trS_len hd hk s1).2
  rw [ems] at htl
  have hBl := okF_len g1.1
  have hC1 : C.1 = (fm A (vsO A (trS A s))).length := by
    rw [hC.1, hcnt, ← htl, ← g3, hBl]
    omega
  refine ⟨?_, ?_, B, sgB, by rw [hC1]; exact g1, by rw [e2, g2]⟩
  · obtain ⟨U, hU⟩ := lsC_ne (A := A) (sg := sg) (List.ne_nil_of_mem hsin)
    obtain ⟨w, w1, w2⟩ := lsC_mem _ hU
    have a1 := lsC_le _ U hU s hsin
    have hw := pvl_m.mp w1
    have a2 : lexD C.2 U ≤ 0 := by
      rw [w2, ← iso_code hi hA hw.1]
      refine k4 _ (lbv_lt hi hw.1) ?_
      rw [(part_iff hi hv hk hw.1 h1).mpr hw.2]
      exact er
    rw [← e2] at a1
    have a3 := lexD_sym U C.2
    have a4 := lexD_0 U C.2 (by omega)
    rw [hU, a4]
  · rw [hC1, ← htl, ← g3, hBl]
theorem rwL_eq : ∀ Q, rwL A sg m Q = ((List.range Q).filter (fun p => !(pvl A m p A.flatten.length).isEmpty)).map (fun p => ((pvl A m p A.flatten.length).length, (lsC A sg (pvl A m p A.flatten.length)).getD []))
  | 0 => rfl
  | Q + 1 => by
    rw [rwL_s, rwL_eq Q, List.range_succ, List.filter_append, List.map_append]
    unfold rwA
    cases hl : lsC A sg (pvl A m Q A.flatten.length) with
    | none =>
      have e := lsC_none hl
      rw [List.filter_cons_of_neg (by rw [e]; decide)]
      show _ = _ ++ []
      rw [List.append_nil]
    | some U =>
      have hne : pvl A m Q A.flatten.length ≠ [] := by
        intro e
        rw [e] at hl
        cases hl
      have hb : (!(pvl A m Q A.flatten.length).isEmpty) = true := by
        cases e : pvl A m Q A.flatten.length with
        | nil => exact absurd e hne
        | cons a L => rfl
      rw [List.filter_cons_of_pos (p := fun p => !(pvl A m p A.flatten.length).isEmpty) (a := Q) hb]
      show _ ++ [((pvl A m Q A.flatten.length).length, U)] = _ ++ [((pvl A m Q A.flatten.length).length, (lsC A sg (pvl A m Q A.flatten.length)).getD [])]
      rw [hl]
      rfl
theorem con_empty {c b : Nat} (hc : neB A c = false) (h : rn_con A c b) : b = c := by
  refine h (fun x => x = c) rfl (fun x y hx hadj => ?_)
  obtain ⟨v, w, h1, h2, h3⟩ := hadj
  have := neB_in (rn_mt_lt h1).1
  rw [h2, hx, hc] at this
  cases this
theorem cir_f : ∀ Q, cir A m Q = ((List.range Q).filter (fun p => (pvl A m p A.flatten.length).isEmpty)).length
  | 0 => rfl
  | Q + 1 => by
    rw [List.range_succ, List.filter_append, List.length_append, ← cir_f Q]
    show cir A m Q + (if pvl A m Q A.flatten.length = [] then 1 else 0) = _
    congr 1
    cases e : pvl A m Q A.flatten.length with
    | nil =>
      rw [if_pos rfl, List.filter_cons_of_pos (by rw [e]; rfl)]
      rfl
    | cons a L =>
      rw [if_neg (List.cons_ne_nil a L), List.filter_cons_of_neg (by rw [e]; exact fun h => (by cases h))]
      rfl
theorem cirs_f : cirs A = ((List.range A.length).filter (fun c => !neB A c)).length := by
  have h1 := ne_cnt A
  have key : ∀ n, cntB (neB A) n + ((List.range n).filter (fun c => !neB A c)).length = n := by
    intro n
    induction n with
    | zero => rfl
    | succ n ih =>
      rw [List.range_succ, List.filter_append, List.length_append]
      show cntB (neB A) n + (if neB A n = true then 1 else 0) + _ = n + 1
      cases e : neB A n with
      | true =>
        rw [if_pos rfl, List.filter_cons_of_neg (by rw [e]; decide)]
        show _ + 1 + (_ + 0) = _
        omega
      | false =>
        rw [if_neg (by decide), List.filter_cons_of_pos (by rw [e]; rfl)]
        show _ + 0 + (_ + 1) = _
        omega
  have h2 := key A.length
  omega
theorem cir_eq (hk : mk A m P) : cir A m P = cirs A := by
  rw [cir_f, cirs_f, ← List.length_map (f := m) (as := (List.range A.length).filter (fun c => !neB A c))]
  have hin : ∀ c, c ∈ (List.range A.length).filter (fun c => !neB A c) ↔ c < A.length ∧ neB A c = false := by
    intro c
    rw [List.mem_filter, List.mem_range, Bool.not_eq_true']
  refine nodup_eq (nodup_filter List.nodup_range) (nodup_map (nodup_filter List.nodup_range) (fun a b ha hb e => ?_)) (fun p => ?_)
  · have ha := (hin a).mp ha
    have hb := (hin b).mp hb
    exact (con_empty ha.2 (hk.2.2.1 a b ha.1 hb.1 e)).symm
  · rw [List.mem_filter, List.mem_range, List.mem_map, List.isEmpty_iff]
    constructor
    · rintro ⟨h1, h2⟩
      obtain ⟨c, c1, c2⟩ := hk.2.2.2 p h1
      refine ⟨c, (hin c).mpr ⟨c1, ?_⟩, c2⟩
      cases e : neB A c with
      | false => rfl
      | true =>
        have h3 := rnb_s c1
        have hpos : 0 < (A[c]).length := by
          unfold neB at e
          rw [List.getElem?_eq_getElem c1] at e
          cases e9 : A[c] with
          | nil =>
            have e : (!(A[c]).isEmpty) = true := e
            rw [e9] at e
            cases e
          | cons a L => exact Nat.succ_pos _
        have hb := rn_b_le A (c + 1)
        have hm : rn_b A c ∈ pvl A m p A.flatten.length := pvl_m.mpr ⟨by omega, by rw [rn_c_of A c (rn_b A c) (Nat.le_refl _) (by omega)]; exact c2⟩
        rw [h2] at hm
        cases hm
    · rintro ⟨c, c1, c2⟩
      have hc := (hin c).mp c1
      refine ⟨by rw [← c2]; exact hk.1 c hc.1, ?_⟩
      cases e : pvl A m p A.flatten.length with
      | nil => rfl
      | cons v L =>
        have hv : v ∈ pvl A m p A.flatten.length := by rw [e]; exact List.mem_cons_self
        have hv := pvl_m.mp hv
        have h9 := con_empty hc.2 (hk.2.2.1 c _ hc.1 (rn_c_in A v hv.1).1 (by rw [hv.2]; exact c2))
        have h8 := neB_in hv.1
        rw [h9, hc.2] at h8
        cases h8
end CQ2
def dbl (C : cdT) : cdT := (2 * C.1, C.2)
theorem dbl_cmp {a b : cdT} (h : cmpC a b ≤ 0) : cmpC (dbl a) (dbl b) ≤ 0 := by
  unfold cmpC dbl at *
  by_cases e : a.1 = b.1
  · rw [if_pos e] at h
    rw [if_pos (by show 2 * a.1 = 2 * b.1; omega)]
    exact h
  · rw [if_neg e] at h
    rw [if_neg (by show ¬ 2 * a.1 = 2 * b.1; omega)]
    show ((2 * a.1 : Nat) : Int) - (2 * b.1 : Nat) ≤ 0
    omega
section CR2
variable {A : rn_L} {sg : Nat → Bool} {f : Nat → Nat} {T : ow_NT} {m : Nat → Nat} {P : Nat} {Cs : List cdT} {os : List Nat}
theorem keys_perm (hi : isoN A sg f T) (hA : A.length ≤ 23) (hT : nv T) (hk : mk A m P) (hZ : cpZ T (np_parts T.1 T.2.2.1.1).2 Cs os) : (Cs.map dbl).Perm (rwL A sg m P) := by
  obtain ⟨z1, z2, z3, z4⟩ := hZ
  have hv := hT.1
  have hc := hT.2.1
  obtain ⟨p1, p2, p3, p4⟩ := parts_I hv hc
  let F := (np_parts T.1 T.2.2.1.1).1
  let n := (np_parts T.1 T.2.2.1.1).2
  have hex : ∀ r, r < n → ∃ v, v < A.flatten.length ∧ F (lbv A f v) = nI r := by
    intro r hr
    obtain ⟨k, k1, k2⟩ := p3 r hr
    obtain ⟨v, v1, v2⟩ := lbv_sur hi k1
    exact ⟨v, v1, by rw [v2]; exact k2⟩
  let vr : Nat → Nat := fun r => if h : ∃ v, v < A.flatten.length ∧ F (lbv A f v) = nI r then Classical.choose h else 0
  have hvr : ∀ r, r < n → vr r < A.flatten.length ∧ F (lbv A f (vr r)) = nI r := by
    intro r hr
    have h := hex r hr
    have e : vr r = Classical.choose h := dif_pos h
    rw [e]
    exact Classical.choose_spec h
  let keyf : Nat → cdT := fun p => ((pvl A m p A.flatten.length).length, (lsC A sg (pvl A m p A.flatten.length)).getD [])
  have e1 : Cs.map dbl = ((List.range n).map (fun r => m (rn_c A (vr r)))).map keyf := by
    rw [List.map_map]
    apply List.ext_getElem?
    intro r
    rw [List.getElem?_map, List.getElem?_map]
    by_cases hr : r < n
    · have hr2 : r < Cs.length := by rw [z1]; exact hr
      rw [List.getElem?_range hr, List.getElem?_eq_getElem hr2]
      have hCr := z2 r _ (List.getElem?_eq_getElem hr2)
      obtain ⟨q1, q2, -⟩ := part_key hi hA hv hk (hvr r hr).1 (hvr r hr).2 hCr.1
      show some (dbl Cs[r]) = some (keyf (m (rn_c A (vr r))))
      congr 1
      refine Prod.ext q2 ?_
      show Cs[r].2 = (lsC A sg (pvl A m (m (rn_c A (vr r))) A.flatten.length)).getD []
      rw [q1]
      rfl
    · rw [List.getElem?_eq_none (by rw [z1]; exact Nat.le_of_not_lt hr), List.getElem?_eq_none (by rw [List.length_range]; exact Nat.le_of_not_lt hr)]
      rfl
  rw [e1, rwL_eq]
  refine List.Perm.map _ ?_
  have hn31 : n < 2 ^ 31 := by
    have : n ≤ 2 * T.1 := p4
    omega
  refine (List.perm_ext_iff_of_nodup (nodup_map List.nodup_range (fun a b ha hb e => ?_)) (nodup_filter List.nodup_range)).mpr (fun p => ?_)
  · have ha := List.mem_range.mp ha
    have hb := List.mem_range.mp hb
    have h1 := (part_iff hi hv hk (hvr a ha).1 (hvr b hb).1).mpr e
    have h2 : nI a = nI b := by
      rw [← (hvr a ha).2, ← (hvr b hb).2]
      exact h1
    exact nI_inj9 (by omega) (by omega) h2
  · rw [List.mem_map, List.mem_filter, List.mem_range, Bool.not_eq_true', List.isEmpty_eq_false_iff]
    constructor
    · rintro ⟨r, r1, r2⟩
      have hr := hvr r (List.mem_range.mp r1)
      refine ⟨by rw [← r2]; exact hk.1 _ (rn_c_in A _ hr.1).1, ?_⟩
      exact List.ne_nil_of_mem (pvl_m.mpr ⟨hr.1, r2⟩)
    · rintro ⟨q1, q2⟩
      obtain ⟨v, hv9⟩ := List.exists_mem_of_ne_nil _ q2
      have hv1 := pvl_m.mp hv9
      obtain ⟨r, r1, r2⟩ := p2 _ (lbv_lt hi hv1.1)
      refine ⟨r, List.mem_range.mpr r1, ?_⟩
      rw [← hv1.2]
      refine (part_iff hi hv hk (hvr r r1).1 hv1.1).mp ?_
      exact (hvr r r1).2.trans r2.symm
theorem prt_list {Ks : List cdT} (h : ∀ C, C ∈ Ks → ∃ B sgB, gp B C.1 ∧ C.2 = tk sgB B) : ∃ Ps : List prt, Ks = Ps.map (fun P => (P.2.2, tk P.2.1 P.1)) ∧ ∀ P, P ∈ Ps → gp P.1 P.2.2 := by
  induction Ks with
  | nil => exact ⟨[], rfl, fun P hP => by cases hP⟩
  | cons C Ks ih =>
    obtain ⟨Ps, h1, h2⟩ := ih (fun D hD => h D (List.mem_cons_of_mem _ hD))
    obtain ⟨B, sgB, h3, h4⟩ := h C List.mem_cons_self
    refine ⟨(B, sgB, C.1) :: Ps, ?_, fun P hP => ?_⟩
    · rw [List.map_cons, ← h1]
      show C :: Ks = (C.1, tk sgB B) :: Ks
      rw [← h4]
    · rcases List.mem_cons.mp hP with e | e
      · rw [e]
        exact h3
      · exact h2 P e
theorem prt_sums : ∀ Ps : List prt, (∀ P, P ∈ Ps → gp P.1 P.2.2) → ((Ps.map (fun P => (2 * P.2.2, tk P.2.1 P.1))).map (fun r => r.1)).sum = 2 * totC Ps ∧ ((Ps.map (fun P => (2 * P.2.2, tk P.2.1 P.1))).map (fun r => r.2.length)).sum = 2 * totC Ps + totL Ps
  | [], _ => ⟨rfl, rfl⟩
  | P :: Ps, h => by
    obtain ⟨i1, i2⟩ := prt_sums Ps (fun Q hQ => h Q (List.mem_cons_of_mem _ hQ))
    have hl := okF_len (h P List.mem_cons_self).1
    rw [List.map_cons, List.map_cons, List.map_cons, List.sum_cons, List.sum_cons, i1, i2]
    show 2 * P.2.2 + 2 * totC Ps = 2 * (P.2.2 + totC Ps) ∧ (tk P.2.1 P.1).length + (2 * totC Ps + totL Ps) = 2 * (P.2.2 + totC Ps) + (P.1.length + totL Ps)
    rw [tk_ln]
    omega
/-- THE CODES: what the class writes of a net and what the reference writes of its components are rows of one list -/
theorem enc_pk (hi : isoN A sg f T) (hA : A.length ≤ 6) (hT : nv T) (hk : mk A m P) (hZ : cpZ T (np_parts T.1 T.2.2.1.1).2 Cs os) : ∃ A' sg', pkR A sg m P = tk sg' A' ∧ okL A' T.1 ∧ enC T Cs os = clC sg' A' ∧ A'.length = A.length := by
  have hperm := keys_perm hi (by omega) hT hk hZ
  obtain ⟨z1, z2, z3, z4⟩ := id hZ
  have hv := hT.1
  have hc := hT.2.1
  have hd := wkF_ok hi.1
  have ecs : (List.range Cs.length).map (fun s => Cs.getD s (0, [])) = Cs := by
    apply List.ext_getElem?
    intro i
    rw [List.getElem?_map]
    by_cases h : i < Cs.length
    · rw [List.getElem?_range h, List.getElem?_eq_getElem h]
      show some (Cs.getD i (0, [])) = _
      rw [List.getD_eq_getElem?_getD, List.getElem?_eq_getElem h]
      rfl
    · rw [List.getElem?_eq_none (by rw [List.length_range]; omega), List.getElem?_eq_none (by omega)]
      rfl
  have hos : (os.map (fun s => Cs.getD s (0, []))).Perm Cs := by
    have h1 := z3.map (fun s => Cs.getD s (0, []))
    rw [← z1, ecs] at h1
    exact h1
  have hKs : ∀ C, C ∈ os.map (fun s => Cs.getD s (0, [])) → ∃ B sgB, gp B C.1 ∧ C.2 = tk sgB B := by
    intro C hC
    have hC2 := hos.mem_iff.mp hC
    obtain ⟨r, hr⟩ := List.getElem?_of_mem hC2
    have hr2 := (List.getElem?_eq_some_iff.mp hr).1
    obtain ⟨p1, p2, p3, p4⟩ := parts_I hv hc
    obtain ⟨k, k1, k2⟩ := p3 r (by rw [← z1]; exact hr2)
    obtain ⟨v, v1, v2⟩ := lbv_sur hi k1
    obtain ⟨-, -, q3⟩ := part_key hi (by omega) hv hk v1 (by rw [v2]; exact k2) (z2 r C hr).1
    exact q3
  obtain ⟨Ps, hP1, hP2⟩ := prt_list hKs
  have hdP : (os.map (fun s => Cs.getD s (0, []))).map dbl = Ps.map (fun P => (2 * P.2.2, tk P.2.1 P.1)) := by
    rw [hP1, List.map_map]
    rfl
  have hsel := sel_perm (R := rwL A sg m P)
  have heq : (sel (rwL A sg m P) (rwL A sg m P).length (fun _ => false)).map (rAt (rwL A sg m P)) = Ps.map (fun P => (2 * P.2.2, tk P.2.1 P.1)) := by
    rw [← hdP]
    refine pw_eq hsel.2 ?_ (hsel.1.trans (((hos.map dbl).trans hperm).symm))
    rw [List.pairwise_map]
    exact (srt_pw z4).imp dbl_cmp
  have hpk := pkT_cat _ Ps 0 heq hP2
  obtain ⟨s1, s2⟩ := prt_sums Ps hP2
  obtain ⟨r1, r2⟩ := rwL_tot (sg := sg) hd hk
  have hpr : (Ps.map (fun P => (2 * P.2.2, tk P.2.1 P.1))).Perm (rwL A sg m P) := by
    rw [← heq]
    exact hsel.1
  have t1 := (hpr.map (fun r => r.1)).sum_nat
  have t2 := (hpr.map (fun r => r.2.length)).sum_nat
  rw [s1, r2] at t1
  rw [s2] at t2
  have hcir := cir_eq hk
  have hlen := hi.2.1
  have hcs : cirs A = T.2.1 := hi.2.2.2.2.2.2.2
  have htc : totC Ps = T.1 := by omega
  have htl : totL Ps + T.2.1 = A.length := by omega
  obtain ⟨c1, c2, c3, c4⟩ := catA_ok (q := T.2.1) hP2 (by omega) (by omega)
  refine ⟨catA Ps T.2.1, catG 0 Ps, ?_, by rw [← htc]; exact c1, ?_, by rw [c4]; exact htl⟩
  · unfold pkR
    rw [hpk, c3, hcir, hcs]
  · rw [c2, htc]
    unfold enC
    congr 2
    have : cdR Cs os = rowP Ps := by
      have h1 := congrArg (List.map (fun C : cdT => C.2)) hP1
      rw [List.map_map, List.map_map] at h1
      exact h1
    rw [this]
end CR2
end
section
/-! 99zzzzzo.cring -/
/-! every valid net shows a list of components -/
theorem cntB_fl {q : Nat → Bool} : ∀ n, cntB q n = ((List.range n).filter q).length
  | 0 => rfl
  | n + 1 => by
    rw [List.range_succ, List.filter_append, List.length_append, ← cntB_fl n]
    show cntB q n + (if q n = true then 1 else 0) = _
    congr 1
    cases e : q n with
    | true =>
      rw [if_pos rfl, List.filter_cons_of_pos e]
      rfl
    | false =>
      rw [if_neg (by decide), List.filter_cons_of_neg (by rw [e]; decide)]
      rfl
/-- rl names the rings' lengths -/
def rlK (c : Nat) (S : ow_NP) (rl : Nat → Nat) : Prop := ∀ w, w < 2 * c → rl w ≤ 2 * c ∧ ring_len S.1 w (rl w)
theorem rlK_ex {c : Nat} {S : ow_NP} (h : vn c S) : ∃ rl, rlK c S rl := by
  have hx : ∀ w, ∃ m, w < 2 * c → m ≤ 2 * c ∧ ring_len S.1 w m := by
    intro w
    by_cases hw : w < 2 * c
    · obtain ⟨m, hm⟩ := ring_ex h hw
      exact ⟨m, fun _ => hm⟩
    · exact ⟨0, fun h9 => absurd h9 hw⟩
  exact ⟨fun w => Classical.choose (hx w), fun w hw => Classical.choose_spec (hx w) hw⟩
def kp (k : Nat) : Nat × Nat := (k / 2, k % 2)
theorem kp_lb (k : Nat) : lb (kp k) = k := by
  unfold lb kp
  show 2 * (k / 2) + k % 2 = k
  omega
def rgV (rl : Nat → Nat) (S : ow_NP) (w : Nat) : List (Nat × Nat) := (List.range (rl w)).map (fun i => kp (it S.1 i w))
def netL (rl : Nat → Nat) (T : ow_NT) : rn_L := ((List.range (2 * T.1)).filter (fun k => lst T.2.2.1.1 k 24)).map (rgV rl T.2.2.1) ++ List.replicate T.2.1 []
section CO
variable {c : Nat} {S : ow_NP} {rl : Nat → Nat}
theorem lst_same (hr : rlK c S rl) (hc : c ≤ 12) {w w' i j : Nat} (hw : w < 2 * c) (hw' : w' < 2 * c) (l1 : lst S.1 w 24 = true) (l2 : lst S.1 w' 24 = true) (hj : j < rl w') (e : it S.1 i w = it S.1 j w') : w ≤ w' := by
  have r1 := hr _ hw
  have r2 := hr _ hw'
  have e1 : w' = it S.1 (rl w' - j + i) w := by
    rw [it_add, e, ← it_add, show rl w' - j + j = rl w' by omega]
    exact r2.2.2.1.symm
  obtain ⟨k, k1, k2⟩ := it_mod r1.2 (rl w' - j + i)
  rw [e1, k2]
  exact (lst_t 24).mp l1 k (by omega)
theorem rgV_nd (h : vn c S) (hr : rlK c S rl) {w : Nat} (hw : w < 2 * c) : (rgV rl S w).Nodup := by
  have r1 := hr _ hw
  refine nodup_map List.nodup_range (fun a b ha hb e => ?_)
  have ha := List.mem_range.mp ha
  have hb := List.mem_range.mp hb
  have e2 : it S.1 a w = it S.1 b w := by
    have := congrArg lb e
    rw [kp_lb, kp_lb] at this
    exact this
  rcases Nat.lt_trichotomy a b with q | q | q
  · exact absurd e2 (ring_dist h hw r1.2 q hb)
  · exact q
  · exact absurd e2.symm (ring_dist h hw r1.2 q ha)
theorem netL_ok {T : ow_NT} (hr : rlK T.1 T.2.2.1 rl) (h : vn T.1 T.2.2.1) (hc : T.1 ≤ 12) : okF (netL rl T).flatten T.1 := by
  unfold netL
  rw [List.flatten_append, fl_nil, List.append_nil]
  have hlm : ∀ w, w ∈ (List.range (2 * T.1)).filter (fun k => lst T.2.2.1.1 k 24) ↔ w < 2 * T.1 ∧ lst T.2.2.1.1 w 24 = true := by
    intro w
    rw [List.mem_filter, List.mem_range]
  refine ⟨?_, fun p => ?_⟩
  · show List.Pairwise _ _
    rw [List.pairwise_flatten]
    refine ⟨fun L hL => ?_, ?_⟩
    · obtain ⟨w, hw, e⟩ := List.mem_map.mp hL
      rw [← e]
      exact rgV_nd h hr ((hlm w).mp hw).1
    · rw [List.pairwise_map]
      have hnd : ((List.range (2 * T.1)).filter (fun k => lst T.2.2.1.1 k 24)).Nodup := nodup_filter List.nodup_range
      refine List.Pairwise.imp_of_mem ?_ hnd
      intro a b ha hb hne x hx y hy exy
      have ha := (hlm a).mp ha
      have hb := (hlm b).mp hb
      obtain ⟨i, hi, ei⟩ := List.mem_map.mp hx
      obtain ⟨j, hj, ej⟩ := List.mem_map.mp hy
      have hi := List.mem_range.mp hi
      have hj := List.mem_range.mp hj
      have e : it T.2.2.1.1 i a = it T.2.2.1.1 j b := by
        have := congrArg lb (ei.trans (exy.trans ej.symm))
        rw [kp_lb, kp_lb] at this
        exact this
      have h1 := lst_same hr hc ha.1 hb.1 ha.2 hb.2 hj e
      have h2 := lst_same hr hc hb.1 ha.1 hb.2 ha.2 hi e.symm
      exact hne (Nat.le_antisymm h1 h2)
  · constructor
    · intro hp
      obtain ⟨L, hL, hpL⟩ := List.mem_flatten.mp hp
      obtain ⟨w, hw, e⟩ := List.mem_map.mp hL
      rw [← e] at hpL
      obtain ⟨i, hi, ei⟩ := List.mem_map.mp hpL
      have := it_lt h ((hlm w).mp hw).1 i
      rw [← ei]
      unfold kp
      show it T.2.2.1.1 i w / 2 < T.1 ∧ it T.2.2.1.1 i w % 2 < 2
      omega
    · intro ⟨hp1, hp2⟩
      have hk : lb p < 2 * T.1 := by unfold lb; omega
      obtain ⟨m, hm1, hm2⟩ := ring_ex h hk
      obtain ⟨w, w1, ⟨j, j1, j2⟩, w3⟩ := ring_least h hc hk hm2 hm1
      have hl : lst T.2.2.1.1 w 24 = true := (w3 w ⟨j, j1, j2⟩).mpr rfl
      have r1 := hr _ w1
      have e1 : it T.2.2.1.1 (m - j) w = lb p := by
        rw [j2, ← it_add, show m - j + j = m by omega]
        exact hm2.2.1
      obtain ⟨i, i1, i2⟩ := it_mod r1.2 (m - j)
      refine List.mem_flatten.mpr ⟨rgV rl T.2.2.1 w, List.mem_map.mpr ⟨w, (hlm w).mpr ⟨w1, hl⟩, rfl⟩, List.mem_map.mpr ⟨i, List.mem_range.mpr i1, ?_⟩⟩
      rw [← i2, e1]
      unfold kp lb
      exact Prod.ext (by show (2 * p.1 + p.2) / 2 = p.1; omega) (by show (2 * p.1 + p.2) % 2 = p.2; omega)
/-- a component goes round -/
def cyc (N : Nat → Nat) (L : List (Nat × Nat)) : Prop := ∀ i p q, L[i]? = some p → (if i + 1 < L.length then L[i + 1]? else L[0]?) = some q → N (lb p) = lb q
theorem cyc_all {N : Nat → Nat} : ∀ A : rn_L, (∀ L, L ∈ A → cyc N L) → ∀ v, v < A.flatten.length → N (lb (vAt A v)) = lb (vAt A (rn_nx A v)) := by
  refine snocI (fun _ v hv => absurd hv (Nat.not_lt_zero _)) (fun A L ih h v hv => ?_)
  rw [fl_app, List.length_append] at hv
  by_cases e : v < A.flatten.length
  · rw [vAt_ap e, rnx_app e, vAt_ap (rnx_lt e)]
    exact ih (fun K hK => h K (List.mem_append_left _ hK)) v e
  · obtain ⟨i, rfl⟩ : ∃ i, v = A.flatten.length + i := ⟨v - A.flatten.length, by omega⟩
    have hi : i < L.length := by omega
    have hL := h L (List.mem_append_right _ (List.mem_singleton.mpr rfl))
    rw [rnx_new hi, vAt_nw (List.getElem?_eq_getElem hi)]
    by_cases h1 : i + 1 < L.length
    · rw [if_pos h1, vAt_nw (List.getElem?_eq_getElem h1)]
      refine hL i _ _ (List.getElem?_eq_getElem hi) ?_
      rw [if_pos h1]
      exact List.getElem?_eq_getElem h1
    · rw [if_neg h1, show A.flatten.length = A.flatten.length + 0 from rfl, vAt_nw (List.getElem?_eq_getElem (show 0 < L.length by omega))]
      refine hL i _ _ (List.getElem?_eq_getElem hi) ?_
      rw [if_neg h1]
      exact List.getElem?_eq_getElem (by omega)
theorem rgV_cyc (hr : rlK c S rl) {w : Nat} (hw : w < 2 * c) : cyc S.1 (rgV rl S w) := by
  have r1 := hr _ hw
  have hl : (rgV rl S w).length = rl w := by
    unfold rgV
    rw [List.length_map, List.length_range]
  have hat : ∀ i, i < rl w → (rgV rl S w)[i]? = some (kp (it S.1 i w)) := by
    intro i hi
    unfold rgV
    rw [List.getElem?_map, List.getElem?_range hi]
    rfl
  intro i p q ep eq
  have hi := (List.getElem?_eq_some_iff.mp ep).1
  rw [hl] at hi eq
  rw [hat i hi] at ep
  cases ep
  rw [kp_lb]
  by_cases h1 : i + 1 < rl w
  · rw [if_pos h1, hat _ h1] at eq
    cases eq
    rw [kp_lb]
    rfl
  · rw [if_neg h1, hat 0 (by omega)] at eq
    cases eq
    rw [kp_lb]
    have := r1.2.2.1
    rw [show rl w = i + 1 by omega] at this
    exact this
end CO
theorem netL_iso {T : ow_NT} {rl : Nat → Nat} (hr : rlK T.1 T.2.2.1 rl) (h : vn T.1 T.2.2.1) (hc : T.1 ≤ 12) : isoN (netL rl T) (fun x => decide (T.2.2.2 x < 0)) (fun x => x) T ∧ (netL rl T).length = np_rg T.1 T.2.2.1 + T.2.1 := by
  have hok := netL_ok hr h hc
  have hlen := okF_len hok
  have hlm : ∀ w, w ∈ (List.range (2 * T.1)).filter (fun k => lst T.2.2.1.1 k 24) → w < 2 * T.1 := by
    intro w hw
    rw [List.mem_filter, List.mem_range] at hw
    exact hw.1
  have hn : (netL rl T).length = np_rg T.1 T.2.2.1 + T.2.1 := by
    unfold netL np_rg
    rw [List.length_append, List.length_map, List.length_replicate, cntB_fl]
  have hcy : ∀ L, L ∈ netL rl T → cyc T.2.2.1.1 L := by
    intro L hL
    rcases List.mem_append.mp hL with h9 | h9
    · obtain ⟨w, hw, e⟩ := List.mem_map.mp h9
      rw [← e]
      exact rgV_cyc hr (hlm w hw)
    · rw [(List.mem_replicate.mp h9).2]
      intro i p q ep
      rw [List.getElem?_nil] at ep
      cases ep
  have hin : ∀ v, v < (netL rl T).flatten.length → crs (netL rl T) v < T.1 ∧ uns (netL rl T) v < 2 := fun v hv => (hok.2 _).mp (vAt_mem hv)
  refine ⟨⟨okF_wk (by omega) hok, hlen, hc, fun v hv => (hin v hv).1, fun v w _ _ e => e, fun v hv => cyc_all (netL rl T) hcy v hv, fun v hv => ?_, ?_⟩, hn⟩
  · rw [decide_eq_true_iff]
  · unfold cirs netL
    rw [List.countP_append]
    have e1 : (((List.range (2 * T.1)).filter (fun k => lst T.2.2.1.1 k 24)).map (rgV rl T.2.2.1)).countP (fun B => B.isEmpty) = 0 := by
      rw [List.countP_eq_zero]
      intro L hL
      obtain ⟨w, hw, e⟩ := List.mem_map.mp hL
      have r1 := (hr _ (hlm w hw)).2.1
      rw [← e]
      intro he
      have := List.isEmpty_iff.mp he
      have hl : (rgV rl T.2.2.1 w).length = rl w := by
        unfold rgV
        rw [List.length_map, List.length_range]
      rw [this] at hl
      have hl' : 0 = rl w := hl
      omega
    rw [e1, List.countP_replicate]
    show 0 + T.2.1 = T.2.1
    omega
/-- marks of classes -/
theorem marks_ex {R : Nat → Nat → Prop} (hr : ∀ a, R a a) (hs : ∀ a b, R a b → R b a) (ht : ∀ a b c, R a b → R b c → R a c) : ∀ n, ∃ (m : Nat → Nat) (P : Nat), (∀ c, c < n → m c < P) ∧ (∀ a b, a < n → b < n → (m a = m b ↔ R a b)) ∧ ∀ p, p < P → ∃ c, c < n ∧ m c = p
  | 0 => ⟨fun _ => 0, 0, fun c hc => absurd hc (Nat.not_lt_zero _), fun a b ha => absurd ha (Nat.not_lt_zero _), fun p hp => absurd hp (Nat.not_lt_zero _)⟩
  | n + 1 => by
    obtain ⟨m, P, h1, h2, h3⟩ := marks_ex hr hs ht n
    by_cases hex : ∃ b, b < n ∧ R b n
    · obtain ⟨b, b1, b2⟩ := hex
      refine ⟨fun c => if c = n then m b else m c, P, fun c hc => ?_, fun a d ha hd => ?_, fun p hp => ?_⟩
      · show (if c = n then m b else m c) < P
        split
        · exact h1 b b1
        · exact h1 c (by omega)
      · show (if a = n then m b else m a) = (if d = n then m b else m d) ↔ R a d
        by_cases ea : a = n
        · by_cases ed : d = n
          · rw [if_pos ea, if_pos ed, ea, ed]
            exact ⟨fun _ => hr n, fun _ => rfl⟩
          · rw [if_pos ea, if_neg ed, ea, h2 b d b1 (by omega)]
            exact ⟨fun h => ht _ _ _ (hs _ _ b2) h, fun h => ht _ _ _ b2 h⟩
        · by_cases ed : d = n
          · rw [if_neg ea, if_pos ed, ed, h2 a b (by omega) b1]
            exact ⟨fun h => ht _ _ _ h b2, fun h => ht _ _ _ h (hs _ _ b2)⟩
          · rw [if_neg ea, if_neg ed]
            exact h2 a d (by omega) (by omega)
      · obtain ⟨c, c1, c2⟩ := h3 p hp
        refine ⟨c, by omega, ?_⟩
        show (if c = n then m b else m c) = p
        rw [if_neg (by omega)]
        exact c2
    · refine ⟨fun c => if c = n then P else m c, P + 1, fun c hc => ?_, fun a d ha hd => ?_, fun p hp => ?_⟩
      · show (if c = n then P else m c) < P + 1
        split
        · omega
        · have := h1 c (by omega)
          omega
      · show (if a = n then P else m a) = (if d = n then P else m d) ↔ R a d
        by_cases ea : a = n
        · by_cases ed : d = n
          · rw [if_pos ea, if_pos ed, ea, ed]
            exact ⟨fun _ => hr n, fun _ => rfl⟩
          · rw [if_pos ea, if_neg ed, ea]
            have := h1 d (by omega)
            exact ⟨fun h => absurd h (by omega), fun h => absurd ⟨d, by omega, hs _ _ h⟩ hex⟩
        · by_cases ed : d = n
          · rw [if_neg ea, if_pos ed, ed]
            have := h1 a (by omega)
            exact ⟨fun h => absurd h (by omega), fun h => absurd ⟨a, by omega, h⟩ hex⟩
          · rw [if_neg ea, if_neg ed]
            exact h2 a d (by omega) (by omega)
      · by_cases ep : p = P
        · refine ⟨n, by omega, ?_⟩
          show (if n = n then P else m n) = p
          rw [if_pos rfl, ep]
        · obtain ⟨c, c1, c2⟩ := h3 p (by omega)
          refine ⟨c, by omega, ?_⟩
          show (if c = n then P else m c) = p
          rw [if_neg (by omega)]
          exact c2
theorem mk_ex (A : rn_L) : ∃ m P, mk A m P := by
  obtain ⟨m, P, h1, h2, h3⟩ := marks_ex (R := rn_con A) (fun _ => rn_con.rf) (fun _ _ h => h.symm) (fun _ _ _ h k => h.tr k) A.length
  refine ⟨m, P, h1, fun a b hab => ?_, fun a b ha hb e => (h2 a b ha hb).mp e, h3⟩
  obtain ⟨v, w, e1, e2, e3⟩ := id hab
  have hl := rn_mt_lt e1
  refine (h2 a b ?_ ?_).mpr (rn_con.st rn_con.rf hab)
  · rw [← e2]
    exact (rn_c_in A v hl.1).1
  · rw [← e3]
    exact (rn_c_in A w hl.2).1
/-- the code of a valid net is written from a list of components -/
theorem enc_ok {T : ow_NT} {Cs : List cdT} {os : List Nat} (hT : nv T) (hZ : cpZ T (np_parts T.1 T.2.2.1.1).2 Cs os) : ∃ A' sg', okL A' T.1 ∧ enC T Cs os = clC sg' A' ∧ (T.1 ≠ 0 ∨ T.2.1 ≠ 0 → A' ≠ []) := by
  obtain ⟨rl, hr⟩ := rlK_ex hT.1
  obtain ⟨hi, h6⟩ := netL_iso hr hT.1 hT.2.1
  have h66 := hT.2.2.2
  obtain ⟨m, P, hk⟩ := mk_ex (netL rl T)
  obtain ⟨A', sg', -, h2, h3, h4⟩ := enc_pk hi (by omega) hT hk hZ
  refine ⟨A', sg', h2, h3, fun hne e => ?_⟩
  rw [e] at h4
  have h0 : netL rl T = [] := List.length_eq_zero_iff.mp h4.symm
  have h1 := hi.2.1
  have h5 : cirs (netL rl T) = T.2.1 := hi.2.2.2.2.2.2.2
  rw [h0] at h1 h5
  have h1' : 0 = 2 * T.1 := h1
  have h5' : 0 = T.2.1 := h5
  omega
end
section
/-! 99zzzzzp.chg -/
/-! the class: diagrams loaded, kept; what a call leaves -/
section W0
variable {O : Type} {Q : O → Prop}
theorem w_tc0 {f : Nat → Option (Nat × ow_MS)} {R : Nat × ow_MS → Prop} {E1 : Nat → ow_MS → Nat → Nat → Option O} {E2 : ow_MS → Nat → Nat → Option O} (hc : Te f R) (H0 : ∀ z1, R (0, z1) → Tt (E2 z1) Q) (H1 : ∀ a z1, a ≠ 0 → R (a, z1) → Tt (E1 a z1) Q) : Tt (fun K k => tc0 (f K) (fun a z => E1 a z K k) (fun z => E2 z K k)) Q := by
  obtain ⟨⟨a, z1⟩, ⟨b, hb⟩, hr⟩ := hc
  by_cases e : a = 0
  · subst e
    obtain ⟨r2, ⟨b2, hb2⟩, hq⟩ := H0 z1 hr
    refine ⟨r2, ⟨b + b2, fun K k hK hk => ?_⟩, hq⟩
    show tc0 (f K) _ _ = _
    rw [hb K (by omega)]
    show (if (0 : Nat) = 0 then E2 z1 K k else E1 0 z1 K k) = _
    rw [if_pos rfl]
    exact hb2 K k (by omega) (by omega)
  · obtain ⟨r2, ⟨b2, hb2⟩, hq⟩ := H1 a z1 e hr
    refine ⟨r2, ⟨b + b2, fun K k hK hk => ?_⟩, hq⟩
    show tc0 (f K) _ _ = _
    rw [hb K (by omega)]
    show (if a = 0 then E2 z1 K k else E1 a z1 K k) = _
    rw [if_neg e]
    exact hb2 K k (by omega) (by omega)
theorem w_tc1 {α : Type} {f : Nat → Option (Nat × α × ow_MS)} {R : Nat × α × ow_MS → Prop} {E1 : Nat → ow_MS → Nat → Nat → Option O} {E2 : α → ow_MS → Nat → Nat → Option O} (hc : Te f R) (H0 : ∀ v z1, R (0, v, z1) → Tt (E2 v z1) Q) (H1 : ∀ a v z1, a ≠ 0 → R (a, v, z1) → Tt (E1 a z1) Q) : Tt (fun K k => tc1 (f K) (fun a z => E1 a z K k) (fun v z => E2 v z K k)) Q := by
  obtain ⟨⟨a, v, z1⟩, ⟨b, hb⟩, hr⟩ := hc
  by_cases e : a = 0
  · subst e
    obtain ⟨r2, ⟨b2, hb2⟩, hq⟩ := H0 v z1 hr
    refine ⟨r2, ⟨b + b2, fun K k hK hk => ?_⟩, hq⟩
    show tc1 (f K) _ _ = _
    rw [hb K (by omega)]
    show (if (0 : Nat) = 0 then E2 v z1 K k else E1 0 z1 K k) = _
    rw [if_pos rfl]
    exact hb2 K k (by omega) (by omega)
  · obtain ⟨r2, ⟨b2, hb2⟩, hq⟩ := H1 a v z1 e hr
    refine ⟨r2, ⟨b + b2, fun K k hK hk => ?_⟩, hq⟩
    show tc1 (f K) _ _ = _
    rw [hb K (by omega)]
    show (if a = 0 then E2 v z1 K k else E1 a z1 K k) = _
    rw [if_neg e]
    exact hb2 K k (by omega) (by omega)
end W0
/-- codes that are written from components -/
def okC (C : cdT) : Prop := ∃ A sg c, okL A c ∧ C = clC sg A
theorem okC_ok {C : cdT} (h : okC C) : cOK C := by
  obtain ⟨A, sg, c, h1, h2⟩ := h
  rw [h2]
  exact (okL_c h1).2
/-- the places of the diagrams -/
def dgC (y : ow_MS) : Prop := byR y 1001 ∧ ∀ d, d < 40 → (∃ c, c ≤ 12 ∧ slC y 1000 d (c, [])) ∨ ∃ C, slC y 1000 d C ∧ okC C ∧ 0 < C.2.length
theorem dgC_E {y : ow_MS} (h : dgC y) : dgE y := by
  intro d hd
  rcases h.2 d hd with ⟨c, h1, h2⟩ | ⟨C, h1, h2, h3⟩
  · exact Or.inl h2.2.1
  · exact Or.inr ⟨C, h1, okC_ok h2, h3⟩
/-- the nets' numbers -/
def nsC (y : ow_MS) : Prop := ∀ h, nH h → ∃ T, cAt y h T ∧ ow_b24 T.2.2.1
/-- the coders' rows -/
def kdC (y : ow_MS) : Prop := ∀ k, kH k → byR y (k + 1001) ∧ byR y (k + 2001) ∧ byR y (k + 3001)
def gN (y : ow_MS) : Prop := dgC y ∧ nsC y ∧ kdC y
theorem byR_fr {P : Nat → Prop} {y y1 : ow_MS} {g : Nat} (hf : fr P y y1) (hP : ¬ P g) (h : byR y g) : byR y1 g := by
  intro i
  rw [(hf g hP).2.1]
  exact h i
theorem dgC_fr {P : Nat → Prop} {y y1 : ow_MS} (hf : fr P y y1) (hP : ∀ g, 1001 ≤ g → g ≤ 1003 → ¬ P g) (h : dgC y) : dgC y1 := by
  have hs : ∀ d C, slC y 1000 d C → slC y1 1000 d C := fun d C hc => slC_fr hf (fun q hq => hP q (by unfold cW at hq; omega) (by unfold cW at hq; omega)) hc
  refine ⟨byR_fr hf (hP 1001 (by omega) (by omega)) h.1, fun d hd => ?_⟩
  rcases h.2 d hd with ⟨c, h1, h2⟩ | ⟨C, h1, h2, h3⟩
  · exact Or.inl ⟨c, h1, hs d _ h2⟩
  · exact Or.inr ⟨C, hs d C h1, h2, h3⟩
theorem kdC_fr {P : Nat → Prop} {y y1 : ow_MS} (hf : fr P y y1) (hP : ∀ g, P g → g ≠ 8001 ∧ g ≠ 9001 ∧ g ≠ 10001 ∧ g ≠ 21001 ∧ g ≠ 22001 ∧ g ≠ 23001) (h : kdC y) : kdC y1 := by
  intro k hk
  have hb := h k hk
  rcases hk with rfl | rfl
  · exact ⟨byR_fr hf (fun h9 => (hP _ h9).1 rfl) hb.1, byR_fr hf (fun h9 => (hP _ h9).2.1 rfl) hb.2.1, byR_fr hf (fun h9 => (hP _ h9).2.2.1 rfl) hb.2.2⟩
  · exact ⟨byR_fr hf (fun h9 => (hP _ h9).2.2.2.1 rfl) hb.1, byR_fr hf (fun h9 => (hP _ h9).2.2.2.2.1 rfl) hb.2.1, byR_fr hf (fun h9 => (hP _ h9).2.2.2.2.2 rfl) hb.2.2⟩
theorem nH_far {h h' : Nat} (hh : nH h) (hh' : nH h') (hne : h ≠ h') : h + 1000 ≤ h' ∨ h' + 1000 ≤ h := by
  have key : ∀ a, a ∈ nHL → a % 1000 = 0 := by decide
  have h1 := key h hh
  have h2 := key h' hh'
  omega
theorem nsC_put {P : Nat → Prop} {y y1 : ow_MS} {h : Nat} (hh : nH h) (hf : fr P y y1) (hP : ∀ h', nH h' → h' ≠ h → ∀ g, cP h' g → ¬ P g) (hT : ∃ T, cAt y1 h T ∧ ow_b24 T.2.2.1) (hn : nsC y) : nsC y1 := by
  intro h' hh'
  by_cases e : h' = h
  · rw [e]
    exact hT
  · obtain ⟨T, h1, h2⟩ := hn h' hh'
    exact ⟨T, cAt_fr hf (hP h' hh' e) h1, h2⟩
theorem nsC_fr {P : Nat → Prop} {y y1 : ow_MS} (hf : fr P y y1) (hP : ∀ h', nH h' → ∀ g, cP h' g → ¬ P g) (hn : nsC y) : nsC y1 := by
  intro h' hh'
  obtain ⟨T, h1, h2⟩ := hn h' hh'
  exact ⟨T, cAt_fr hf (hP h' hh') h1, h2⟩
/-- what a call on diagrams may change -/
def uP (g : Nat) : Prop := 1001 ≤ g ∧ g ≤ 1005 ∨ 4001 ≤ g ∧ g ≤ 5011 ∨ 7004 ≤ g ∧ g ≤ 10005
theorem nH4 : nH 4000 := by unfold nH nHL; exact List.mem_cons_self
theorem nH5 : nH 5000 := by unfold nH nHL; exact List.mem_cons_of_mem _ List.mem_cons_self
def isO (y : ow_MS) (x : Int32) : Prop := ∃ d A sg c, d < 40 ∧ x = nI d ∧ slC y 1000 d (clC sg A) ∧ okL A c ∧ A ≠ []
theorem isD_O {y : ow_MS} {x : Int32} (h : dgC y) (hD : isD y x) : isO y x := by
  obtain ⟨d, C, h1, h2, h3, h4, h5⟩ := hD
  have hl30 := h4.2.1
  rcases h.2 d h1 with ⟨c, q1, q2⟩ | ⟨C', q1, ⟨A, sg, c, q2, q3⟩, q4⟩
  · have : nI C.2.length = nI 0 := h3.2.1.symm.trans q2.2.1
    have := nI_inj9 (by omega) (by omega) this
    omega
  · rw [q3] at q1 q4
    refine ⟨d, A, sg, c, h1, h2, q1, q2, fun e => ?_⟩
    rw [e] at q4
    exact Nat.lt_irrefl _ q4
/-- a net within the region that may change -/
theorem gN_net {h : Nat} {P : Nat → Prop} {y y1 : ow_MS} (hh : nH h) (hf : fr P y y1) (hP : ∀ g, P g → h + 1 ≤ g ∧ g ≤ h + 11) (hT : ∃ T, cAt y1 h T ∧ ow_b24 T.2.2.1) (hN : gN y) : gN y1 := by
  have h4 : 4000 ≤ h ∧ h ≤ 44000 := nH_all (P := fun h => 4000 ≤ h ∧ h ≤ 44000) (by decide) hh
  have key2 : ∀ a, a ∈ nHL → a ≠ 8000 ∧ a ≠ 9000 ∧ a ≠ 10000 ∧ a ≠ 21000 ∧ a ≠ 22000 ∧ a ≠ 23000 := by decide
  have hm := key2 h hh
  have key : ∀ a, a ∈ nHL → a % 1000 = 0 := by decide
  have h0 := key h hh
  refine ⟨dgC_fr hf (fun g g1 g2 h9 => by have := hP g h9; omega) hN.1, nsC_put hh hf (fun h' hh' hne g hg h9 => ?_) hT hN.2.1, kdC_fr hf (fun g h9 => ?_) hN.2.2⟩
  · have := hP g h9
    have := nH_far hh' hh hne
    unfold cP at hg
    omega
  · have := hP g h9
    omega
section CU
variable {vl : Nat → Nat} {y : ow_MS} {x : Int32}
theorem tc_need (hN : dgC y) : Te (fun K => ce_X11_needDiagram vl K 0 x y) (fun r => (r.1 = 0 ∧ isO y x ∨ r.1 = 1 ∧ ∀ d, d < 40 → x = nI d → y.2.1 1002 d = 0) ∧ r.2 = y) := by
  refine w_monoE (tc_needDiagram (dgC_E hN)) ?_
  rintro r ⟨h1 | h1, h2⟩
  · exact ⟨Or.inl ⟨h1.1, isD_O hN h1.2⟩, h2⟩
  · exact ⟨Or.inr h1, h2⟩
theorem tc_ld {h d c : Nat} {A : rn_L} {sg : Nat → Bool} (hh : nH h) (hN : gN y) (hd : d < 40) (hs : slC y 1000 d (clC sg A)) (hA : okL A c) : Te (fun K => ce_X7_load vl K h 1000 (nI d) y) (fun y1 => gN y1 ∧ fr (cL h) y y1 ∧ ∃ T1, shA y1 h A sg T1 ∧ T1.1 = c ∧ T1.2.1 = cirs A) := by
  obtain ⟨T, hT, hb⟩ := hN.2.1 h hh
  have h4 : 4000 ≤ h := nH_all (P := fun h => 4000 ≤ h) (by decide) hh
  refine w_monoE (tc_load2 hh ch_1000 (by omega) hd hA hs hT hb) ?_
  rintro y1 ⟨⟨T1, h1, h2, h3⟩, h5⟩
  refine ⟨gN_net hh h5 (fun g hg => by unfold cL at hg; omega) ⟨T1, h1.1, h1.2.2.1.2.2.1⟩ hN, h5, T1, h1, h2, h3⟩
theorem e_X11_keep {vl : Nat → Nat} {r0 : Nat} {x1 : Int32} {z : ow_MS} {Q : (Int32 × ow_MS) → Prop} (H : Tt (fun K _ => cm_X11_keep_0 vl K x1 r0 z) Q) : Te (fun K => ce_X11_keep vl K r0 x1 z) Q := w_te0 H
/-- a net is given a code and the code a place -/
theorem tc_keep {d : Nat} {T : ow_NT} (hN : gN y) (hd : d < 40) (hy : cAt y 4000 T) (hT : nv T) : Te (fun K => ce_X11_keep vl K 0 (nI d) y) (fun r => r.1 = nI d ∧ gN r.2 ∧ fr uP y r.2 ∧ (∃ Cs os, cpZ T (np_parts T.1 T.2.2.1.1).2 Cs os ∧ slC r.2 1000 d (enC T Cs os)) ∧ (∀ e C, e ≠ d → cOK C → slC y 1000 e C → slC r.2 1000 e C) ∧ cAt r.2 4000 T) := by
  have hk : kH 7000 := Or.inl rfl
  have hb := hN.2.2 7000 hk
  refine e_X11_keep ?_; unfold cm_X11_keep_0
  refine w_cs0 (tc_encode hk nH4 hy hT hb.1 hb.2.1 hb.2.2) ?_
  rintro y1 ⟨⟨Cs, os, z1, z2, z3⟩, b1, b2, b3, hy1, f1⟩
  obtain ⟨A', sg', q1, q2, -⟩ := enc_ok hT z1
  have hfu : fr uP y y1 := fr_mono (fun g hg => by
    unfold enP cpP epP cV cQ at hg
    unfold uP
    omega) f1
  have hN1 : gN y1 := by
    refine ⟨dgC_fr f1 (fun g g1 g2 h9 => by unfold enP cpP epP cV cQ at h9; omega) hN.1, nsC_put nH4 f1 (fun h' hh' hne g hg h9 => ?_) ⟨T, hy1, hT.2.2.1⟩ hN.2.1, fun k hk2 => ?_⟩
    · have h8 := nH_far hh' nH4 hne
      have h7 := kH_dj hk hh'
      unfold cP at hg
      unfold enP cpP epP cV cQ at h9
      omega
    · rcases hk2 with rfl | rfl
      · exact ⟨b1, b2, b3⟩
      · have hb9 := hN.2.2 20000 (Or.inr rfl)
        exact ⟨byR_fr f1 (by unfold enP cpP epP cV cQ; omega) hb9.1, byR_fr f1 (by unfold enP cpP epP cV cQ; omega) hb9.2.1, byR_fr f1 (by unfold enP cpP epP cV cQ; omega) hb9.2.2⟩
  refine w_cs0 (tc_write ch_1000 (kH_out hk) (by omega) hd Nat.one_pos z2 z3 b1) ?_
  rintro y2 ⟨w1, w2, w3, w4⟩
  have hfu2 : fr uP y1 y2 := fr_mono (fun g hg => by
    unfold cW at hg
    unfold uP
    omega) w4
  have hsl : ∀ e C, e ≠ d → cOK C → slC y 1000 e C → slC y2 1000 e C := by
    intro e C hne oC hC
    refine w2 e C hne oC (slC_fr f1 (fun q hq h9 => ?_) hC)
    unfold cW at hq
    unfold enP cpP epP cV cQ at h9
    omega
  refine w_some ⟨rfl, ⟨⟨w3 hN1.1.1, fun e he => ?_⟩, nsC_fr w4 (fun h' hh' g hg h9 => ?_) hN1.2.1, kdC_fr w4 (fun g h9 => ?_) hN1.2.2⟩, fr_tr hfu hfu2, ⟨Cs, os, z1, w1⟩, hsl, cAt_fr w4 (fun q hq h9 => by unfold cP at hq; unfold cW at h9; omega) hy1⟩
  · by_cases ed : e = d
    · rw [ed]
      by_cases el : (enC T Cs os).2 = []
      · refine Or.inl ⟨T.1, hT.2.1, ?_⟩
        have : enC T Cs os = (T.1, []) := Prod.ext rfl el
        rw [← this]
        exact w1
      · exact Or.inr ⟨_, w1, ⟨A', sg', T.1, q1, q2⟩, List.length_pos_iff.mpr el⟩
    · rcases hN.1.2 e he with ⟨c, c1, c2⟩ | ⟨C, c1, c2, c3⟩
      · exact Or.inl ⟨c, c1, hsl e _ ed ⟨c1, Nat.zero_le _, fun a ha => by cases ha⟩ c2⟩
      · exact Or.inr ⟨C, hsl e C ed (okC_ok c2) c1, c2, c3⟩
  · have h4 : 4000 ≤ h' := nH_all (P := fun h => 4000 ≤ h) (by decide) hh'
    unfold cP at hg
    unfold cW at h9
    omega
  · unfold cW at h9
    omega
/-- a flip keeps a net valid -/
theorem nv_flip {T : ow_NT} {x : Nat} {G : Nat → Int32} (hT : nv T) (hx : x < T.1) : nv (T.1, T.2.1, np_swap T.2.2.1 (2 * x) (2 * x + 1), G) := nv_swap hT (show 2 * x < 2 * T.1 by omega) (show 2 * x + 1 < 2 * T.1 by omega)
theorem e_X11_mirror {vl : Nat → Nat} {r0 : Nat} {x1 : Int32} {z : ow_MS} {Q : (Nat × Int32 × ow_MS) → Prop} (H : Tt (fun K k => c_X11_mirror vl K k 0 x1 0 0 r0 z) Q) : Te (fun K => ce_X11_mirror vl K r0 x1 z) Q := w_te H
theorem u_X11_mirror_0 {vl : Nat → Nat} {x1 : Int32} {x2 : Int32} {x3 : Int32} {r0 : Nat} {z : ow_MS} {Q : (Nat × Int32 × ow_MS) → Prop} (H : Tt (fun K k => cm_X11_mirror_0 vl K (c_X11_mirror vl K k) x1 x2 x3 r0 z) Q) : Tt (fun K k => c_X11_mirror vl K k 0 x1 x2 x3 r0 z) Q := w_un (fun _ _ => rfl) H
theorem u_X11_mirror_1 {vl : Nat → Nat} {x1 : Int32} {x2 : Int32} {x3 : Int32} {r0 : Nat} {z : ow_MS} {Q : (Nat × Int32 × ow_MS) → Prop} (H : Tt (fun K k => cm_X11_mirror_1 vl K (c_X11_mirror vl K k) x1 x2 x3 r0 z) Q) : Tt (fun K k => c_X11_mirror vl K k 1 x1 x2 x3 r0 z) Q := w_un (fun _ _ => rfl) H
theorem e_X11_needCrossing {vl : Nat → Nat} {r0 : Nat} {x1 : Int32} {z : ow_MS} {Q : (Nat × ow_MS) → Prop} (H : Tt (fun K _ => cm_X11_needCrossing_0 vl K x1 r0 z) Q) : Te (fun K => ce_X11_needCrossing vl K r0 x1 z) Q := w_te0 H
theorem tc_needCrossing {c : Nat} (h8 : y.1 4008 = nI c) (hc : c ≤ 12) : Te (fun K => ce_X11_needCrossing vl K 0 x y) (fun r => ((r.1 = 0 ∧ ∃ i, i < c ∧ x = nI i) ∨ r.1 = 1 ∧ ∀ i, i < c → x ≠ nI i) ∧ r.2 = y) := by
  refine e_X11_needCrossing ?_; unfold cm_X11_needCrossing_0
  refine w_if (fun e => w_some ⟨Or.inr ⟨rfl, fun i hi ex => ?_⟩, rfl⟩) (fun e => ?_)
  · rw [ex] at e
    exact nI_pos (by omega) e
  · obtain ⟨i, i31, rfl⟩ := nI_of e
    refine w_rdF h8 (w_lt i31 (by omega) (fun h9 => w_some ⟨Or.inl ⟨rfl, i, h9, rfl⟩, rfl⟩) (fun h9 => w_some ⟨Or.inr ⟨rfl, fun j hj ex => ?_⟩, rfl⟩))
    have := (nI_eq i31 (by omega)).mp ex
    omega
theorem e_X11_needComponent {vl : Nat → Nat} {r0 : Nat} {x1 : Int32} {z : ow_MS} {Q : (Nat × ow_MS) → Prop} (H : Tt (fun K _ => cm_X11_needComponent_0 vl K x1 r0 z) Q) : Te (fun K => ce_X11_needComponent vl K r0 x1 z) Q := w_te0 H
theorem tc_needComponent {c : Nat} (h8 : y.1 4010 = nI c) (hc : c ≤ 12) : Te (fun K => ce_X11_needComponent vl K 0 x y) (fun r => ((r.1 = 0 ∧ ∃ i, i < c ∧ x = nI i) ∨ r.1 = 1 ∧ ∀ i, i < c → x ≠ nI i) ∧ r.2 = y) := by
  refine e_X11_needComponent ?_; unfold cm_X11_needComponent_0
  refine w_if (fun e => w_some ⟨Or.inr ⟨rfl, fun i hi ex => ?_⟩, rfl⟩) (fun e => ?_)
  · rw [ex] at e
    exact nI_pos (by omega) e
  · obtain ⟨i, i31, rfl⟩ := nI_of e
    refine w_rdF h8 (w_lt i31 (by omega) (fun h9 => w_some ⟨Or.inl ⟨rfl, i, h9, rfl⟩, rfl⟩) (fun h9 => w_some ⟨Or.inr ⟨rfl, fun j hj ex => ?_⟩, rfl⟩))
    have := (nI_eq i31 (by omega)).mp ex
    omega
theorem e_X11_change {vl : Nat → Nat} {r0 : Nat} {x1 : Int32} {x2 : Int32} {z : ow_MS} {Q : (Nat × Int32 × ow_MS) → Prop} (H : Tt (fun K _ => cm_X11_change_0 vl K x1 x2 r0 z) Q) : Te (fun K => ce_X11_change vl K r0 x1 x2 z) Q := w_te0 H
end CU
end
section
/-! 99zzzzzq.cfig -/
/-! the class: figure, visit, linking, smooth -/
section CV
variable {vl : Nat → Nat} {y : ow_MS} {x x' : Int32}
def noD (y : ow_MS) (x : Int32) : Prop := ∀ d, d < 40 → x = nI d → y.2.1 1002 d = 0
theorem five {x : Int32} (h0 : ¬ x < 0) (h5 : x ≤ 5) : x = 0 ∨ x = 1 ∨ x = 2 ∨ x = 3 ∨ x = 4 ∨ x = 5 := by
  obtain ⟨n, n31, rfl⟩ := nI_of h0
  have hn : n ≤ 5 := (nI_leI n31 (by omega : 5 < 2 ^ 31)).mp h5
  have : n = 0 ∨ n = 1 ∨ n = 2 ∨ n = 3 ∨ n = 4 ∨ n = 5 := by omega
  rcases this with rfl | rfl | rfl | rfl | rfl | rfl
  · exact Or.inl rfl
  · exact Or.inr (Or.inl rfl)
  · exact Or.inr (Or.inr (Or.inl rfl))
  · exact Or.inr (Or.inr (Or.inr (Or.inl rfl)))
  · exact Or.inr (Or.inr (Or.inr (Or.inr (Or.inl rfl))))
  · exact Or.inr (Or.inr (Or.inr (Or.inr (Or.inr rfl))))
theorem e_X11_figure {vl : Nat → Nat} {r0 : Nat} {x1 : Int32} {x2 : Int32} {z : ow_MS} {Q : (Nat × Int32 × ow_MS) → Prop} (H : Tt (fun K _ => cm_X11_figure_0 vl K x1 x2 r0 z) Q) : Te (fun K => ce_X11_figure vl K r0 x1 x2 z) Q := w_te0 H
theorem e_X11_visit {vl : Nat → Nat} {r0 : Nat} {x1 : Int32} {x2 : Int32} {x3 : Int32} {z : ow_MS} {Q : (Nat × Int32 × ow_MS) → Prop} (H : Tt (fun K _ => cm_X11_visit_0 vl K x1 x2 x3 r0 z) Q) : Te (fun K => ce_X11_visit vl K r0 x1 x2 x3 z) Q := w_te0 H
end CV
end
section
/-! 99zzzzzr.clnk -/
/-! the class: linking, smooth -/
/-- the signs of the crossings between components a and b -/
def lkC (F G : Nat → Int32) (a b : Int32) : Nat → Int32
  | 0 => 0
  | x + 1 => if (F (2 * x) = a ∧ F (2 * x + 1) = b) ∨ (F (2 * x) = b ∧ F (2 * x + 1) = a) then lkC F G a b x + G x else lkC F G a b x
section CX2
variable {vl : Nat → Nat} {y : ow_MS} {x a b : Int32}
theorem e_X11_linking {vl : Nat → Nat} {r0 : Nat} {x1 : Int32} {x2 : Int32} {x3 : Int32} {z : ow_MS} {Q : (Nat × Int32 × ow_MS) → Prop} (H : Tt (fun K k => c_X11_linking vl K k 0 x1 x2 x3 0 0 0 0 r0 z) Q) : Te (fun K => ce_X11_linking vl K r0 x1 x2 x3 z) Q := w_te H
theorem u_X11_linking_0 {vl : Nat → Nat} {x1 : Int32} {x2 : Int32} {x3 : Int32} {x4 : Int32} {x5 : Int32} {x6 : Int32} {x7 : Int32} {r0 : Nat} {z : ow_MS} {Q : (Nat × Int32 × ow_MS) → Prop} (H : Tt (fun K k => cm_X11_linking_0 vl K (c_X11_linking vl K k) x1 x2 x3 x4 x5 x6 x7 r0 z) Q) : Tt (fun K k => c_X11_linking vl K k 0 x1 x2 x3 x4 x5 x6 x7 r0 z) Q := w_un (fun _ _ => rfl) H
theorem u_X11_linking_1 {vl : Nat → Nat} {x1 : Int32} {x2 : Int32} {x3 : Int32} {x4 : Int32} {x5 : Int32} {x6 : Int32} {x7 : Int32} {r0 : Nat} {z : ow_MS} {Q : (Nat × Int32 × ow_MS) → Prop} (H : Tt (fun K k => cm_X11_linking_1 vl K (c_X11_linking vl K k) x1 x2 x3 x4 x5 x6 x7 r0 z) Q) : Tt (fun K k => c_X11_linking vl K k 1 x1 x2 x3 x4 x5 x6 x7 r0 z) Q := w_un (fun _ _ => rfl) H
theorem u_X11_linking_4 {vl : Nat → Nat} {x1 : Int32} {x2 : Int32} {x3 : Int32} {x4 : Int32} {x5 : Int32} {x6 : Int32} {x7 : Int32} {r0 : Nat} {z : ow_MS} {Q : (Nat × Int32 × ow_MS) → Prop} (H : Tt (fun K k => cm_X11_linking_4 vl K (c_X11_linking vl K k) x1 x2 x3 x4 x5 x6 x7 r0 z) Q) : Tt (fun K k => c_X11_linking vl K k 4 x1 x2 x3 x4 x5 x6 x7 r0 z) Q := w_un (fun _ _ => rfl) H
theorem u_X11_linking_3 {vl : Nat → Nat} {x1 : Int32} {x2 : Int32} {x3 : Int32} {x4 : Int32} {x5 : Int32} {x6 : Int32} {x7 : Int32} {r0 : Nat} {z : ow_MS} {Q : (Nat × Int32 × ow_MS) → Prop} (H : Tt (fun K k => cm_X11_linking_3 vl K (c_X11_linking vl K k) x1 x2 x3 x4 x5 x6 x7 r0 z) Q) : Tt (fun K k => c_X11_linking vl K k 3 x1 x2 x3 x4 x5 x6 x7 r0 z) Q := w_un (fun _ _ => rfl) H
theorem u_X11_linking_2 {vl : Nat → Nat} {x1 : Int32} {x2 : Int32} {x3 : Int32} {x4 : Int32} {x5 : Int32} {x6 : Int32} {x7 : Int32} {r0 : Nat} {z : ow_MS} {Q : (Nat × Int32 × ow_MS) → Prop} (H : Tt (fun K k => cm_X11_linking_2 vl K (c_X11_linking vl K k) x1 x2 x3 x4 x5 x6 x7 r0 z) Q) : Tt (fun K k => c_X11_linking vl K k 2 x1 x2 x3 x4 x5 x6 x7 r0 z) Q := w_un (fun _ _ => rfl) H
end CX2
/-- rings marked: as many as least visits -/
theorem mr_in_mk {c : Nat} {S : ow_NP} (h : vn c S) {f m : Nat} (hf : f < 2 * c) (hm : ring_len S.1 f m) {x : Int32} (hx : x ≠ -1) : ∀ (d i : Nat) (F : Nat → Int32), i ≤ m → m ≤ i + d → (∀ k, (F k = -1 ↔ False) ∨ True) → (∀ j, i ≤ j → j < m → F (it S.1 j f) = -1) → (∀ j, j < i → F (it S.1 j f) ≠ -1) → (∀ k, mr_in S.1 x d F (it S.1 i f) k = -1 ↔ F k = -1 ∧ ∀ j, i ≤ j → j < m → k ≠ it S.1 j f) := by
  intro d
  induction d with
  | zero =>
    intro i F hi hd _ h1 h2 k
    show F k = -1 ↔ _
    exact ⟨fun e => ⟨e, fun j hj1 hj2 => absurd hj2 (by omega)⟩, fun e => e.1⟩
  | succ d ih =>
    intro i F hi hd _ h1 h2 k
    show (if F (it S.1 i f) = -1 then mr_in S.1 x d (su F (it S.1 i f) x) (S.1 (it S.1 i f)) else F) k = -1 ↔ _
    by_cases him : i = m
    · have e0 : it S.1 i f = f := by rw [him]; exact hm.2.1
      have hne : ¬ F (it S.1 i f) = -1 := by
        rw [e0]
        exact h2 0 (by have := hm.1; omega)
      rw [if_neg hne]
      exact ⟨fun e => ⟨e, fun j hj1 hj2 => absurd hj2 (by omega)⟩, fun e => e.1⟩
    · have hil : i < m := by omega
      rw [if_pos (h1 i (Nat.le_refl _) hil)]
      have key := ih (i + 1) (su F (it S.1 i f) x) (by omega) (by omega) (fun _ => Or.inr trivial) (fun j hj1 hj2 => by
        show (if it S.1 j f = it S.1 i f then x else F (it S.1 j f)) = -1
        rw [if_neg (fun e => ring_dist h hf hm (i := i) (j := j) (by omega) hj2 e.symm)]
        exact h1 j (by omega) hj2) (fun j hj => by
        show (if it S.1 j f = it S.1 i f then x else F (it S.1 j f)) ≠ -1
        by_cases e : it S.1 j f = it S.1 i f
        · rw [if_pos e]
          exact hx
        · rw [if_neg e]
          refine h2 j ?_
          rcases Nat.lt_or_ge j i with q | q
          · exact q
          · exact absurd (by rw [show j = i by omega]) e) k
      refine key.trans ?_
      show (if k = it S.1 i f then x else F k) = -1 ∧ _ ↔ _
      constructor
      · rintro ⟨q1, q2⟩
        have hk : k ≠ it S.1 i f := fun e => by
          rw [if_pos e] at q1
          exact hx q1
        rw [if_neg hk] at q1
        refine ⟨q1, fun j hj1 hj2 => ?_⟩
        by_cases e : j = i
        · rw [e]
          exact hk
        · exact q2 j (by omega) hj2
      · rintro ⟨q1, q2⟩
        rw [if_neg (q2 i (Nat.le_refl _) hil)]
        exact ⟨q1, fun j hj1 hj2 => q2 j (by omega) hj2⟩
theorem rings_cnt {c : Nat} {S : ow_NP} (h : vn c S) (hc : c ≤ 12) : (np_rings c S.1).2 = np_rg c S := by
  have key : ∀ n, n ≤ 2 * c → (mr_out S.1 (2 * c) (fun _ => -1) n).2 = cntB (fun k => lst S.1 k 24) n ∧ (mr_out S.1 (2 * c) (fun _ => -1) n).2 ≤ n ∧ ∀ k, k < 2 * c → ((mr_out S.1 (2 * c) (fun _ => -1) n).1 k = -1 ↔ ∀ i, n ≤ it S.1 i k) := by
    intro n
    induction n with
    | zero => exact fun _ => ⟨rfl, Nat.le_refl _, fun k _ => ⟨fun _ i => Nat.zero_le _, fun _ => rfl⟩⟩
    | succ n ih =>
      intro hn
      obtain ⟨i1, i2, i3⟩ := ih (by omega)
      have hn2 : n < 2 * c := by omega
      obtain ⟨m, hm1, hm2⟩ := ring_ex h hn2
      have hls : lst S.1 n 24 = true ↔ ∀ i, n ≤ it S.1 i n := by
        rw [lst_t]
        refine ⟨fun q i => ?_, fun q i _ => q i⟩
        obtain ⟨j, j1, j2⟩ := it_mod hm2 i
        rw [j2]
        exact q j (by omega)
      rw [mr_out]
      generalize mr_out S.1 (2 * c) (fun _ => -1) n = t at i1 i2 i3
      have hcn : cntB (fun k => lst S.1 k 24) (n + 1) = cntB (fun k => lst S.1 k 24) n + (if lst S.1 n 24 = true then 1 else 0) := rfl
      by_cases e : t.1 n = -1
      · have hl := hls.mpr ((i3 n hn2).mp e)
        rw [if_pos e]
        refine ⟨?_, ?_, fun k hk => ?_⟩
        · rw [hcn, if_pos hl, ← i1]
        · show t.2 + 1 ≤ n + 1
          omega
        · have hx : nI t.2 ≠ -1 := nI_nm1 (by omega)
          have hm3 := mr_in_mk h hn2 hm2 hx (2 * c) 0 t.1 (Nat.zero_le _) (by omega) (fun _ => Or.inr trivial) (fun j _ hj => by
            rw [i3 _ (it_lt h hn2 j)]
            intro i
            rw [← it_add]
            exact (i3 n hn2).mp e (i + j)) (fun j hj => absurd hj (Nat.not_lt_zero _)) k
          show mr_in S.1 (nI t.2) (2 * c) t.1 n k = -1 ↔ _
          refine hm3.trans ?_
          rw [i3 k hk]
          constructor
          · rintro ⟨q1, q2⟩ i
            have := q1 i
            rcases Nat.lt_or_ge n (it S.1 i k) with h9 | h9
            · exact h9
            · exfalso
              have e9 : it S.1 i k = n := by omega
              obtain ⟨m', hm1', hm2'⟩ := ring_ex h hk
              have hj : k = it S.1 (m' * i + m' - i) n := by
                rw [← e9, ← it_add, show m' * i + m' - i + i = (i + 1) * m' by
                  have h1 := hm2'.1
                  have : m' * i ≥ i := Nat.le_mul_of_pos_left i (by omega)
                  have e8 : (i + 1) * m' = m' * i + m' := by rw [Nat.succ_mul, Nat.mul_comm]
                  omega]
                exact (it_mul hm2'.2.1 (i + 1)).symm
              obtain ⟨j2, j3, j4⟩ := it_mod hm2 (m' * i + m' - i)
              exact q2 j2 (Nat.zero_le _) j3 (hj.trans j4)
          · intro q
            refine ⟨fun i => by have := q i; omega, fun j _ hj e9 => ?_⟩
            have := q (m - j)
            rw [e9, ← it_add, show m - j + j = m by omega, hm2.2.1] at this
            omega
      · have hl : ¬ lst S.1 n 24 = true := fun h9 => e ((i3 n hn2).mpr (hls.mp h9))
        rw [if_neg e]
        refine ⟨?_, by omega, fun k hk => ?_⟩
        · rw [hcn, if_neg hl]
          exact i1
        · rw [i3 k hk]
          constructor
          · intro q i
            have := q i
            rcases Nat.lt_or_ge n (it S.1 i k) with h9 | h9
            · exact h9
            · exfalso
              have e9 : it S.1 i k = n := by omega
              refine e ((i3 n hn2).mpr (fun j => ?_))
              rw [← e9, ← it_add]
              have := q (j + i)
              omega
          · intro q i
            have := q i
            omega
  exact (key (2 * c) (Nat.le_refl _)).1
end
section
/-! 99zzzzzs.cjoin -/
/-! the class: smooth, reverse, apart, join -/
theorem lst_all {c : Nat} {S : ow_NP} (h : vn c S) (hc : c ≤ 12) {k : Nat} (hk : k < 2 * c) : lst S.1 k 24 = true ↔ ∀ i, k ≤ it S.1 i k := by
  obtain ⟨m, hm1, hm2⟩ := ring_ex h hk
  rw [lst_t]
  refine ⟨fun q i => ?_, fun q i _ => q i⟩
  obtain ⟨j, j1, j2⟩ := it_mod hm2 i
  rw [j2]
  exact q j (by omega)
theorem turn_eq {t : Nat → Bool} {S : ow_NP} {G : Nat → Int32} : ∀ n k, (np_turn t S G n).1.1 k = (if k < n ∧ t k = true then S.2 k else S.1 k) ∧ (np_turn t S G n).1.2 k = (if k < n ∧ t k = true then S.1 k else S.2 k)
  | 0, k => by
    rw [if_neg (fun h => Nat.not_lt_zero _ h.1), if_neg (fun h => Nat.not_lt_zero _ h.1)]
    exact ⟨rfl, rfl⟩
  | n + 1, k => by
    have ih := turn_eq (t := t) (S := S) (G := G) n
    rw [np_turn]
    by_cases e : t n = true
    · rw [if_pos e]
      show nu (np_turn t S G n).1.1 n ((np_turn t S G n).1.2 n) k = _ ∧ nu (np_turn t S G n).1.2 n ((np_turn t S G n).1.1 n) k = _
      by_cases ek : k = n
      · rw [ek, nu_same, nu_same, (ih n).1, (ih n).2, if_neg (show ¬ (n < n ∧ t n = true) from fun h => Nat.lt_irrefl _ h.1), if_neg (show ¬ (n < n ∧ t n = true) from fun h => Nat.lt_irrefl _ h.1), if_pos ⟨Nat.lt_succ_self _, e⟩, if_pos ⟨Nat.lt_succ_self _, e⟩]
        exact ⟨rfl, rfl⟩
      · rw [nu_ne _ _ ek, nu_ne _ _ ek, (ih k).1, (ih k).2]
        have : (k < n ∧ t k = true) ↔ (k < n + 1 ∧ t k = true) := ⟨fun h => ⟨by omega, h.2⟩, fun h => ⟨by omega, h.2⟩⟩
        simp only [this]
        exact ⟨trivial, trivial⟩
    · rw [if_neg e, (ih k).1, (ih k).2]
      have : (k < n ∧ t k = true) ↔ (k < n + 1 ∧ t k = true) := by
        refine ⟨fun h => ⟨by omega, h.2⟩, fun h => ⟨?_, h.2⟩⟩
        rcases Nat.lt_or_ge k n with q | q
        · exact q
        · exact absurd (by rw [← show k = n by omega]; exact h.2) e
      simp only [this]
      exact ⟨trivial, trivial⟩
/-- components turned round: the net stays valid -/
theorem nv_turn {t : Nat → Bool} {T : ow_NT} {G : Nat → Int32} (hT : nv T) (ht : ∀ k, k < 2 * T.1 → t (T.2.2.1.1 k) = t k) : nv (T.1, T.2.1, (np_turn t T.2.2.1 T.2.2.2 (2 * T.1)).1, G) := by
  obtain ⟨h1, h2, h3, h4⟩ := hT
  have e1 : ∀ k, k < 2 * T.1 → (np_turn t T.2.2.1 T.2.2.2 (2 * T.1)).1.1 k = if t k = true then T.2.2.1.2 k else T.2.2.1.1 k := by
    intro k hk
    rw [(turn_eq (2 * T.1) k).1]
    by_cases e : t k = true
    · rw [if_pos ⟨hk, e⟩, if_pos e]
    · rw [if_neg (fun h => e h.2), if_neg e]
  have e2 : ∀ k, k < 2 * T.1 → (np_turn t T.2.2.1 T.2.2.2 (2 * T.1)).1.2 k = if t k = true then T.2.2.1.1 k else T.2.2.1.2 k := by
    intro k hk
    rw [(turn_eq (2 * T.1) k).2]
    by_cases e : t k = true
    · rw [if_pos ⟨hk, e⟩, if_pos e]
    · rw [if_neg (fun h => e h.2), if_neg e]
  have ht2 : ∀ k, k < 2 * T.1 → t (T.2.2.1.2 k) = t k := by
    intro k hk
    have := ht (T.2.2.1.2 k) (h1 k hk).2.1
    rw [(h1 k hk).2.2.2] at this
    exact this.symm
  have hv : vn T.1 (np_turn t T.2.2.1 T.2.2.2 (2 * T.1)).1 := by
    intro k hk
    obtain ⟨a1, a2, a3, a4⟩ := h1 k hk
    by_cases e : t k = true
    · rw [e1 k hk, e2 k hk, if_pos e, if_pos e]
      refine ⟨a2, a1, ?_, ?_⟩
      · rw [e2 _ a2, if_pos (by rw [ht2 k hk]; exact e)]
        exact a4
      · rw [e1 _ a1, if_pos (by rw [ht k hk]; exact e)]
        exact a3
    · rw [e1 k hk, e2 k hk, if_neg e, if_neg e]
      refine ⟨a1, a2, ?_, ?_⟩
      · rw [e2 _ a1, if_neg (by rw [ht k hk]; exact e)]
        exact a3
      · rw [e1 _ a2, if_neg (by rw [ht2 k hk]; exact e)]
        exact a4
  have hb : ow_b24 (np_turn t T.2.2.1 T.2.2.2 (2 * T.1)).1 := by
    refine ⟨fun k => ?_, fun k => ?_⟩
    · rw [(turn_eq (2 * T.1) k).1]
      split
      · exact h3.2 k
      · exact h3.1 k
    · rw [(turn_eq (2 * T.1) k).2]
      split
      · exact h3.1 k
      · exact h3.2 k
  refine ⟨hv, h2, hb, ?_⟩
  have htit : ∀ k, k < 2 * T.1 → ∀ i, t (it T.2.2.1.1 i k) = t k := by
    intro k hk i
    induction i with
    | zero => rfl
    | succ i ih =>
      show t (T.2.2.1.1 (it T.2.2.1.1 i k)) = _
      rw [ht _ (it_lt h1 hk i)]
      exact ih
  have hmono : np_rg T.1 (np_turn t T.2.2.1 T.2.2.2 (2 * T.1)).1 ≤ np_rg T.1 T.2.2.1 := by
    refine cntB_mono _ (fun k hk hl => ?_)
    have hl2 := (lst_all hv h2 hk).mp hl
    refine (lst_all h1 h2 hk).mpr (fun i => ?_)
    obtain ⟨m, hm1, hm2⟩ := ring_ex h1 hk
    obtain ⟨j, j1, j2⟩ := it_mod hm2 i
    rw [j2]
    by_cases e : t k = true
    · have back : ∀ q, q ≤ m → it (np_turn t T.2.2.1 T.2.2.2 (2 * T.1)).1.1 q k = it T.2.2.1.1 (m - q) k := by
        intro q
        induction q with
        | zero =>
          intro _
          rw [Nat.sub_zero, hm2.2.1]
          rfl
        | succ q ih =>
          intro hq
          show (np_turn t T.2.2.1 T.2.2.2 (2 * T.1)).1.1 (it (np_turn t T.2.2.1 T.2.2.2 (2 * T.1)).1.1 q k) = _
          have hlt := it_lt h1 hk (m - q)
          rw [ih (by omega), e1 _ hlt, if_pos (by rw [htit k hk]; exact e)]
          obtain ⟨n, hn⟩ : ∃ n, m - q = n + 1 := ⟨m - q - 1, by omega⟩
          rw [hn, show m - (q + 1) = n by omega]
          exact (h1 _ (it_lt h1 hk n)).2.2.1
      have := hl2 (m - j)
      rw [back _ (by omega), show m - (m - j) = j by omega] at this
      exact this
    · have fwd : ∀ q, it (np_turn t T.2.2.1 T.2.2.2 (2 * T.1)).1.1 q k = it T.2.2.1.1 q k := by
        intro q
        induction q with
        | zero => rfl
        | succ q ih =>
          show (np_turn t T.2.2.1 T.2.2.2 (2 * T.1)).1.1 (it (np_turn t T.2.2.1 T.2.2.2 (2 * T.1)).1.1 q k) = _
          rw [ih, e1 _ (it_lt h1 hk q), if_neg (by rw [htit k hk]; exact e)]
          rfl
      have := hl2 j
      rw [fwd] at this
      exact this
  show np_rg T.1 (np_turn t T.2.2.1 T.2.2.2 (2 * T.1)).1 + T.2.1 ≤ 6
  omega
/-- two nets one behind the other -/
def ntA (T R : ow_NT) : ow_NT := (T.1 + R.1, T.2.1 + R.2.1, (np_app T.2.2.1.1 R.2.2.1.1 (2 * T.1) (2 * R.1), np_app T.2.2.1.2 R.2.2.1.2 (2 * T.1) (2 * R.1)), va_cpy R.2.2.2 T.2.2.2 0 T.1 R.1)
theorem cntB_split {q : Nat → Bool} {a : Nat} : ∀ b, cntB q (a + b) = cntB q a + cntB (fun k => q (a + k)) b
  | 0 => rfl
  | b + 1 => by
    show cntB q (a + b) + (if q (a + b) = true then 1 else 0) = cntB q a + (cntB (fun k => q (a + k)) b + if q (a + b) = true then 1 else 0)
    rw [cntB_split b]
    omega
theorem ntA_ok {T R : ow_NT} (hT : nv T) (hR : nv R) (h12 : T.1 + R.1 ≤ 12) : vn (ntA T R).1 (ntA T R).2.2.1 ∧ ow_b24 (ntA T R).2.2.1 ∧ np_rg (ntA T R).1 (ntA T R).2.2.1 = np_rg T.1 T.2.2.1 + np_rg R.1 R.2.2.1 ∧ (∀ k i, k < 2 * T.1 → it (ntA T R).2.2.1.1 i k = it T.2.2.1.1 i k) ∧ ∀ k i, k < 2 * R.1 → it (ntA T R).2.2.1.1 i (2 * T.1 + k) = 2 * T.1 + it R.2.2.1.1 i k := by
  obtain ⟨t1, t2, t3, t4⟩ := hT
  obtain ⟨r1, r2, r3, r4⟩ := hR
  have lo : ∀ (N M : Nat → Nat) k, k < 2 * T.1 → np_app N M (2 * T.1) (2 * R.1) k = N k := fun N M k hk => if_neg (by omega)
  have hi : ∀ (N M : Nat → Nat) k, k < 2 * R.1 → np_app N M (2 * T.1) (2 * R.1) (2 * T.1 + k) = 2 * T.1 + M k := by
    intro N M k hk
    unfold np_app
    rw [if_pos (by omega), show 2 * T.1 + k - 2 * T.1 = k by omega]
  have hv : vn (T.1 + R.1) (ntA T R).2.2.1 := by
    intro k hk
    by_cases e : k < 2 * T.1
    · obtain ⟨a1, a2, a3, a4⟩ := t1 k e
      show np_app _ _ _ _ k < _ ∧ np_app _ _ _ _ k < _ ∧ np_app _ _ _ _ (np_app _ _ _ _ k) = k ∧ np_app _ _ _ _ (np_app _ _ _ _ k) = k
      rw [lo _ _ k e, lo _ _ k e, lo _ _ _ a1, lo _ _ _ a2]
      exact ⟨by omega, by omega, a3, a4⟩
    · obtain ⟨j, rfl⟩ : ∃ j, k = 2 * T.1 + j := ⟨k - 2 * T.1, by omega⟩
      have hj : j < 2 * R.1 := by omega
      obtain ⟨a1, a2, a3, a4⟩ := r1 j hj
      show np_app _ _ _ _ (2 * T.1 + j) < _ ∧ np_app _ _ _ _ (2 * T.1 + j) < _ ∧ np_app _ _ _ _ (np_app _ _ _ _ (2 * T.1 + j)) = _ ∧ np_app _ _ _ _ (np_app _ _ _ _ (2 * T.1 + j)) = _
      rw [hi _ _ j hj, hi _ _ j hj, hi _ _ _ a1, hi _ _ _ a2, a3, a4]
      exact ⟨by omega, by omega, rfl, rfl⟩
  have i1 : ∀ k i, k < 2 * T.1 → it (ntA T R).2.2.1.1 i k = it T.2.2.1.1 i k := by
    intro k i hk
    induction i with
    | zero => rfl
    | succ i ih =>
      show (ntA T R).2.2.1.1 (it (ntA T R).2.2.1.1 i k) = T.2.2.1.1 (it T.2.2.1.1 i k)
      rw [ih]
      exact lo _ _ _ (it_lt t1 hk i)
  have i2 : ∀ k i, k < 2 * R.1 → it (ntA T R).2.2.1.1 i (2 * T.1 + k) = 2 * T.1 + it R.2.2.1.1 i k := by
    intro k i hk
    induction i with
    | zero => rfl
    | succ i ih =>
      show (ntA T R).2.2.1.1 (it (ntA T R).2.2.1.1 i (2 * T.1 + k)) = 2 * T.1 + R.2.2.1.1 (it R.2.2.1.1 i k)
      rw [ih]
      exact hi _ _ _ (it_lt r1 hk i)
  refine ⟨hv, ⟨fun k => ?_, fun k => ?_⟩, ?_, i1, i2⟩
  · show (if 2 * T.1 ≤ k ∧ k < 2 * T.1 + 2 * R.1 then 2 * T.1 + R.2.2.1.1 (k - 2 * T.1) else T.2.2.1.1 k) < 24
    split
    · have := (r1 (k - 2 * T.1) (by omega)).1
      omega
    · exact t3.1 k
  · show (if 2 * T.1 ≤ k ∧ k < 2 * T.1 + 2 * R.1 then 2 * T.1 + R.2.2.1.2 (k - 2 * T.1) else T.2.2.1.2 k) < 24
    split
    · have := (r1 (k - 2 * T.1) (by omega)).2.1
      omega
    · exact t3.2 k
  · show np_rg (T.1 + R.1) (ntA T R).2.2.1 = _
    unfold np_rg
    rw [show 2 * (T.1 + R.1) = 2 * T.1 + 2 * R.1 by omega, cntB_split]
    congr 1
    · refine cntB_cg _ (fun k hk => ?_)
      have h1 := lst_all hv h12 (show k < 2 * (T.1 + R.1) by omega)
      have h2 := lst_all t1 t2 hk
      rw [Bool.eq_iff_iff, h1, h2]
      exact ⟨fun q i => by rw [← i1 k i hk]; exact q i, fun q i => by rw [i1 k i hk]; exact q i⟩
    · refine cntB_cg _ (fun k hk => ?_)
      have h1 := lst_all hv h12 (show 2 * T.1 + k < 2 * (T.1 + R.1) by omega)
      have h2 := lst_all r1 r2 hk
      rw [Bool.eq_iff_iff, h1, h2]
      exact ⟨fun q i => by have := q i; rw [i2 k i hk] at this; omega, fun q i => by have := q i; rw [i2 k i hk]; omega⟩
/-- an exchange between two rings makes one of them -/
theorem rg_merge {c v w : Nat} {S : ow_NP} (h : vn c S) (hc : c ≤ 12) (hv : v < 2 * c) (hw : w < 2 * c) (hne : ∀ i, it S.1 i v ≠ w) : np_rg c (np_exchange S v w) + 1 ≤ np_rg c S := by
  have hx := vn_exchange h hv hw
  obtain ⟨mv, hmv1, hmv2⟩ := ring_ex h hv
  obtain ⟨mw, hmw1, hmw2⟩ := ring_ex h hw
  have hne2 : ∀ i, it S.1 i w ≠ v := by
    intro i e
    obtain ⟨j, j1, j2⟩ := it_mod hmw2 i
    rw [e] at j2
    have : it S.1 (mw - j) v = w := by
      rw [j2, ← it_add, show mw - j + j = mw by omega]
      exact hmw2.2.1
    exact hne _ this
  -- along the rings
  have e1 : ∀ j, 1 ≤ j → j ≤ mw → it (np_exchange S v w).1 j v = it S.1 j w := by
    intro j
    induction j with
    | zero => intro h9; omega
    | succ j ih =>
      intro _ hj
      show (np_exchange S v w).1 (it (np_exchange S v w).1 j v) = S.1 (it S.1 j w)
      by_cases ej : j = 0
      · rw [ej]
        show (np_exchange S v w).1 v = S.1 w
        rw [np_exchange_1]
        have : v ≠ w := fun e9 => hne 0 e9
        rw [if_neg this, if_pos rfl]
      · rw [ih (by omega) (by omega), np_exchange_1, if_neg, if_neg (hne2 j)]
        exact hmw2.2.2 j (by omega) (by omega)
  have e2 : ∀ j, 1 ≤ j → j ≤ mv → it (np_exchange S v w).1 j w = it S.1 j v := by
    intro j
    induction j with
    | zero => intro h9; omega
    | succ j ih =>
      intro _ hj
      show (np_exchange S v w).1 (it (np_exchange S v w).1 j w) = S.1 (it S.1 j v)
      by_cases ej : j = 0
      · rw [ej]
        show (np_exchange S v w).1 w = S.1 v
        rw [np_exchange_1, if_pos rfl]
      · rw [ih (by omega) (by omega), np_exchange_1, if_neg (hne j), if_neg]
        exact hmv2.2.2 j (by omega) (by omega)
  have hvw : it (np_exchange S v w).1 mw v = w := by
    rw [e1 mw hmw2.1 (Nat.le_refl _)]
    exact hmw2.2.1
  have hwv : it (np_exchange S v w).1 mv w = v := by
    rw [e2 mv hmv2.1 (Nat.le_refl _)]
    exact hmv2.2.1
  -- what both rings hold is on the new ring, from any of its visits
  have allv : ∀ i, ∃ j, it (np_exchange S v w).1 j v = it S.1 i v := by
    intro i
    obtain ⟨j, j1, j2⟩ := it_mod hmv2 i
    rw [j2]
    by_cases ej : j = 0
    · rw [ej]
      exact ⟨0, rfl⟩
    · exact ⟨j + mw, by rw [it_add, hvw]; exact e2 j (by omega) (by omega)⟩
  have allw : ∀ i, ∃ j, it (np_exchange S v w).1 j v = it S.1 i w := by
    intro i
    obtain ⟨j, j1, j2⟩ := it_mod hmw2 i
    rw [j2]
    by_cases ej : j = 0
    · rw [ej]
      exact ⟨mw, hvw⟩
    · exact ⟨j, e1 j (by omega) (by omega)⟩
  obtain ⟨lv, lv1, ⟨a, a1, a2⟩, lv3⟩ := ring_least h hc hv hmv2 hmv1
  obtain ⟨lw, lw1, ⟨b, b1, b2⟩, lw3⟩ := ring_least h hc hw hmw2 hmw1
  have l1 : lst S.1 lv 24 = true := (lv3 lv ⟨a, a1, a2⟩).mpr rfl
  have l2 : lst S.1 lw 24 = true := (lw3 lw ⟨b, b1, b2⟩).mpr rfl
  have hlne : lv ≠ lw := by
    intro e
    have : it S.1 (mw - b + a) v = w := by
      rw [it_add, ← a2, e, b2, ← it_add, show mw - b + b = mw by omega]
      exact hmw2.2.1
    exact hne _ this
  -- a visit outside both rings goes as before
  have outs : ∀ k, k < 2 * c → (∀ i, it S.1 i k ≠ v) → (∀ i, it S.1 i k ≠ w) → ∀ i, it (np_exchange S v w).1 i k = it S.1 i k := by
    intro k hk h1 h2 i
    induction i with
    | zero => rfl
    | succ i ih =>
      show (np_exchange S v w).1 (it (np_exchange S v w).1 i k) = S.1 (it S.1 i k)
      rw [ih, np_exchange_1, if_neg (h2 i), if_neg (h1 i)]
  let M := if lv < lw then lw else lv
  have hM : lst S.1 M 24 = true ∧ M < 2 * c := by
    show lst S.1 (if lv < lw then lw else lv) 24 = true ∧ (if lv < lw then lw else lv) < 2 * c
    split
    · exact ⟨l2, lw1⟩
    · exact ⟨l1, lv1⟩
  have hrm := cntB_rm (q := fun k => lst S.1 k 24) hM.2 hM.1
  show cntB (fun k => lst (np_exchange S v w).1 k 24) (2 * c) + 1 ≤ cntB (fun k => lst S.1 k 24) (2 * c)
  rw [hrm]
  refine Nat.succ_le_succ (cntB_mono _ (fun k hk hl => ?_))
  have hl2 := (lst_all hx hc hk).mp hl
  rw [Bool.and_eq_true, decide_eq_true_iff]
  -- a visit of one of both rings
  have both : (∃ i, it (np_exchange S v w).1 i k = v) → lst S.1 k 24 = true ∧ k ≠ M := by
    rintro ⟨i, ei⟩
    have kv : ∀ j, k ≤ it S.1 j v := by
      intro j
      obtain ⟨q, hq⟩ := allv j
      have := hl2 (q + i)
      rw [it_add, ei, hq] at this
      exact this
    have kw : ∀ j, k ≤ it S.1 j w := by
      intro j
      obtain ⟨q, hq⟩ := allw j
      have := hl2 (q + i)
      rw [it_add, ei, hq] at this
      exact this
    have k1 : k ≤ lv := by rw [a2]; exact kv a
    have k2 : k ≤ lw := by rw [b2]; exact kw b
    -- k itself is on one of them
    have hon : (∃ j, k = it S.1 j v) ∨ ∃ j, k = it S.1 j w := by
      obtain ⟨mk, hk1, hk2⟩ := ring_ex hx hk
      obtain ⟨i2, i3, i4⟩ := it_mod hk2 i
      rw [ei] at i4
      have back : k = it (np_exchange S v w).1 (mk - i2) v := by
        have hh : it (np_exchange S v w).1 (mk - i2) (it (np_exchange S v w).1 i2 k) = k := by
          rw [← it_add, show mk - i2 + i2 = mk by omega]
          exact hk2.2.1
        rw [← i4] at hh
        exact hh.symm
      have cov : ∀ n, (∃ j, it (np_exchange S v w).1 n v = it S.1 j v) ∨ ∃ j, it (np_exchange S v w).1 n v = it S.1 j w := by
        intro n
        induction n with
        | zero => exact Or.inl ⟨0, rfl⟩
        | succ n ihn =>
          show (∃ j, (np_exchange S v w).1 (it (np_exchange S v w).1 n v) = _) ∨ ∃ j, (np_exchange S v w).1 (it (np_exchange S v w).1 n v) = _
          rw [np_exchange_1]
          by_cases q1 : it (np_exchange S v w).1 n v = w
          · rw [if_pos q1]
            exact Or.inl ⟨1, rfl⟩
          · rw [if_neg q1]
            by_cases q2 : it (np_exchange S v w).1 n v = v
            · rw [if_pos q2]
              exact Or.inr ⟨1, rfl⟩
            · rw [if_neg q2]
              rcases ihn with ⟨j, ej⟩ | ⟨j, ej⟩
              · exact Or.inl ⟨j + 1, by rw [ej]; rfl⟩
              · exact Or.inr ⟨j + 1, by rw [ej]; rfl⟩
      rcases cov (mk - i2) with ⟨j, ej⟩ | ⟨j, ej⟩
      · exact Or.inl ⟨j, back.trans ej⟩
      · exact Or.inr ⟨j, back.trans ej⟩
    have hlk : lst S.1 k 24 = true := by
      refine (lst_all h hc hk).mpr (fun n => ?_)
      rcases hon with ⟨j, ej⟩ | ⟨j, ej⟩
      · have e9 : it S.1 n k = it S.1 (n + j) v := by rw [it_add, ← ej]
        rw [e9]
        exact kv (n + j)
      · have e9 : it S.1 n k = it S.1 (n + j) w := by rw [it_add, ← ej]
        rw [e9]
        exact kw (n + j)
    refine ⟨hlk, ?_⟩
    show k ≠ if lv < lw then lw else lv
    split <;> omega
  by_cases q1 : ∃ i, it (np_exchange S v w).1 i k = v
  · exact both q1
  · have q2 : ∀ i, it (np_exchange S v w).1 i k ≠ w := by
      intro i e
      exact q1 ⟨mv + i, by rw [it_add, e]; exact hwv⟩
    have same : ∀ i, it S.1 i k = it (np_exchange S v w).1 i k := by
      intro i
      induction i with
      | zero => rfl
      | succ i ih =>
        show S.1 (it S.1 i k) = (np_exchange S v w).1 (it (np_exchange S v w).1 i k)
        rw [ih, np_exchange_1, if_neg (q2 i), if_neg (fun e => q1 ⟨i, e⟩)]
    have hlk : lst S.1 k 24 = true := by
      refine (lst_all h hc hk).mpr (fun n => ?_)
      rw [same n]
      exact hl2 n
    refine ⟨hlk, ?_⟩
    show k ≠ if lv < lw then lw else lv
    intro e
    split at e
    · -- k is lw
      have : it S.1 (mw - b) k = w := by
        rw [e, b2, ← it_add, show mw - b + b = mw by omega]
        exact hmw2.2.1
      rw [same] at this
      exact q2 _ this
    · have : it S.1 (mv - a) k = v := by
        rw [e, a2, ← it_add, show mv - a + a = mv by omega]
        exact hmv2.2.1
      rw [same] at this
      exact q1 ⟨_, this⟩
section CJ2
variable {vl : Nat → Nat} {y : ow_MS} {x x' : Int32}
theorem e_X11_smooth {vl : Nat → Nat} {r0 : Nat} {x1 : Int32} {x2 : Int32} {z : ow_MS} {Q : (Nat × Int32 × ow_MS) → Prop} (H : Tt (fun K _ => cm_X11_smooth_0 vl K x1 x2 r0 z) Q) : Te (fun K => ce_X11_smooth vl K r0 x1 x2 z) Q := w_te0 H
theorem e_X11_reverse {vl : Nat → Nat} {r0 : Nat} {x1 : Int32} {x2 : Int32} {z : ow_MS} {Q : (Nat × Int32 × ow_MS) → Prop} (H : Tt (fun K k => c_X11_reverse vl K k 0 x1 x2 r0 z) Q) : Te (fun K => ce_X11_reverse vl K r0 x1 x2 z) Q := w_te H
theorem u_X11_reverse_0 {vl : Nat → Nat} {x1 : Int32} {x2 : Int32} {r0 : Nat} {z : ow_MS} {Q : (Nat × Int32 × ow_MS) → Prop} (H : Tt (fun K k => cm_X11_reverse_0 vl K (c_X11_reverse vl K k) x1 x2 r0 z) Q) : Tt (fun K k => c_X11_reverse vl K k 0 x1 x2 r0 z) Q := w_un (fun _ _ => rfl) H
theorem u_X11_reverse_1 {vl : Nat → Nat} {x1 : Int32} {x2 : Int32} {r0 : Nat} {z : ow_MS} {Q : (Nat × Int32 × ow_MS) → Prop} (H : Tt (fun K k => cm_X11_reverse_1 vl K (c_X11_reverse vl K k) x1 x2 r0 z) Q) : Tt (fun K k => c_X11_reverse vl K k 1 x1 x2 r0 z) Q := w_un (fun _ _ => rfl) H
/-- both nets loaded -/
def lb2 (y y2 : ow_MS) (A B : rn_L) (j : Nat) : Prop := gN y2 ∧ fr uP y y2 ∧ ∃ T R sg sg', shA y2 4000 A sg T ∧ shA y2 5000 B sg' R ∧ T.1 + R.1 ≤ 12 ∧ A.length + B.length ≤ 6 + j
theorem e_X11_loadBoth {vl : Nat → Nat} {r0 : Nat} {x1 : Int32} {x2 : Int32} {x3 : Int32} {z : ow_MS} {Q : (Nat × ow_MS) → Prop} (H : Tt (fun K _ => cm_X11_loadBoth_0 vl K x1 x2 x3 r0 z) Q) : Te (fun K => ce_X11_loadBoth vl K r0 x1 x2 x3 z) Q := w_te0 H
theorem e_X11_apart {vl : Nat → Nat} {r0 : Nat} {x1 : Int32} {x2 : Int32} {z : ow_MS} {Q : (Nat × Int32 × ow_MS) → Prop} (H : Tt (fun K _ => cm_X11_apart_0 vl K x1 x2 r0 z) Q) : Te (fun K => ce_X11_apart vl K r0 x1 x2 z) Q := w_te0 H
theorem e_X11_join {vl : Nat → Nat} {r0 : Nat} {x1 : Int32} {x2 : Int32} {x3 : Int32} {x4 : Int32} {z : ow_MS} {Q : (Nat × Int32 × ow_MS) → Prop} (H : Tt (fun K _ => cm_X11_join_0 vl K x1 x2 x3 x4 r0 z) Q) : Te (fun K => ce_X11_join vl K r0 x1 x2 x3 x4 z) Q := w_te0 H
end CJ2
end
