/-! the class's code of a net and the reference's row of it -/
theorem tk_ln {sg : Nat → Bool} : ∀ B : rn_L, (tk sg B).length = B.flatten.length + B.length
  | [] => rfl
  | L :: B => by
    rw [tk_cons, List.length_append, List.length_cons, List.length_map, tk_ln B, List.flatten_cons, List.length_append, List.length_cons]
    omega
theorem cntV_f {F : Nat → Int32} {p : Int32} : ∀ n, cntV F p n = ((List.range n).filter (fun k => decide (F k = p))).length
  | 0 => rfl
  | n + 1 => by
    rw [List.range_succ, List.filter_append, List.length_append, ← cntV_f n]
    show (if F n = p then cntV F p n + 1 else cntV F p n) = _
    by_cases e : F n = p
    · rw [if_pos e, List.filter_cons_of_pos (p := fun k => decide (F k = p)) (a := n) (decide_eq_true e)]
      rfl
    · rw [if_neg e, List.filter_cons_of_neg (by rw [decide_eq_false e]; decide)]
      rfl
section CQ2
variable {A : rn_L} {sg : Nat → Bool} {f : Nat → Nat} {T : ow_NT} {m : Nat → Nat} {P : Nat}
theorem mark_it {c : Nat} {S : ow_NP} (hv : vn c S) (hc : c ≤ 12) {k : Nat} (hk : k < 2 * c) : ∀ i, (np_parts c S.1).1 (it S.1 i k) = (np_parts c S.1).1 k
  | 0 => rfl
  | i + 1 => by
    show (np_parts c S.1).1 (S.1 (it S.1 i k)) = _
    rw [((parts_I hv hc).1 _ (it_lt hv hk i)).1]
    exact mark_it hv hc hk i
theorem part_iff (hi : isoN A sg f T) (hv : vn T.1 T.2.2.1) (hk : mk A m P) {v w : Nat} (h1 : v < A.flatten.length) (h2 : w < A.flatten.length) : (np_parts T.1 T.2.2.1.1).1 (lbv A f v) = (np_parts T.1 T.2.2.1.1).1 (lbv A f w) ↔ m (rn_c A v) = m (rn_c A w) := by
  have hc := hi.2.2.1
  have hd := wkF_ok hi.1
  constructor
  · intro e
    have hr := (parts_iff hv hc (lbv_lt hi h1) (lbv_lt hi h2)).mp e
    obtain ⟨u, u1, u2, u3⟩ := hr (fun k => ∃ u, u < A.flatten.length ∧ lbv A f u = k ∧ m (rn_c A u) = m (rn_c A v)) ⟨v, h1, rfl, rfl⟩ (fun j hj ⟨u, u1, u2, u3⟩ => by
      refine ⟨rn_nx A u, rnx_lt u1, ?_, ?_⟩
      · rw [← u2]
        exact (hi.2.2.2.2.2.1 u u1).symm
      · rw [c_nx u1]
        exact u3) (fun j hj ⟨u, u1, u2, u3⟩ => by
      obtain ⟨q1, q2, q3, q4⟩ := lbv_mt hi u1
      refine ⟨mtf A u, q1, by rw [q3, u2], ?_⟩
      rw [← u3]
      exact (hk.2.1 _ _ ⟨u, mtf A u, mtf_mt hd u1, rfl, rfl⟩).symm)
    rw [← u3, lbv_inj hi u1 h2 u2]
  · intro e
    have hcon := hk.2.2.1 _ _ (rn_c_in A v h1).1 (rn_c_in A w h2).1 e
    have same : ∀ a b, a < A.flatten.length → b < A.flatten.length → rn_c A b = rn_c A a → (np_parts T.1 T.2.2.1.1).1 (lbv A f b) = (np_parts T.1 T.2.2.1.1).1 (lbv A f a) := by
      intro a b ha hb he
      obtain ⟨i, _, h9⟩ := iso_same hi ha hb he
      rw [← h9]
      exact mark_it hv hc (lbv_lt hi ha) i
    have hS := hcon (fun c => ∀ u, u < A.flatten.length → rn_c A u = c → (np_parts T.1 T.2.2.1.1).1 (lbv A f u) = (np_parts T.1 T.2.2.1.1).1 (lbv A f v)) (fun u hu he => same v u h1 hu he) (fun x z hx hadj u hu he => by
      obtain ⟨a, b, ab, ea, eb⟩ := hadj
      have hlt := rn_mt_lt ab
      have hb : mtf A a = b := mtf_eq hd ab
      obtain ⟨q1, q2, q3, q4⟩ := lbv_mt hi hlt.1
      rw [hb] at q3
      rw [same b u hlt.2 hu (he.trans eb.symm), q3, ((parts_I hv hc).1 _ (lbv_lt hi hlt.1)).2]
      exact hx a hlt.1 ea)
    exact (hS w h2 rfl).symm
theorem pvl_m {p v n : Nat} : v ∈ pvl A m p n ↔ v < n ∧ m (rn_c A v) = p := by
  unfold pvl
  rw [List.mem_filter, List.mem_range, decide_eq_true_iff]
theorem pvl_cnt (hi : isoN A sg f T) (hv : vn T.1 T.2.2.1) (hk : mk A m P) {v r : Nat} (h1 : v < A.flatten.length) (er : (np_parts T.1 T.2.2.1.1).1 (lbv A f v) = nI r) : cntV (np_parts T.1 T.2.2.1.1).1 (nI r) (2 * T.1) = (pvl A m (m (rn_c A v)) A.flatten.length).length := by
  rw [cntV_f, ← List.length_map (f := lbv A f) (as := pvl A m (m (rn_c A v)) A.flatten.length)]
  refine nodup_eq (nodup_filter List.nodup_range) (nodup_map (nodup_filter List.nodup_range) (fun a b ha hb e => lbv_inj hi (pvl_m.mp ha).1 (pvl_m.mp hb).1 e)) (fun k => ?_)
  rw [List.mem_filter, List.mem_range, decide_eq_true_iff, List.mem_map]
  constructor
  · rintro ⟨hk1, hk2⟩
    obtain ⟨w, hw, ew⟩ := lbv_sur hi hk1
    refine ⟨w, pvl_m.mpr ⟨hw, ?_⟩, ew⟩
    refine ((part_iff hi hv hk hw h1).mp ?_)
    rw [ew, hk2, er]
  · rintro ⟨w, hw, ew⟩
    have hw2 := pvl_m.mp hw
    rw [← ew]
    refine ⟨lbv_lt hi hw2.1, ?_⟩
    rw [(part_iff hi hv hk hw2.1 h1).mpr hw2.2]
    exact er
/-- a part's code is what the reference finds of the part -/
theorem part_key {r : Nat} {C : cdT} (hi : isoN A sg f T) (hA : A.length ≤ 23) (hv : vn T.1 T.2.2.1) (hk : mk A m P) {v : Nat} (h1 : v < A.flatten.length) (er : (np_parts T.1 T.2.2.1.1).1 (lbv A f v) = nI r) (hC : epC T (np_parts T.1 T.2.2.1.1).1 (nI r) C) : lsC A sg (pvl A m (m (rn_c A v)) A.flatten.length) = some C.2 ∧ 2 * C.1 = (pvl A m (m (rn_c A v)) A.flatten.length).length ∧ ∃ B sgB, gp B C.1 ∧ C.2 = tk sgB B := by
  have hc := hi.2.2.1
  have hd := wkF_ok hi.1
  obtain ⟨k, k1, k2, k3, k4⟩ := epC_le (n0 := ptL T.1 T.2.2.1 r) (fun v hv1 ev => tf_len_pt T.2.2.2 hv hc hv1 ev) ⟨_, lbv_lt hi h1, er⟩ hC
  obtain ⟨s, s1, s2⟩ := lbv_sur hi k1
  have es : (np_parts T.1 T.2.2.1.1).1 (lbv A f s) = (np_parts T.1 T.2.2.1.1).1 (lbv A f v) := by rw [s2, k2, er]
  have ems := (part_iff hi hv hk s1 h1).mp es
  have e2 : C.2 = cdv A sg s := by
    rw [k3, ← s2]
    exact iso_code hi hA s1
  have hsin : s ∈ pvl A m (m (rn_c A v)) A.flatten.length := pvl_m.mpr ⟨s1, ems⟩
  have hcnt := pvl_cnt hi hv hk h1 er
  obtain ⟨B, sgB, g1, g2, g3, g4⟩ := cdv_gp (sg := sg) hi.1 s1
  have htl := (trS_len hd hk s1).2
  rw [ems] at htl
  have hBl := okF_len g1.1
  have hC1 : C.1 = (fm A (vsO A (trS A s))).length := by
    rw [hC.1, hcnt, ← htl, ← g3, hBl]
    omega
  refine ⟨?_, ?_, B, sgB, by rw [hC1]; exact g1, by rw [e2, g2]⟩
  · obtain ⟨U, hU⟩ := lsC_ne (A := A) (sg := sg) (List.ne_nil_of_mem hsin)
    obtain ⟨w, w1, w2⟩ := lsC_mem _ hU
    have a1 := lsC_le _ U hU s hsin
    have hw := pvl_m.mp w1
    have a2 : lexD C.2 U ≤ 0 := by
      rw [w2, ← iso_code hi hA hw.1]
      refine k4 _ (lbv_lt hi hw.1) ?_
      rw [(part_iff hi hv hk hw.1 h1).mpr hw.2]
      exact er
    rw [← e2] at a1
    have a3 := lexD_sym U C.2
    have a4 := lexD_0 U C.2 (by omega)
    rw [hU, a4]
  · rw [hC1, ← htl, ← g3, hBl]
theorem rwL_eq : ∀ Q, rwL A sg m Q = ((List.range Q).filter (fun p => !(pvl A m p A.flatten.length).isEmpty)).map (fun p => ((pvl A m p A.flatten.length).length, (lsC A sg (pvl A m p A.flatten.length)).getD []))
  | 0 => rfl
  | Q + 1 => by
    rw [rwL_s, rwL_eq Q, List.range_succ, List.filter_append, List.map_append]
    unfold rwA
    cases hl : lsC A sg (pvl A m Q A.flatten.length) with
    | none =>
      have e := lsC_none hl
      rw [List.filter_cons_of_neg (by rw [e]; decide)]
      show _ = _ ++ []
      rw [List.append_nil]
    | some U =>
      have hne : pvl A m Q A.flatten.length ≠ [] := by
        intro e
        rw [e] at hl
        cases hl
      have hb : (!(pvl A m Q A.flatten.length).isEmpty) = true := by
        cases e : pvl A m Q A.flatten.length with
        | nil => exact absurd e hne
        | cons a L => rfl
      rw [List.filter_cons_of_pos (p := fun p => !(pvl A m p A.flatten.length).isEmpty) (a := Q) hb]
      show _ ++ [((pvl A m Q A.flatten.length).length, U)] = _ ++ [((pvl A m Q A.flatten.length).length, (lsC A sg (pvl A m Q A.flatten.length)).getD [])]
      rw [hl]
      rfl
theorem con_empty {c b : Nat} (hc : neB A c = false) (h : rn_con A c b) : b = c := by
  refine h (fun x => x = c) rfl (fun x y hx hadj => ?_)
  obtain ⟨v, w, h1, h2, h3⟩ := hadj
  have := neB_in (rn_mt_lt h1).1
  rw [h2, hx, hc] at this
  cases this
theorem cir_f : ∀ Q, cir A m Q = ((List.range Q).filter (fun p => (pvl A m p A.flatten.length).isEmpty)).length
  | 0 => rfl
  | Q + 1 => by
    rw [List.range_succ, List.filter_append, List.length_append, ← cir_f Q]
    show cir A m Q + (if pvl A m Q A.flatten.length = [] then 1 else 0) = _
    congr 1
    cases e : pvl A m Q A.flatten.length with
    | nil =>
      rw [if_pos rfl, List.filter_cons_of_pos (by rw [e]; rfl)]
      rfl
    | cons a L =>
      rw [if_neg (List.cons_ne_nil a L), List.filter_cons_of_neg (by rw [e]; exact fun h => (by cases h))]
      rfl
theorem cirs_f : cirs A = ((List.range A.length).filter (fun c => !neB A c)).length := by
  have h1 := ne_cnt A
  have key : ∀ n, cntB (neB A) n + ((List.range n).filter (fun c => !neB A c)).length = n := by
    intro n
    induction n with
    | zero => rfl
    | succ n ih =>
      rw [List.range_succ, List.filter_append, List.length_append]
      show cntB (neB A) n + (if neB A n = true then 1 else 0) + _ = n + 1
      cases e : neB A n with
      | true =>
        rw [if_pos rfl, List.filter_cons_of_neg (by rw [e]; decide)]
        show _ + 1 + (_ + 0) = _
        omega
      | false =>
        rw [if_neg (by decide), List.filter_cons_of_pos (by rw [e]; rfl)]
        show _ + 0 + (_ + 1) = _
        omega
  have h2 := key A.length
  omega
theorem cir_eq (hk : mk A m P) : cir A m P = cirs A := by
  rw [cir_f, cirs_f, ← List.length_map (f := m) (as := (List.range A.length).filter (fun c => !neB A c))]
  have hin : ∀ c, c ∈ (List.range A.length).filter (fun c => !neB A c) ↔ c < A.length ∧ neB A c = false := by
    intro c
    rw [List.mem_filter, List.mem_range, Bool.not_eq_true']
  refine nodup_eq (nodup_filter List.nodup_range) (nodup_map (nodup_filter List.nodup_range) (fun a b ha hb e => ?_)) (fun p => ?_)
  · have ha := (hin a).mp ha
    have hb := (hin b).mp hb
    exact (con_empty ha.2 (hk.2.2.1 a b ha.1 hb.1 e)).symm
  · rw [List.mem_filter, List.mem_range, List.mem_map, List.isEmpty_iff]
    constructor
    · rintro ⟨h1, h2⟩
      obtain ⟨c, c1, c2⟩ := hk.2.2.2 p h1
      refine ⟨c, (hin c).mpr ⟨c1, ?_⟩, c2⟩
      cases e : neB A c with
      | false => rfl
      | true =>
        have h3 := rnb_s c1
        have hpos : 0 < (A[c]).length := by
          unfold neB at e
          rw [List.getElem?_eq_getElem c1] at e
          cases e9 : A[c] with
          | nil =>
            have e : (!(A[c]).isEmpty) = true := e
            rw [e9] at e
            cases e
          | cons a L => exact Nat.succ_pos _
        have hb := rn_b_le A (c + 1)
        have hm : rn_b A c ∈ pvl A m p A.flatten.length := pvl_m.mpr ⟨by omega, by rw [rn_c_of A c (rn_b A c) (Nat.le_refl _) (by omega)]; exact c2⟩
        rw [h2] at hm
        cases hm
    · rintro ⟨c, c1, c2⟩
      have hc := (hin c).mp c1
      refine ⟨by rw [← c2]; exact hk.1 c hc.1, ?_⟩
      cases e : pvl A m p A.flatten.length with
      | nil => rfl
      | cons v L =>
        have hv : v ∈ pvl A m p A.flatten.length := by rw [e]; exact List.mem_cons_self
        have hv := pvl_m.mp hv
        have h9 := con_empty hc.2 (hk.2.2.1 c _ hc.1 (rn_c_in A v hv.1).1 (by rw [hv.2]; exact c2))
        have h8 := neB_in hv.1
        rw [h9, hc.2] at h8
        cases h8
end CQ2
def dbl (C : cdT) : cdT := (2 * C.1, C.2)
theorem dbl_cmp {a b : cdT} (h : cmpC a b ≤ 0) : cmpC (dbl a) (dbl b) ≤ 0 := by
  unfold cmpC dbl at *
  by_cases e : a.1 = b.1
  · rw [if_pos e] at h
    rw [if_pos (by show 2 * a.1 = 2 * b.1; omega)]
    exact h
  · rw [if_neg e] at h
    rw [if_neg (by show ¬ 2 * a.1 = 2 * b.1; omega)]
    show ((2 * a.1 : Nat) : Int) - (2 * b.1 : Nat) ≤ 0
    omega
section CR2
variable {A : rn_L} {sg : Nat → Bool} {f : Nat → Nat} {T : ow_NT} {m : Nat → Nat} {P : Nat} {Cs : List cdT} {os : List Nat}
theorem keys_perm (hi : isoN A sg f T) (hA : A.length ≤ 23) (hT : nv T) (hk : mk A m P) (hZ : cpZ T (np_parts T.1 T.2.2.1.1).2 Cs os) : (Cs.map dbl).Perm (rwL A sg m P) := by
  obtain ⟨z1, z2, z3, z4⟩ := hZ
  have hv := hT.1
  have hc := hT.2.1
  obtain ⟨p1, p2, p3, p4⟩ := parts_I hv hc
  let F := (np_parts T.1 T.2.2.1.1).1
  let n := (np_parts T.1 T.2.2.1.1).2
  have hex : ∀ r, r < n → ∃ v, v < A.flatten.length ∧ F (lbv A f v) = nI r := by
    intro r hr
    obtain ⟨k, k1, k2⟩ := p3 r hr
    obtain ⟨v, v1, v2⟩ := lbv_sur hi k1
    exact ⟨v, v1, by rw [v2]; exact k2⟩
  let vr : Nat → Nat := fun r => if h : ∃ v, v < A.flatten.length ∧ F (lbv A f v) = nI r then Classical.choose h else 0
  have hvr : ∀ r, r < n → vr r < A.flatten.length ∧ F (lbv A f (vr r)) = nI r := by
    intro r hr
    have h := hex r hr
    have e : vr r = Classical.choose h := dif_pos h
    rw [e]
    exact Classical.choose_spec h
  let keyf : Nat → cdT := fun p => ((pvl A m p A.flatten.length).length, (lsC A sg (pvl A m p A.flatten.length)).getD [])
  have e1 : Cs.map dbl = ((List.range n).map (fun r => m (rn_c A (vr r)))).map keyf := by
    rw [List.map_map]
    apply List.ext_getElem?
    intro r
    rw [List.getElem?_map, List.getElem?_map]
    by_cases hr : r < n
    · have hr2 : r < Cs.length := by rw [z1]; exact hr
      rw [List.getElem?_range hr, List.getElem?_eq_getElem hr2]
      have hCr := z2 r _ (List.getElem?_eq_getElem hr2)
      obtain ⟨q1, q2, -⟩ := part_key hi hA hv hk (hvr r hr).1 (hvr r hr).2 hCr.1
      show some (dbl Cs[r]) = some (keyf (m (rn_c A (vr r))))
      congr 1
      refine Prod.ext q2 ?_
      show Cs[r].2 = (lsC A sg (pvl A m (m (rn_c A (vr r))) A.flatten.length)).getD []
      rw [q1]
      rfl
    · rw [List.getElem?_eq_none (by rw [z1]; exact Nat.le_of_not_lt hr), List.getElem?_eq_none (by rw [List.length_range]; exact Nat.le_of_not_lt hr)]
      rfl
  rw [e1, rwL_eq]
  refine List.Perm.map _ ?_
  have hn31 : n < 2 ^ 31 := by
    have : n ≤ 2 * T.1 := p4
    omega
  refine (List.perm_ext_iff_of_nodup (nodup_map List.nodup_range (fun a b ha hb e => ?_)) (nodup_filter List.nodup_range)).mpr (fun p => ?_)
  · have ha := List.mem_range.mp ha
    have hb := List.mem_range.mp hb
    have h1 := (part_iff hi hv hk (hvr a ha).1 (hvr b hb).1).mpr e
    have h2 : nI a = nI b := by
      rw [← (hvr a ha).2, ← (hvr b hb).2]
      exact h1
    exact nI_inj9 (by omega) (by omega) h2
  · rw [List.mem_map, List.mem_filter, List.mem_range, Bool.not_eq_true', List.isEmpty_eq_false_iff]
    constructor
    · rintro ⟨r, r1, r2⟩
      have hr := hvr r (List.mem_range.mp r1)
      refine ⟨by rw [← r2]; exact hk.1 _ (rn_c_in A _ hr.1).1, ?_⟩
      exact List.ne_nil_of_mem (pvl_m.mpr ⟨hr.1, r2⟩)
    · rintro ⟨q1, q2⟩
      obtain ⟨v, hv9⟩ := List.exists_mem_of_ne_nil _ q2
      have hv1 := pvl_m.mp hv9
      obtain ⟨r, r1, r2⟩ := p2 _ (lbv_lt hi hv1.1)
      refine ⟨r, List.mem_range.mpr r1, ?_⟩
      rw [← hv1.2]
      refine (part_iff hi hv hk (hvr r r1).1 hv1.1).mp ?_
      exact (hvr r r1).2.trans r2.symm
theorem prt_list {Ks : List cdT} (h : ∀ C, C ∈ Ks → ∃ B sgB, gp B C.1 ∧ C.2 = tk sgB B) : ∃ Ps : List prt, Ks = Ps.map (fun P => (P.2.2, tk P.2.1 P.1)) ∧ ∀ P, P ∈ Ps → gp P.1 P.2.2 := by
  induction Ks with
  | nil => exact ⟨[], rfl, fun P hP => by cases hP⟩
  | cons C Ks ih =>
    obtain ⟨Ps, h1, h2⟩ := ih (fun D hD => h D (List.mem_cons_of_mem _ hD))
    obtain ⟨B, sgB, h3, h4⟩ := h C List.mem_cons_self
    refine ⟨(B, sgB, C.1) :: Ps, ?_, fun P hP => ?_⟩
    · rw [List.map_cons, ← h1]
      show C :: Ks = (C.1, tk sgB B) :: Ks
      rw [← h4]
    · rcases List.mem_cons.mp hP with e | e
      · rw [e]
        exact h3
      · exact h2 P e
theorem prt_sums : ∀ Ps : List prt, (∀ P, P ∈ Ps → gp P.1 P.2.2) → ((Ps.map (fun P => (2 * P.2.2, tk P.2.1 P.1))).map (fun r => r.1)).sum = 2 * totC Ps ∧ ((Ps.map (fun P => (2 * P.2.2, tk P.2.1 P.1))).map (fun r => r.2.length)).sum = 2 * totC Ps + totL Ps
  | [], _ => ⟨rfl, rfl⟩
  | P :: Ps, h => by
    obtain ⟨i1, i2⟩ := prt_sums Ps (fun Q hQ => h Q (List.mem_cons_of_mem _ hQ))
    have hl := okF_len (h P List.mem_cons_self).1
    rw [List.map_cons, List.map_cons, List.map_cons, List.sum_cons, List.sum_cons, i1, i2]
    show 2 * P.2.2 + 2 * totC Ps = 2 * (P.2.2 + totC Ps) ∧ (tk P.2.1 P.1).length + (2 * totC Ps + totL Ps) = 2 * (P.2.2 + totC Ps) + (P.1.length + totL Ps)
    rw [tk_ln]
    omega
/-- THE CODES: what the class writes of a net and what the reference writes of its components are rows of one list -/
theorem enc_pk (hi : isoN A sg f T) (hA : A.length ≤ 6) (hT : nv T) (hk : mk A m P) (hZ : cpZ T (np_parts T.1 T.2.2.1.1).2 Cs os) : ∃ A' sg', pkR A sg m P = tk sg' A' ∧ okL A' T.1 ∧ enC T Cs os = clC sg' A' ∧ A'.length = A.length := by
  have hperm := keys_perm hi (by omega) hT hk hZ
  obtain ⟨z1, z2, z3, z4⟩ := id hZ
  have hv := hT.1
  have hc := hT.2.1
  have hd := wkF_ok hi.1
  have ecs : (List.range Cs.length).map (fun s => Cs.getD s (0, [])) = Cs := by
    apply List.ext_getElem?
    intro i
    rw [List.getElem?_map]
    by_cases h : i < Cs.length
    · rw [List.getElem?_range h, List.getElem?_eq_getElem h]
      show some (Cs.getD i (0, [])) = _
      rw [List.getD_eq_getElem?_getD, List.getElem?_eq_getElem h]
      rfl
    · rw [List.getElem?_eq_none (by rw [List.length_range]; omega), List.getElem?_eq_none (by omega)]
      rfl
  have hos : (os.map (fun s => Cs.getD s (0, []))).Perm Cs := by
    have h1 := z3.map (fun s => Cs.getD s (0, []))
    rw [← z1, ecs] at h1
    exact h1
  have hKs : ∀ C, C ∈ os.map (fun s => Cs.getD s (0, [])) → ∃ B sgB, gp B C.1 ∧ C.2 = tk sgB B := by
    intro C hC
    have hC2 := hos.mem_iff.mp hC
    obtain ⟨r, hr⟩ := List.getElem?_of_mem hC2
    have hr2 := (List.getElem?_eq_some_iff.mp hr).1
    obtain ⟨p1, p2, p3, p4⟩ := parts_I hv hc
    obtain ⟨k, k1, k2⟩ := p3 r (by rw [← z1]; exact hr2)
    obtain ⟨v, v1, v2⟩ := lbv_sur hi k1
    obtain ⟨-, -, q3⟩ := part_key hi (by omega) hv hk v1 (by rw [v2]; exact k2) (z2 r C hr).1
    exact q3
  obtain ⟨Ps, hP1, hP2⟩ := prt_list hKs
  have hdP : (os.map (fun s => Cs.getD s (0, []))).map dbl = Ps.map (fun P => (2 * P.2.2, tk P.2.1 P.1)) := by
    rw [hP1, List.map_map]
    rfl
  have hsel := sel_perm (R := rwL A sg m P)
  have heq : (sel (rwL A sg m P) (rwL A sg m P).length (fun _ => false)).map (rAt (rwL A sg m P)) = Ps.map (fun P => (2 * P.2.2, tk P.2.1 P.1)) := by
    rw [← hdP]
    refine pw_eq hsel.2 ?_ (hsel.1.trans (((hos.map dbl).trans hperm).symm))
    rw [List.pairwise_map]
    exact (srt_pw z4).imp dbl_cmp
  have hpk := pkT_cat _ Ps 0 heq hP2
  obtain ⟨s1, s2⟩ := prt_sums Ps hP2
  obtain ⟨r1, r2⟩ := rwL_tot (sg := sg) hd hk
  have hpr : (Ps.map (fun P => (2 * P.2.2, tk P.2.1 P.1))).Perm (rwL A sg m P) := by
    rw [← heq]
    exact hsel.1
  have t1 := (hpr.map (fun r => r.1)).sum_nat
  have t2 := (hpr.map (fun r => r.2.length)).sum_nat
  rw [s1, r2] at t1
  rw [s2] at t2
  have hcir := cir_eq hk
  have hlen := hi.2.1
  have hcs : cirs A = T.2.1 := hi.2.2.2.2.2.2.2
  have htc : totC Ps = T.1 := by omega
  have htl : totL Ps + T.2.1 = A.length := by omega
  obtain ⟨c1, c2, c3, c4⟩ := catA_ok (q := T.2.1) hP2 (by omega) (by omega)
  refine ⟨catA Ps T.2.1, catG 0 Ps, ?_, by rw [← htc]; exact c1, ?_, by rw [c4]; exact htl⟩
  · unfold pkR
    rw [hpk, c3, hcir, hcs]
  · rw [c2, htc]
    unfold enC
    congr 2
    have : cdR Cs os = rowP Ps := by
      have h1 := congrArg (List.map (fun C : cdT => C.2)) hP1
      rw [List.map_map, List.map_map] at h1
      exact h1
    rw [this]
end CR2
