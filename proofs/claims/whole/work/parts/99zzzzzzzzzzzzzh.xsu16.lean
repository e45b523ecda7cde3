/-! the rows at the end of parting, and the codes that the class finds -/
section XTC
variable {A : rn_L} {sg : Nat → Bool} {f : Nat → Nat} {T : ow_NT} {d : ptT} {D : List ptT} {S S' : ow_NP} {Cs : List cdT} {os : List Nat} {c : Nat}
theorem stG_em (h : emN A sg f T) (hT : pm1 T) {p : vT} (hp : p ∈ A.flatten) : stG T.2.2.2 (gl f p) = (decide (p.2 = 0) == !sg p.1) := by
  obtain ⟨t1, t2, t3, t4⟩ := em_to h
  have h2 := (h.1.2 p hp).2.1
  obtain ⟨e1, e2⟩ := gl_hf (f := f) h2
  have hx := t1 p hp
  have hs := t4 p hp
  unfold stG
  rw [e1, e2]
  congr 1
  rcases hT _ hx with e | e
  · rw [e] at hs ⊢
    cases hq : sg p.1 with
    | true => exact absurd (hs.mpr hq) (by decide)
    | false => rfl
  · rw [e] at hs ⊢
    cases hq : sg p.1 with
    | true => rfl
    | false =>
      have := hs.mp (by decide)
      rw [hq] at this
      cases this
/-- what a part of a plane net shows is plane -/
theorem em_pl (h : emN A sg f T) (hv : vn T.1 T.2.2.1) (hT : pm1 T) (hp : nt_plane T = true) : plnA A sg := by
  intro f' T' h' hT'
  obtain ⟨t1, t2, t3, t4⟩ := em_to h
  have hv' := isoV_vn h'
  have ex : ∀ v, ∃ u, ∀ p, p ∈ A.flatten → gl f' p = v → u = gl f p := fun v => by
    by_cases h9 : ∃ p, p ∈ A.flatten ∧ gl f' p = v
    · obtain ⟨p, p1, p2⟩ := h9
      exact ⟨gl f p, fun q q1 q2 => by rw [gl_gin h'.1 p q p1 q1 (p2.trans q2.symm)]⟩
    · exact ⟨0, fun p p1 p2 => absurd ⟨p, p1, p2⟩ h9⟩
  obtain ⟨ψ, hψ⟩ := Classical.skolem.mp ex
  have at9 : ∀ p, p ∈ A.flatten → ψ (gl f' p) = gl f p := fun p hp => hψ _ p hp rfl
  rw [plane_iff hv' h'.1.2.2.1]
  refine sub_pl hv stG_fl hv' (ψ := ψ) (fun v hv9 => ?_) (fun u v hu hv9 e => ?_) ((plane_iff hv h.2.2.1).mp hp)
  · obtain ⟨p, p1, rfl⟩ := gl_sur h' hv9
    have hp2 := h.1.2 p p1
    obtain ⟨L, l1, l2⟩ := List.mem_flatten.mp p1
    have nL := L_nd h.1.1 l1
    rw [at9 p p1]
    refine ⟨?_, ?_, ?_, ?_⟩
    · have := t1 p p1
      have := hp2.2.1
      unfold gl
      omega
    · rw [t3 L l1 p l2, (h'.2 L l1 p l2).1]
      exact (at9 _ (List.mem_flatten.mpr ⟨L, l1, sc_in l2 nL⟩)).symm
    · rw [gl_mate hp2.2.1, gl_mate hp2.2.1]
      exact (at9 _ hp2.2.2).symm
    · rw [stG_em h hT p1, stG_gl h' hT' p1]
  · obtain ⟨p, p1, rfl⟩ := gl_sur h' hu
    obtain ⟨q, q1, rfl⟩ := gl_sur h' hv9
    rw [at9 p p1, at9 q q1] at e
    rw [gl_inj h p1 q1 e]
theorem rch_pt {a b : Nat} (h : rch c S a b) : ptN c S.1 a b := fun m hm => (h (fun u => m u = m a) rfl (fun j hj e => (hm j hj).1.trans e) (fun j hj e => (hm j hj).2.trans e)).symm
/-- parting keeps plane -/
theorem all_pl (hc : T.1 ≤ 12) : ∀ (k : Nat) (S : ow_NP), vn T.1 S → nt_plane (ntS T S) = true → nt_plane (ntS T (np_all T.1 k S)) = true
  | 0, S, _, hp => hp
  | k + 1, S, hv, hp => by
    rw [np_all]
    cases e : np_once T.1 S with
    | none =>
      rw [if_neg (by rw [Option.isSome_none]; decide)]
      exact hp
    | some q =>
      rw [if_pos Option.isSome_some]
      have h1 := po_v_in (2 * T.1) 0 (by omega) e
      have h2 := po_v_lt _ _ e
      have h3 := po_v_P _ _ e
      have hpr := (po_iff hv hc h1.1 h1.2 (by omega)).mp h3
      have hv' := vn_exchange hv h1.1 h1.2
      refine all_pl hc k (np_exchange S q.1 q.2) hv' ?_
      have hpl : pn_pl T.1 S (stG T.2.2.2) := (plane_iff (T := ntS T S) hv hc).mp hp
      have hb := ex_bridge hv stG_fl hpl h1.1 h1.2 (fun h9 => hpr.2.2.2.2 (rch_pt h9))
      exact (plane_iff (T := ntS T (np_exchange S q.1 q.2)) hv' hc).mpr (pn_exch hv stG_fl hpl h1.1 h1.2 (by omega) (Or.inr (Or.inl hb.1)))
/-- the code of a list that is one part is its row -/
theorem gp_cl {B : rn_L} (h : gp B c) (hc : c ≤ 12) (h6 : B.length ≤ 6) : okL B c ∧ ∀ sgB, clC sgB B = (c, tk sgB B) := by
  have e0 : shN 0 B = B := by
    unfold shN
    have : ∀ L : List (Nat × Nat), L.map (fun p => (p.1 + 0, p.2)) = L := fun L => List.map_id L
    rw [show (fun L : List (Nat × Nat) => L.map (fun p => (p.1 + 0, p.2))) = fun L => L from funext this, List.map_id']
  have hl := okF_len h.1
  have key : ∀ sgB, ucd sgB 0 [] B = tk sgB B ∧ bsO 0 [] B := fun sgB => by
    obtain ⟨u1, u2⟩ := ucd_part (sg := sgB) (sgB := sgB) (R := []) clD_nil h (fun x _ => rfl) B.length 0 (by omega) (List.length_pos_iff.mpr h.2.2.2.1)
    rw [show B.take 0 = [] from rfl, show shN 0 [] = [] from rfl, List.append_nil, List.drop_zero, e0, List.append_nil] at u1 u2
    refine ⟨?_, u2 trivial⟩
    rw [u1]
    show tk sgB B ++ [] = _
    rw [List.append_nil]
  refine ⟨⟨h.1, h.2.1, (key (fun _ => true)).2, hc, h6⟩, fun sgB => ?_⟩
  unfold clC
  rw [(key sgB).1, hl, show 2 * c / 2 = c by omega]
/-- a row is read off itself -/
theorem row_tr (h : rowO T d) : ∃ s, s < d.1.flatten.length ∧ d.1.length = (trS d.1 s).length ∧ gp d.1 (d.1.flatten.length / 2) := by
  obtain ⟨h1, h2, h3, ⟨c, h4, h5⟩, h6⟩ := h
  have h3 : lsC d.1 d.2.1 (List.range d.1.flatten.length) = some (tk d.2.1 d.1) := h3
  obtain ⟨w, w1, w2⟩ := lsC_mem _ h3
  have hw := List.mem_range.mp w1
  obtain ⟨B, sgB, g1, g2, g3, g4⟩ := cdv_gp (sg := d.2.1) h1.1 hw
  obtain ⟨eB, -⟩ := tk_inj d.1 B (fun p hp => (h1.1.2 p hp).2.1) (fun p hp => ((g1.1.2 p).mp hp).2) (w2.trans g2)
  subst eB
  refine ⟨w, hw, g4, ?_⟩
  have := okF_len g1.1
  rw [show d.1.flatten.length / 2 = (fm d.1 (vsO d.1 (trS d.1 w))).length by omega]
  exact g1
theorem row_ne (h : rowO T d) : ∀ L, L ∈ d.1 → L ≠ [] := by
  obtain ⟨s, s1, s2, -⟩ := row_tr h
  obtain ⟨t1, -, -, -⟩ := trS_all (wkF_ok h.1.1) s1
  intro L hL e
  obtain ⟨k, hk, ek⟩ := List.getElem_of_mem hL
  have hm : k ∈ (trS d.1 s).map (rn_c d.1) := full_mem (n := d.1.length) t1.1 (by rw [List.length_map, s2]) (fun x hx => by
    obtain ⟨t, ht, rfl⟩ := List.mem_map.mp hx
    exact (rc_mem (t1.2 t ht)).1) hk
  obtain ⟨t, ht, et⟩ := List.mem_map.mp hm
  have := (rc_mem (t1.2 t ht)).2
  rw [et, List.getD_eq_getElem?_getD, List.getElem?_eq_getElem hk, ek, e] at this
  cases this
/-- the code that the class finds of the part that a row shows -/
theorem row_cd (h : rowO T d) (hv : vn T.1 T.2.2.1) {r : Nat} {C : cdT} (er : (np_parts T.1 T.2.2.1.1).1 (lbv d.1 d.2.2 0) = nI r) (hC : epC T (np_parts T.1 T.2.2.1.1).1 (nI r) C) : okL d.1 C.1 ∧ C = clC d.2.1 d.1 := by
  obtain ⟨s9, -, -, hgp⟩ := row_tr h
  obtain ⟨h1, h2, h3, ⟨c, h4, h5⟩, h6⟩ := h
  have h3 : lsC d.1 d.2.1 (List.range d.1.flatten.length) = some (tk d.2.1 d.1) := h3
  have hc := h1.2.2.1
  have hl : 0 < d.1.flatten.length := List.length_pos_iff.mpr h2.1
  obtain ⟨k, k1, k2, k3, k4⟩ := epC_le (n0 := ptL T.1 T.2.2.1 r) (fun v hv1 ev => tf_len_pt T.2.2.2 hv hc hv1 ev) ⟨_, em_lt h1 hl, er⟩ hC
  have pk : ptN T.1 T.2.2.1.1 (lbv d.1 d.2.2 0) k := (pt_iff9 hv hc (em_lt h1 hl) k1).mp (er.trans k2.symm)
  obtain ⟨s, s1, s2, -⟩ := em_lab h1 hv (q := fun _ => 0) (fun _ _ => rfl) (fun _ _ => rfl) hl pk
  have e2 : C.2 = cdv d.1 d.2.1 s := by
    rw [k3, ← s2]
    exact em_code h1 (by omega) s1
  have e3 : C.2 = tk d.2.1 d.1 := by
    obtain ⟨w, w1, w2⟩ := lsC_mem _ h3
    have a1 := lsC_le _ _ h3 s (List.mem_range.mpr s1)
    have hw := List.mem_range.mp w1
    have a2 : lexD C.2 (tk d.2.1 d.1) ≤ 0 := by
      rw [w2, ← em_code h1 (by omega) hw]
      refine k4 _ (em_lt h1 hw) ?_
      rw [← er]
      exact (pt_iff9 hv hc (em_lt h1 hw) (em_lt h1 hl)).mpr (h2.2 w 0 hw hl)
    rw [← e2] at a1
    have a3 := lexD_sym (tk d.2.1 d.1) C.2
    exact (lexD_0 _ _ (by omega)).symm
  have cnt : cntV (np_parts T.1 T.2.2.1.1).1 (nI r) (2 * T.1) = d.1.flatten.length := by
    have e9 : d.1.flatten.length = ((List.range d.1.flatten.length).map (lbv d.1 d.2.2)).length := by rw [List.length_map, List.length_range]
    rw [cntV_f, e9]
    refine nodup_eq (nodup_filter List.nodup_range) (nodup_map List.nodup_range (fun a b ha hb e => em_inj h1 (List.mem_range.mp ha) (List.mem_range.mp hb) e)) (fun k => ?_)
    rw [List.mem_filter, List.mem_range, decide_eq_true_iff, List.mem_map]
    constructor
    · rintro ⟨q1, q2⟩
      obtain ⟨v, v1, v2, -⟩ := em_lab h1 hv (q := fun _ => 0) (fun _ _ => rfl) (fun _ _ => rfl) hl ((pt_iff9 hv hc (em_lt h1 hl) q1).mp (er.trans q2.symm))
      exact ⟨v, List.mem_range.mpr v1, v2⟩
    · rintro ⟨v, v1, rfl⟩
      have v1 := List.mem_range.mp v1
      refine ⟨em_lt h1 v1, ?_⟩
      rw [← er]
      exact (pt_iff9 hv hc (em_lt h1 v1) (em_lt h1 hl)).mpr (h2.2 v 0 v1 hl)
  have hC1 : C.1 = d.1.flatten.length / 2 := by rw [hC.1, cnt]
  have hlen := okF_len h4
  rw [← hC1] at hgp
  obtain ⟨q1, q2⟩ := gp_cl hgp (by omega) h6
  refine ⟨q1, ?_⟩
  rw [q2, ← e3]
/-- a row is the list of its own code -/
theorem row_nrm (h : rowO T d) (hv : vn T.1 T.2.2.1) : nrm d.1 d.2.1 := by
  have hne := row_ne h
  obtain ⟨s9, -, -, hgp⟩ := row_tr h
  obtain ⟨h1, h2, h3, ⟨c, h4, h5⟩, h6⟩ := h
  have h3 : lsC d.1 d.2.1 (List.range d.1.flatten.length) = some (tk d.2.1 d.1) := h3
  have hlen := okF_len h4
  obtain ⟨f', R, i1, i2⟩ := net_of h1.1 (by omega) h6 d.2.1
  have iN : isoN d.1 d.2.1 f' (R.1, R.2.1, R.2.2.1, fun x => if R.2.2.2 x < 0 then -1 else 1) := by
    refine ⟨i1.1, i1.2.1, i1.2.2.1, i1.2.2.2.1, i1.2.2.2.2.1, i1.2.2.2.2.2.1, fun v hv9 => ?_, i1.2.2.2.2.2.2.2⟩
    rw [← i1.2.2.2.2.2.2.1 v hv9]
    show (if R.2.2.2 (f' (crs d.1 v)) < 0 then (-1 : Int32) else 1) < 0 ↔ _
    by_cases e : R.2.2.2 (f' (crs d.1 v)) < 0
    · rw [if_pos e]
      exact ⟨fun _ => e, fun _ => by decide⟩
    · rw [if_neg e]
      exact ⟨fun h9 => absurd h9 (by decide), fun h9 => absurd h9 e⟩
  have pm : pm1 (R.1, R.2.1, R.2.2.1, fun x => if R.2.2.2 x < 0 then -1 else 1) := fun x _ => by
    show (if R.2.2.2 x < 0 then (-1 : Int32) else 1) = 1 ∨ (if R.2.2.2 x < 0 then (-1 : Int32) else 1) = -1
    by_cases e : R.2.2.2 x < 0
    · rw [if_pos e]
      exact Or.inr rfl
    · rw [if_neg e]
      exact Or.inl rfl
  have n2 : nv (R.1, R.2.1, R.2.2.1, fun x => if R.2.2.2 x < 0 then -1 else 1) := i2
  obtain ⟨Ds, qs, hz⟩ := cp_ex n2
  obtain ⟨m, P, hk⟩ := mk_ex d.1
  obtain ⟨A', sg', p1, p2, p3, p4, f9, p5⟩ := enc_iso iN h6 n2 hk hz
  have e1 : tk d.2.1 d.1 = pkR d.1 d.2.1 m P := Option.some.inj (h3.symm.trans (pkR_one h1 hv h2 hne hk))
  have et : tk d.2.1 d.1 = tk sg' A' := e1.trans p1
  obtain ⟨eA, -⟩ := tk_inj d.1 A' (fun p hp => (h1.1.2 p hp).2.1) (fun p hp => ((p2.1.2 p).mp hp).2) et
  subst eA
  obtain ⟨q1, q2⟩ := gp_cl hgp (by omega) h6
  refine ⟨_, f', Ds, qs, n2, pm, isoV_of iN n2.1, hz, ?_⟩
  rw [p3, q2 sg', q2 d.2.1, et]
/-- rows of nets that go the same ways -/
theorem row_cg (he : ∀ a, a < 2 * T.1 → S.1 a = S'.1 a) (h : rowO (ntS T S) d) : rowO (ntS T S') d := by
  obtain ⟨h1, h2, h3⟩ := h
  refine ⟨⟨h1.1, h1.2.1, h1.2.2.1, h1.2.2.2.1, h1.2.2.2.2.1, fun v hv => ?_, h1.2.2.2.2.2.2⟩, ⟨h2.1, fun u v hu hv m hm => h2.2 u v hu hv m (fun k hk => ?_)⟩, h3⟩
  · have := h1.2.2.2.2.2.1 v hv
    have this : S.1 (lbv d.1 d.2.2 v) = lbv d.1 d.2.2 (rn_nx d.1 v) := this
    rw [he _ (em_lt (T := ntS T S) h1 hv)] at this
    exact this
  · have := hm k hk
    have this : m (S'.1 k) = m k ∧ m (mt k) = m k := this
    rw [← he k hk] at this
    exact this
/-- the codes of the parts are those of the rows -/
theorem prt_perm (hD : prtD T D) (hv : vn T.1 T.2.2.1) (hc : T.1 ≤ 12) (hZ : cpZ T (np_parts T.1 T.2.2.1.1).2 Cs os) : (D.map (fun d => clC d.2.1 d.1)).Perm Cs ∧ ∀ d, d ∈ D → ∃ c, okL d.1 c := by
  obtain ⟨i1, i2, i3, i4⟩ := parts_I hv hc
  have ex : ∀ d : ptT, ∃ r, d ∈ D → r < (np_parts T.1 T.2.2.1.1).2 ∧ (np_parts T.1 T.2.2.1.1).1 (lbv d.1 d.2.2 0) = nI r := fun d => by
    by_cases hd : d ∈ D
    · have h := hD.1 d hd
      have := row_two h
      obtain ⟨r, r1, r2⟩ := i2 _ (em_lt h.1 (show 0 < d.1.flatten.length by omega))
      exact ⟨r, fun _ => ⟨r1, r2⟩⟩
    · exact ⟨0, fun h => absurd h hd⟩
  obtain ⟨ρ, hρ⟩ := Classical.skolem.mp ex
  have cd : ∀ d, d ∈ D → (∃ c, okL d.1 c) ∧ clC d.2.1 d.1 = Cs.getD (ρ d) (0, []) := fun d hd => by
    obtain ⟨r1, r2⟩ := hρ d hd
    have hlt : ρ d < Cs.length := by rw [hZ.1]; exact r1
    obtain ⟨q1, q2⟩ := row_cd (hD.1 d hd) hv r2 (hZ.2.1 (ρ d) Cs[ρ d] (List.getElem?_eq_getElem hlt)).1
    refine ⟨⟨_, q1⟩, ?_⟩
    rw [List.getD_eq_getElem?_getD, List.getElem?_eq_getElem hlt]
    exact q2.symm
  have same : ∀ d, d ∈ D → ∀ v, v < d.1.flatten.length → (np_parts T.1 T.2.2.1.1).1 (lbv d.1 d.2.2 v) = nI (ρ d) := fun d hd v hv9 => by
    have h := hD.1 d hd
    rw [← (hρ d hd).2]
    exact (pt_iff9 hv hc (em_lt h.1 hv9) (em_lt h.1 (by omega))).mpr (h.2.1.2 v 0 hv9 (by omega))
  have nd : (D.map ρ).Nodup := by
    refine List.pairwise_map.mpr (hD.2.2.imp_of_mem (fun {a b} ha hb hab e => ?_))
    have h1 := hD.1 a ha
    have h2 := hD.1 b hb
    have l1 := row_two h1
    have l2 := row_two h2
    have e1 := same a ha 0 (by omega)
    have e2 := same b hb 0 (by omega)
    rw [← e] at e2
    obtain ⟨v, v1, v2, -⟩ := em_lab h1.1 hv (q := fun _ => 0) (fun _ _ => rfl) (fun _ _ => rfl) (show 0 < a.1.flatten.length by omega) ((pt_iff9 hv hc (em_lt h1.1 (by omega)) (em_lt h2.1 (show 0 < b.1.flatten.length by omega))).mp (e1.trans e2.symm))
    exact hab _ ⟨v, v1, v2⟩ ⟨0, by omega, rfl⟩
  have pI : (D.map ρ).Perm (List.range (np_parts T.1 T.2.2.1.1).2) := (List.perm_ext_iff_of_nodup nd List.nodup_range).mpr (fun r => by
    rw [List.mem_range, List.mem_map]
    constructor
    · rintro ⟨d, hd, rfl⟩
      exact (hρ d hd).1
    · intro hr
      obtain ⟨v, v1, v2⟩ := i3 r hr
      obtain ⟨d, d1, w, w1, w2⟩ := hD.2.1 v v1
      refine ⟨d, d1, ?_⟩
      have := same d d1 w w1
      rw [w2, v2] at this
      have hb := (hρ d d1).1
      exact (nI_inj9 (a := r) (b := ρ d) (by omega) (by omega) this).symm)
  refine ⟨?_, fun d hd => (cd d hd).1⟩
  have e1 : D.map (fun d => clC d.2.1 d.1) = (D.map ρ).map (fun r => Cs.getD r (0, [])) := by
    rw [List.map_map]
    exact List.map_congr_left (fun d hd => (cd d hd).2)
  have e2 : (List.range (np_parts T.1 T.2.2.1.1).2).map (fun r => Cs.getD r (0, [])) = Cs := by
    refine List.ext_getElem (by rw [List.length_map, List.length_range, hZ.1]) (fun i h1 h2 => ?_)
    rw [List.getElem_map, List.getElem_range, List.getD_eq_getElem?_getD, List.getElem?_eq_getElem h2]
    rfl
  rw [e1]
  exact (pI.map _).trans (by rw [e2])
/-- the lists of both sides -/
theorem sum_join {Ms : List (rn_L × (Nat → Bool))} (hD : prtD T D) (hv : vn T.1 T.2.2.1) (hc : T.1 ≤ 12) (hZ : cpZ T (np_parts T.1 T.2.2.1.1).2 Cs os) (hM : srM Ms) (hp : (D.map ptM).Perm Ms) : os.length = Ms.length ∧ (∀ (k : Nat) A sg, Ms[k]? = some (A, sg) → atC Cs os k = clC sg A) ∧ ∀ m, m ∈ Ms → ∃ d, d ∈ D ∧ m = ptM d := by
  obtain ⟨p1, p2⟩ := prt_perm hD hv hc hZ
  have mem : ∀ m, m ∈ Ms → ∃ d, d ∈ D ∧ m = ptM d := fun m hm => by
    obtain ⟨d, hd, e⟩ := List.mem_map.mp (hp.mem_iff.mpr hm)
    exact ⟨d, hd, e.symm⟩
  have w1 : (Ms.map (fun m => clC m.2 m.1)).Pairwise (fun a b => cmpC a b ≤ 0) := by
    refine List.pairwise_map.mpr (List.Pairwise.imp_of_mem (fun {a b} ha hb hab => ?_) hM)
    obtain ⟨d1, hd1, rfl⟩ := mem a ha
    obtain ⟨d2, hd2, rfl⟩ := mem b hb
    obtain ⟨c1, o1⟩ := p2 d1 hd1
    obtain ⟨c2, o2⟩ := p2 d2 hd2
    have hab : lsr (tk d2.2.1 d2.1) (tk d1.2.1 d1.1) = false := hab
    have hn : ¬ cmpC (clC d2.2.1 d2.1) (clC d1.2.1 d1.1) < 0 := fun h9 => by
      rw [(lsr_cmp o2 o1).mpr h9] at hab
      cases hab
    have := cmpC_sym (A := clC d1.2.1 d1.1) (B := clC d2.2.1 d2.1)
    show cmpC (clC d1.2.1 d1.1) (clC d2.2.1 d2.1) ≤ 0
    omega
  have w2 := srt_pw hZ.2.2.2
  have pm1' : (Ms.map (fun m => clC m.2 m.1)).Perm Cs := by
    have := (hp.map (fun m : rn_L × (Nat → Bool) => clC m.2 m.1)).symm
    rw [List.map_map] at this
    exact this.trans p1
  have e2 : (List.range (np_parts T.1 T.2.2.1.1).2).map (fun r => Cs.getD r (0, [])) = Cs := by
    refine List.ext_getElem (by rw [List.length_map, List.length_range, hZ.1]) (fun i h1 h2 => ?_)
    rw [List.getElem_map, List.getElem_range, List.getD_eq_getElem?_getD, List.getElem?_eq_getElem h2]
    rfl
  have pm2 : (os.map (fun s => Cs.getD s (0, []))).Perm Cs := by
    have := hZ.2.2.1.map (fun s => Cs.getD s (0, []))
    rw [e2] at this
    exact this
  have eq := pw_eq w1 w2 (pm1'.trans pm2.symm)
  have hl := congrArg List.length eq
  rw [List.length_map, List.length_map] at hl
  refine ⟨hl.symm, fun k A sg hk => ?_, mem⟩
  have h1 : (Ms.map (fun m => clC m.2 m.1))[k]? = some (clC sg A) := by rw [List.getElem?_map, hk]; rfl
  rw [eq, List.getElem?_map] at h1
  unfold atC
  rw [List.getD_eq_getElem?_getD (l := os)]
  cases e : os[k]? with
  | none =>
    rw [e] at h1
    cases h1
  | some s =>
    rw [e] at h1
    exact Option.some.inj h1
end XTC
