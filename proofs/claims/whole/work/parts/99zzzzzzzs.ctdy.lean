/-! the class: what tidying keeps -/
def altA (A : rn_L) (w : vT → Bool) : Prop := ∀ L, L ∈ A → ∀ p, p ∈ L → w (sc L p) = !w p
def gaA (A : rn_L) (w : vT → Bool) : Prop := altA A w ∧ ∀ x, (x, 0) ∈ A.flatten → w (x, 1) = !w (x, 0)
def adjA (A : rn_L) (p q : vT) : Prop := ∃ L, L ∈ A ∧ p ∈ L ∧ q ∈ L ∧ (sc L p = q ∨ sc L q = p)
theorem rmv_cm {A : rn_L} {r s : vT} : rmv (rmv A r) s = rmv (rmv A s) r := by
  unfold rmv
  rw [List.map_map, List.map_map]
  refine List.map_congr_left (fun L _ => ?_)
  show (L.filter _).filter _ = (L.filter _).filter _
  rw [List.filter_filter, List.filter_filter]
  exact List.filter_congr (fun a _ => Bool.and_comm _ _)
theorem sc_fil {L : List vT} {r p : vT} (hn : L.Nodup) (hp : p ∈ L) (hpr : p ≠ r) : sc (L.filter (fun q => decide (q ≠ r))) p = if sc L p = r then sc L r else sc L p := by
  by_cases hr : r ∈ L
  · obtain ⟨X, Y, rfl⟩ := List.append_of_mem hr
    rw [fil_m hn]
    refine sc_out hn ?_
    rcases List.mem_append.mp hp with h | h
    · exact List.mem_append_left _ h
    · rcases List.mem_cons.mp h with h | h
      · exact absurd h hpr
      · exact List.mem_append_right _ h
  · rw [fil_n hr, if_neg (fun h9 => hr (by rw [← h9]; exact sc_in hp hn))]
theorem same_L {A : rn_L} (hn : A.flatten.Nodup) {L N : List vT} {r : vT} (hL : L ∈ A) (hN : N ∈ A) (h1 : r ∈ L) (h2 : r ∈ N) : N = L := by
  obtain ⟨i, hi, rfl⟩ := List.mem_iff_getElem.mp hL
  obtain ⟨j, hj, rfl⟩ := List.mem_iff_getElem.mp hN
  have e1 := cidx_of hn hi h1
  have e2 := cidx_of hn hj h2
  have : i = j := by omega
  subst this
  rfl
theorem alt_rm2 {A : rn_L} {w : vT → Bool} {L : List vT} {r1 r2 : vT} (hn : A.flatten.Nodup) (hA : altA A w) (hL : L ∈ A) (h1 : r1 ∈ L) (h2 : r2 ∈ L) (e : sc L r1 = r2) (hne : r1 ≠ r2) : altA (rmv (rmv A r1) r2) w := by
  intro M hM p hp
  unfold rmv at hM
  rw [List.map_map] at hM
  obtain ⟨N, hN, rfl⟩ := List.mem_map.mp hM
  have nN := L_nd hn hN
  have hp' : p ∈ (N.filter (fun q => decide (q ≠ r1))).filter (fun q => decide (q ≠ r2)) := hp
  obtain ⟨hp1, hp2⟩ := List.mem_filter.mp hp'
  obtain ⟨hpN, hp3⟩ := List.mem_filter.mp hp1
  have hp2 : p ≠ r2 := of_decide_eq_true hp2
  have hp3 : p ≠ r1 := of_decide_eq_true hp3
  show w (sc ((N.filter (fun q => decide (q ≠ r1))).filter (fun q => decide (q ≠ r2))) p) = !w p
  rw [sc_fil (nN.filter _) hp1 hp2, sc_fil nN hpN hp3]
  have hs := sc_in hpN nN
  have h0 := hA N hN p hpN
  by_cases c1 : sc N p = r1
  · have hr1 : r1 ∈ N := by rw [← c1]; exact hs
    have eN := same_L hn hL hN h1 hr1
    have hr2 : r2 ∈ N := by rw [eN]; exact h2
    have e' : sc N r1 = r2 := by rw [eN]; exact e
    rw [if_pos c1, e', if_pos rfl, sc_fil nN hr2 (fun h9 => hne h9.symm), if_neg (fun h9 => hp2 (sc_inj nN hpN hr2 (by rw [c1, h9]))), hA N hN r2 hr2]
    have h3 := hA N hN r1 hr1
    rw [e'] at h3
    rw [c1] at h0
    rw [h3, h0]
    simp
  · rw [if_neg c1, if_neg (fun h9 => ?_)]
    · exact h0
    · have hr2 : r2 ∈ N := by rw [← h9]; exact hs
      have eN := same_L hn hL hN h2 hr2
      have hr1 : r1 ∈ N := by rw [eN]; exact h1
      exact hp3 (sc_inj nN hpN hr1 (by rw [h9, eN, e]))
theorem alt_adj {A : rn_L} {w : vT → Bool} {p q : vT} (hn : A.flatten.Nodup) (hA : altA A w) (h : adjA A p q) (hne : p ≠ q) : altA (rmv (rmv A p) q) w := by
  obtain ⟨L, hL, h1, h2, e | e⟩ := h
  · exact alt_rm2 hn hA hL h1 h2 e hne
  · rw [rmv_cm]
    exact alt_rm2 hn hA hL h2 h1 e (fun h9 => hne h9.symm)
theorem adj_rmv {A : rn_L} {p q r : vT} (hn : A.flatten.Nodup) (h : adjA A p q) (h1 : p ≠ r) (h2 : q ≠ r) : adjA (rmv A r) p q := by
  obtain ⟨L, hL, g1, g2, e⟩ := h
  have nL := L_nd hn hL
  refine ⟨_, List.mem_map.mpr ⟨L, hL, rfl⟩, List.mem_filter.mpr ⟨g1, decide_eq_true h1⟩, List.mem_filter.mpr ⟨g2, decide_eq_true h2⟩, ?_⟩
  rw [sc_fil nL g1 h1, sc_fil nL g2 h2]
  rcases e with e | e
  · rw [e, if_neg h2]
    exact Or.inl rfl
  · rw [e, if_neg h1]
    exact Or.inr rfl
theorem gaA_1 {A : rn_L} {w : vT → Bool} {x : Nat} (hn : A.flatten.Nodup) (h : gaA A w) (ha : adjA A (x, 0) (x, 1)) : gaA (wox A x) w := ⟨alt_adj hn h.1 ha (fun h9 => by cases h9), fun y hy => h.2 y (rmv_mem.mp (rmv_mem.mp hy).1).1⟩
theorem gaA_2 {A : rn_L} {w : vT → Bool} {x y : Nat} (hn : A.flatten.Nodup) (h : gaA A w) (hxy : x ≠ y) (ha : adjA A (x, 0) (y, 0)) (hb : adjA A (x, 1) (y, 1)) : gaA (wox (wox A x) y) w := by
  have e : wox (wox A x) y = rmv (rmv (rmv (rmv A (x, 0)) (y, 0)) (x, 1)) (y, 1) := by
    unfold wox
    rw [rmv_cm (A := rmv A (x, 0)) (r := (x, 1)) (s := (y, 0))]
  refine ⟨?_, fun z hz => h.2 z ?_⟩
  · rw [e]
    have n1 : (rmv A (x, 0)).flatten.Nodup := rmv_nd hn
    refine alt_adj (rmv_nd n1) (alt_adj hn h.1 ha (fun h9 => hxy (congrArg Prod.fst h9))) (adj_rmv n1 (adj_rmv hn hb (fun h9 => by cases h9) (fun h9 => by cases h9)) (fun h9 => by cases h9) (fun h9 => by cases h9)) (fun h9 => hxy (congrArg Prod.fst h9))
  · exact (rmv_mem.mp (rmv_mem.mp (rmv_mem.mp (rmv_mem.mp hz).1).1).1).1
section TY
variable {A : rn_L} {sg : Nat → Bool} {f : Nat → Nat} {T : ow_NT}
theorem bs_adj (h : isoV A sg f T) {p q : vT} (hp : p ∈ A.flatten) (hq : q ∈ A.flatten) (e : mv_bs T.2.2.1.1 (gl f p) (gl f q) = true) : adjA A p q := by
  have hg := gl_gin h.1
  have key : ∀ p q, p ∈ A.flatten → q ∈ A.flatten → T.2.2.1.1 (gl f p) = gl f q → ∃ L, L ∈ A ∧ p ∈ L ∧ q ∈ L ∧ sc L p = q := by
    intro p q hp hq e
    obtain ⟨L, hL, hpL⟩ := List.mem_flatten.mp hp
    have nL := L_nd h.1.1.1 hL
    have hs := sc_in hpL nL
    have e1 := (h.2 L hL p hpL).1
    rw [e] at e1
    have e2 := hg _ _ hq (List.mem_flatten.mpr ⟨L, hL, hs⟩) e1
    exact ⟨L, hL, hpL, by rw [e2]; exact hs, e2.symm⟩
  unfold mv_bs at e
  rcases Bool.or_eq_true_iff.mp e with e | e
  · obtain ⟨L, h1, h2, h3, h4⟩ := key p q hp hq (of_decide_eq_true e)
    exact ⟨L, h1, h2, h3, Or.inl h4⟩
  · obtain ⟨L, h1, h2, h3, h4⟩ := key q p hq hp (of_decide_eq_true e)
    exact ⟨L, h1, h3, h2, Or.inr h4⟩
theorem nm_of (h : isoV A sg f T) {x : Nat} (hx : x < T.1) : ∃ x0, f x0 = x ∧ (x0, 0) ∈ A.flatten ∧ (x0, 1) ∈ A.flatten := by
  obtain ⟨v, hv, e⟩ := lbv_sur (isoS_iff.mp h.1) (show 2 * x < 2 * T.1 by omega)
  have hm := vAt_mem hv
  have e' : gl f (vAt A v) = 2 * x := e
  generalize vAt A v = p at hm e'
  obtain ⟨-, p2, p3⟩ := h.1.1.2 p hm
  unfold gl at e'
  obtain ⟨a, b⟩ := p
  have hb : b = 0 := by
    dsimp only at e' p2
    omega
  subst hb
  exact ⟨a, by dsimp only at e'; omega, hm, p3⟩
theorem rmG_nz {G : Nat → Int32} {x c : Nat} (h : ∀ k, k < c + 1 → G k ≠ 0) (hx : x < c + 1) : ∀ k, k < c → np_rmG G x c k ≠ 0 := by
  intro k hk
  unfold np_rmG
  split
  · exact h k (by omega)
  · unfold su
    split
    · exact h c (by omega)
    · exact h k (by omega)
def tyI (T : ow_NT) : Prop := nv T ∧ (∀ x, x < T.1 → T.2.2.2 x ≠ 0) ∧ ∃ A sg f w k, isoV A sg f T ∧ gaA A w ∧ A.length ≤ 6 ∧ pLe A k ∧ 1 ≤ k ∧ T.1 + k ≤ 9
theorem tyI_1 {x : Nat} (h : tyI T) (hx : x < T.1) (e : mv_bs T.2.2.1.1 (2 * x) (2 * x + 1) = true) : tyI (nt_rm T x) := by
  obtain ⟨h1, h2, A, sg, f, w, k, h3, h4, h5, h6, h7, h8⟩ := h
  obtain ⟨x0, rfl, m0, m1⟩ := nm_of h3 hx
  obtain ⟨f', i1, -⟩ := iso_rm h3 m0
  refine ⟨nv_rm h1 hx, rmG_nz (c := T.1 - 1) (fun k hk => h2 k (by omega)) (by omega), wox A x0, sg, f', w, k + 1, i1, gaA_1 h3.1.1.1 h4 (bs_adj h3 m0 m1 e), by rw [wox_len]; exact h5, pLe_rm (fun p hp => (h3.1.1.2 p hp).2.1) h6, by omega, ?_⟩
  show T.1 - 1 + (k + 1) ≤ 9
  omega
theorem tyI_2 {x y : Nat} (h : tyI T) (hx : x < T.1) (hy : y < x) (e : mv_pair T.2.2.1.1 T.2.2.2 x y = true) : tyI (nt_rm (nt_rm T x) y) := by
  obtain ⟨h1, h2, A, sg, f, w, k, h3, h4, h5, h6, h7, h8⟩ := h
  obtain ⟨x0, rfl, m0, m1⟩ := nm_of h3 hx
  obtain ⟨y0, rfl, n0, n1⟩ := nm_of h3 (show y < T.1 by omega)
  have hne : x0 ≠ y0 := fun h9 => by
    rw [h9] at hy
    omega
  unfold mv_pair at e
  obtain ⟨e1, e2⟩ := Bool.and_eq_true_iff.mp e
  obtain ⟨-, e1⟩ := Bool.and_eq_true_iff.mp e1
  have hu := fun (p : vT) (hp : p ∈ A.flatten) => (h3.1.1.2 p hp).2.1
  obtain ⟨f', i1, i2⟩ := iso_rm h3 m0
  have i3 := i2 y0
  rw [if_neg (by omega)] at i3
  have n2 : (y0, 0) ∈ (wox A x0).flatten := (wox_mem hu).mpr ⟨n0, fun h9 => hne h9.symm⟩
  obtain ⟨f2, j1, -⟩ := iso_rm i1 n2
  rw [i3] at j1
  have hx1 : (nt_rm T (f x0)).1 = T.1 - 1 := rfl
  have g1 : ∀ k, k < (nt_rm T (f x0)).1 → (nt_rm T (f x0)).2.2.2 k ≠ 0 := rmG_nz (c := T.1 - 1) (fun k hk => h2 k (by omega)) (by omega)
  refine ⟨nv_rm (nv_rm h1 hx) (by omega), rmG_nz (c := (nt_rm T (f x0)).1 - 1) (fun k hk => g1 k (by omega)) (by omega), wox (wox A x0) y0, sg, f2, w, k + 1 + 1, j1, gaA_2 h3.1.1.1 h4 hne (bs_adj h3 m0 n0 e1) (bs_adj h3 m1 n1 e2), by rw [wox_len, wox_len]; exact h5, pLe_rm (fun p hp => (i1.1.1.2 p hp).2.1) (pLe_rm hu h6), by omega, ?_⟩
  show T.1 - 1 - 1 + (k + 1 + 1) ≤ 9
  omega
end TY
section TY2
variable {vl : Nat → Nat} {y : ow_MS} {T : ow_NT}
theorem u_X1_tidyOnce_1 {vl : Nat → Nat} {x1 : Int32} {x2 : Int32} {r0 : Nat} {z : ow_MS} {Q : (Int32 × ow_MS) → Prop} (H : Tt (fun K k => cm_X1_tidyOnce_1 vl K (c_X1_tidyOnce vl K k) x1 x2 r0 z) Q) : Tt (fun K k => c_X1_tidyOnce vl K k 1 x1 x2 r0 z) Q := w_un (fun _ _ => rfl) H
theorem u_X1_tidyOnce_2 {vl : Nat → Nat} {x1 : Int32} {x2 : Int32} {r0 : Nat} {z : ow_MS} {Q : (Int32 × ow_MS) → Prop} (H : Tt (fun K k => cm_X1_tidyOnce_2 vl K (c_X1_tidyOnce vl K k) x1 x2 r0 z) Q) : Tt (fun K k => c_X1_tidyOnce vl K k 2 x1 x2 r0 z) Q := w_un (fun _ _ => rfl) H
theorem e_X1_tidyOnce {vl : Nat → Nat} {r0 : Nat} {z : ow_MS} {Q : (Int32 × ow_MS) → Prop} (H : Tt (fun K k => c_X1_tidyOnce vl K k 0 0 0 r0 z) Q) : Te (fun K => ce_X1_tidyOnce vl K r0 z) Q := w_te H
theorem u_X1_tidyOnce_0 {vl : Nat → Nat} {x1 : Int32} {x2 : Int32} {r0 : Nat} {z : ow_MS} {Q : (Int32 × ow_MS) → Prop} (H : Tt (fun K k => cm_X1_tidyOnce_0 vl K (c_X1_tidyOnce vl K k) x1 x2 r0 z) Q) : Tt (fun K k => c_X1_tidyOnce vl K k 0 x1 x2 r0 z) Q := w_un (fun _ _ => rfl) H
theorem tc_tidyOnce (hy : cAt y 44000 T) (hT : tyI T) : Te (fun K => ce_X1_tidyOnce vl K 43000 y) (fun r => (∃ T', cAt r.2 44000 T' ∧ tyI T') ∧ fr (cP 44000) y r.2) := by
  let Q : Int32 × ow_MS → Prop := fun r => (∃ T', cAt r.2 44000 T' ∧ tyI T') ∧ fr (cP 44000) y r.2
  have hb := hT.1.2.2.1
  have h12 := hT.1.2.1
  have c1 : ∀ (d x : Nat), x + d = T.1 → Tt (fun K k => c_X1_tidyOnce vl K k 1 (nI x) 0 43000 y) Q := by
    intro d
    induction d with
    | zero =>
      intro x hx
      refine u_X1_tidyOnce_1 ?_; unfold cm_X1_tidyOnce_1
      exact w_rdF hy.1 (w_leT (by omega) (by omega) (w_okZ (Or.inl rfl) (w_some ⟨⟨T, hy, hT⟩, fr_rf⟩)))
    | succ d ih =>
      intro x hx
      have c2 : ∀ (d2 u : Nat), u + d2 = x → Tt (fun K k => c_X1_tidyOnce vl K k 2 (nI x) (nI u) 43000 y) Q := by
        intro d2
        induction d2 with
        | zero =>
          intro u hu
          refine u_X1_tidyOnce_2 ?_; unfold cm_X1_tidyOnce_2
          refine w_leT (by omega) (by omega) ?_
          rw [nI_1]
          exact ih (x + 1) (by omega)
        | succ d2 ih2 =>
          intro u hu
          refine u_X1_tidyOnce_2 ?_; unfold cm_X1_tidyOnce_2
          refine w_leF (by omega) (by omega) (w_cs1 (tc_isPair nH44 hy hb (by omega) (by omega)) ?_)
          rintro a z1 ⟨r1, r2⟩
          dsimp only at r1 r2
          subst r2
          rw [r1]
          cases e : mv_pair T.2.2.1.1 T.2.2.2 x u with
          | false =>
            refine w_ifT rfl ?_
            rw [nI_1]
            exact ih2 (u + 1) (by omega)
          | true =>
            refine w_ifF (by decide) (w_cs0 (tc_removeCrossing nH44 hy hb (by omega) h12) ?_)
            rintro z2 ⟨q1, q2⟩
            have hx1 : (nt_rm T x).1 = T.1 - 1 := rfl
            have hv1 := nv_rm hT.1 (show x < T.1 by omega)
            refine w_cs0 (tc_removeCrossing nH44 q1 hv1.2.2.1 (by omega) hv1.2.1) ?_
            rintro z3 ⟨q3, q4⟩
            exact w_okZ (Or.inr rfl) (w_some ⟨⟨_, q3, tyI_2 hT (by omega) (by omega) e⟩, fr_tr q2 q4⟩)
      refine u_X1_tidyOnce_1 ?_; unfold cm_X1_tidyOnce_1
      refine w_rdF hy.1 (w_leF (by omega) (by omega) (w_cs1 (tc_isLoop nH44 hy hb (by omega)) ?_))
      rintro a z1 ⟨r1, r2⟩
      dsimp only at r1 r2
      subst r2
      rw [r1]
      cases e : mv_bs T.2.2.1.1 (2 * x) (2 * x + 1) with
      | false => exact w_ifT rfl (c2 x 0 (by omega))
      | true =>
        refine w_ifF (by decide) (w_cs0 (tc_removeCrossing nH44 hy hb (by omega) h12) ?_)
        rintro z2 ⟨q1, q2⟩
        exact w_okZ (Or.inr rfl) (w_some ⟨⟨_, q1, tyI_1 hT (by omega) e⟩, q2⟩)
  refine e_X1_tidyOnce ?_
  refine u_X1_tidyOnce_0 ?_; unfold cm_X1_tidyOnce_0
  exact c1 T.1 0 (by omega)
theorem u_X1_tidy_1 {vl : Nat → Nat} {x1 : Int32} {x2 : Int32} {r0 : Nat} {z : ow_MS} {Q : ow_MS → Prop} (H : Tt (fun K k => cm_X1_tidy_1 vl K (c_X1_tidy vl K k) x1 x2 r0 z) Q) : Tt (fun K k => c_X1_tidy vl K k 1 x1 x2 r0 z) Q := w_un (fun _ _ => rfl) H
theorem e_X1_tidy {vl : Nat → Nat} {r0 : Nat} {z : ow_MS} {Q : ow_MS → Prop} (H : Tt (fun K k => c_X1_tidy vl K k 0 0 0 r0 z) Q) : Te (fun K => ce_X1_tidy vl K r0 z) Q := w_te H
theorem u_X1_tidy_0 {vl : Nat → Nat} {x1 : Int32} {x2 : Int32} {r0 : Nat} {z : ow_MS} {Q : ow_MS → Prop} (H : Tt (fun K k => cm_X1_tidy_0 vl K (c_X1_tidy vl K k) x1 x2 r0 z) Q) : Tt (fun K k => c_X1_tidy vl K k 0 x1 x2 r0 z) Q := w_un (fun _ _ => rfl) H
theorem tc_tidy (hy : cAt y 44000 T) (hT : tyI T) : Te (fun K => ce_X1_tidy vl K 43000 y) (fun y1 => (∃ T', cAt y1 44000 T' ∧ tyI T') ∧ fr (cP 44000) y y1) := by
  let Q : ow_MS → Prop := fun y1 => (∃ T', cAt y1 44000 T' ∧ tyI T') ∧ fr (cP 44000) y y1
  have c1 : ∀ (d i : Nat) (x1 : Int32) (z : ow_MS), i + d = 9 → Q z → Tt (fun K k => c_X1_tidy vl K k 1 x1 (nI i) 43000 z) Q := by
    intro d
    induction d with
    | zero =>
      intro i x1 z hi hz
      refine u_X1_tidy_1 ?_; unfold cm_X1_tidy_1
      exact w_ltT (a := 8) (b := i) (by omega) (by omega) (w_some hz)
    | succ d ih =>
      intro i x1 z hi hz
      refine u_X1_tidy_1 ?_; unfold cm_X1_tidy_1
      refine w_ltF (a := 8) (b := i) (by omega) (by omega) (w_if (fun _ => w_some hz) (fun _ => ?_))
      obtain ⟨⟨T1, t1, t2⟩, t3⟩ := hz
      refine w_cs1 (tc_tidyOnce t1 t2) ?_
      rintro a z1 ⟨q1, q2⟩
      rw [nI_1]
      exact ih (i + 1) _ z1 (by omega) ⟨q1, fr_tr t3 q2⟩
  refine e_X1_tidy ?_
  refine u_X1_tidy_0 ?_; unfold cm_X1_tidy_0
  exact c1 9 0 _ y (by omega) ⟨⟨T, hy, hT⟩, fr_rf⟩
end TY2
