/-! tryMoves, moves, moved, simplify, way -/
section MV5
variable {X : (Nat → Nat → Int32) → Prop} {bb m n : Nat} {z : ow_MS} {A : rn_L} {sg : Nat → Bool}
abbrev frT (n g : Nat) : Prop := g < 1000 ∧ g ≠ 12 ∧ g ≠ 28 ∨ 3001 ≤ g ∧ g ≤ 3016 ∨ n + 12 ≤ g ∧ g ≤ n + 16
theorem u_X13_tryMoves_1 {x2 : Int32} {x3 : Int32} {r1 : Nat} {z : ow_MS} {Q : ow_MS → Prop} (H : Tt (fun K k => qm_X13_tryMoves_1 K (q_X13_tryMoves K k) x2 x3 r1 z) Q) : Tt (fun K k => q_X13_tryMoves K k 1 x2 x3 r1 z) Q := w_un (fun _ _ => rfl) H
theorem u_X13_tryMoves_2 {x2 : Int32} {x3 : Int32} {r1 : Nat} {z : ow_MS} {Q : ow_MS → Prop} (H : Tt (fun K k => qm_X13_tryMoves_2 K (q_X13_tryMoves K k) x2 x3 r1 z) Q) : Tt (fun K k => q_X13_tryMoves K k 2 x2 x3 r1 z) Q := w_un (fun _ _ => rfl) H
theorem e_X13_tryMoves {r1 : Nat} {x2 : Int32} {z : ow_MS} {Q : ow_MS → Prop} (H : Tt (fun K k => q_X13_tryMoves K k 0 x2 0 r1 z) Q) : Te (fun K => qe_X13_tryMoves K r1 x2 z) Q := w_te H
theorem u_X13_tryMoves_0 {x2 : Int32} {x3 : Int32} {r1 : Nat} {z : ow_MS} {Q : ow_MS → Prop} (H : Tt (fun K k => qm_X13_tryMoves_0 K (q_X13_tryMoves K k) x2 x3 r1 z) Q) : Tt (fun K k => q_X13_tryMoves K k 0 x2 x3 r1 z) Q := w_un (fun _ _ => rfl) H
theorem tp_try {kind : Int32} (hn : mw_net n) (hn3 : n ≠ 3000) (hO : oNet z n A sg) (h : oF X bb m 0 z) : Te (fun K => qe_X13_tryMoves K n kind z) (fun z1 => (∃ L2, L2 ≤ 2700 ∧ oF X bb m L2 z1) ∧ fr (frT n) z z1) := by
  have hmn := net_mod hn
  have hl := hO.len
  have hd := wkF_ok hO.wk
  have hC := hO.2.2.2
  obtain ⟨c, hok, hc12⟩ := hO.2.2.1
  have hVc := okF_len hok
  have frc : ∀ {y : ow_MS}, fr frC z y → fr (frT n) z y := fun hf => fr_mono (fun g hg => by unfold frC at hg; unfold frT; omega) hf
  have l1 : ∀ (k v : Nat) (y : ow_MS), v + k = A.flatten.length → fr frC z y → (∃ L2, L2 ≤ v ∧ oF X bb m L2 y) → Tt (fun K i => q_X13_tryMoves K i 1 kind (nI v) n y) (fun z1 => (∃ L2, L2 ≤ 2700 ∧ oF X bb m L2 z1) ∧ fr (frT n) z z1) := by
    intro k
    induction k with
    | zero =>
      intro v y hv hf ⟨L2, hL2, ho⟩
      have o2 := oNet_C hn hn3 hf hO
      refine u_X13_tryMoves_1 ?_; unfold qm_X13_tryMoves_1
      exact w_rdF o2.1.V (w_leT (by omega) (by omega) (w_some ⟨⟨L2, by omega, ho⟩, frc hf⟩))
    | succ k ih =>
      intro v y hv hf ⟨L2, hL2, ho⟩
      have o2 := oNet_C hn hn3 hf hO
      have hvl : v < A.flatten.length := by omega
      have x1 := (o2.cx hvl).1
      have c2 : ∀ (y2 : ow_MS), fr frC z y2 → (∃ L3, L3 ≤ v + 1 ∧ oF X bb m L3 y2) → Tt (fun K i => q_X13_tryMoves K i 2 kind (nI v) n y2) (fun z1 => (∃ L2, L2 ≤ 2700 ∧ oF X bb m L2 z1) ∧ fr (frT n) z z1) := by
        intro y2 hf2 ho2
        refine u_X13_tryMoves_2 ?_; unfold qm_X13_tryMoves_2
        rw [nI_1]
        exact ih (v + 1) y2 (by omega) hf2 ho2
      refine u_X13_tryMoves_1 ?_; unfold qm_X13_tryMoves_1
      exact w_rdF o2.1.V (w_leF (by omega) hvl (w_rdI (pl9 hn) rfl (by omega) rfl (w_rdI (pl7 hn) rfl (by omega) rfl (w_if (fun _ => w_rdI (pl4 hn) rfl (by omega) (lk_cu o2.1 hvl).1 (w_rdI (pl4 hn) rfl (by omega) (lk_cu o2.1 hvl).1 (w_cs0 (tp_without hn hn3 (by omega) (by omega) (by omega) o2 ho) (fun y2 ⟨k1, k2⟩ => c2 y2 (fr_tr hf (fr_mono (fun g hg => by unfold frB at hg; unfold frC; omega) k2)) ⟨L2 + 1, by omega, k1⟩)))) (fun _ => c2 y hf ⟨L2, by omega, ho⟩)))))
  have dv : nI A.flatten.length / 2 = nI c := by
    rw [show nI A.flatten.length / 2 = nI (A.flatten.length / 2) from pk_div (d := 2) (by omega) (by omega) (by omega)]
    congr 1
    omega
  refine e_X13_tryMoves ?_
  refine u_X13_tryMoves_0 ?_; unfold qm_X13_tryMoves_0
  refine w_if (fun _ => w_cs0 (tp_three hn hn3 hO h) (fun y ⟨k1, k2⟩ => w_some ⟨k1, k2⟩)) (fun hk => w_if (fun _ => l1 _ 0 z (Nat.zero_add _) fr_rf ⟨0, Nat.le_refl _, h⟩) (fun k0 => w_if (fun _ => w_rdF hO.1.V (w_nzI (by decide) ?_)) (fun k1 => w_if (fun _ => w_cs0 (tp_twoGo hn hn3 hO h) (fun y ⟨q1, q2⟩ => w_some ⟨q1, frc q2⟩)) (fun k2 => w_if (fun _ => w_rdF hO.1.V (w_nzI (by decide) ?_)) (fun k3 => ?_)))))
  · rw [dv, nI_1]
    exact w_lt (a := 12) (by omega) (by omega) (fun _ => w_some ⟨⟨0, by omega, h⟩, fr_rf⟩) (fun h9 => w_cs0 (tp_oneComes (L := 0) hn hn3 (by omega) (by omega) hO h) (fun y ⟨⟨L2, q0, q1⟩, q2⟩ => w_some ⟨⟨L2, by omega, q1⟩, fr_mono (fun g hg => by unfold frB at hg; unfold frT; omega) q2⟩))
  · rw [dv, show nI c + 2 = nI (c + 2) from nI_add c 2]
    exact w_lt (a := 12) (by omega) (by omega) (fun _ => w_some ⟨⟨0, by omega, h⟩, fr_rf⟩) (fun h9 => w_cs0 (tp_twoCome hn hn3 (by omega) hO h) (fun y ⟨q1, q2⟩ => w_some ⟨q1, frc q2⟩))
  · exfalso
    have key : ∀ k : Nat, k < 4 → kind.toInt = (k : Int) → kind = nI k := by
      intro k hk e9
      refine Int32.toInt_inj.mp ?_
      rw [e9, nI_toInt (by omega)]
    have hge : 0 ≤ kind.toInt := by omega
    obtain ⟨k, hk9⟩ := Int.eq_ofNat_of_zero_le hge
    have hk4 : k < 4 := by omega
    have hwk := key k hk4 hk9
    have : k = 0 ∨ k = 1 ∨ k = 2 ∨ k = 3 := by omega
    rcases this with e9 | e9 | e9 | e9 <;> subst e9
    · exact k0 hwk
    · exact k1 hwk
    · exact k2 hwk
    · exact k3 hwk
/-- out of a row of diagrams into cur -/
theorem to_unpack {h o la : Nat} (hh : h < 1000) (hla : (mX.2 h).2.1 = la) (ha : la < 2 ^ 30) (ho : o + 32 ≤ la) (hv : vRow z h o A sg) : Te (fun K => qe_X13_unpack K h (nI o) 1000 z) (fun z1 => rn_At z1 1000 A [] ∧ rn_sg z1 1000 A.flatten sg ∧ fr (fun g => 1001 ≤ g ∧ g ≤ 1006) z z1) := by
  obtain ⟨h1, ⟨c, h2, h3⟩, h4⟩ := hv
  have hl := okF_len h2
  have hll := h1.1
  have hw := okF_wk (by omega) h2
  exact w_monoE (tr_unpack pn1 hh hla ha (by omega) (by omega) (by omega) (fun p hp => ⟨(hw.2 p hp).1, (hw.2 p hp).2.1⟩) h1) (fun z1 ⟨g1, g2, g3⟩ => ⟨g1, g2, fr_mono (fun g hg => by omega) g3⟩)
theorem to_link {z0 : ow_MS} {h o : Nat} (hv : vRow z0 h o A sg) (h1 : rn_At z 1000 A []) (h2 : rn_sg z 1000 A.flatten sg) : Te (fun K => qe_X12_link K 1000 z) (fun z1 => oNet z1 1000 A sg ∧ fr (fun g => 1007 ≤ g ∧ g ≤ 1011) z z1) := by
  obtain ⟨-, ⟨c, h5, h3⟩, h4⟩ := hv
  have hl := okF_len h5
  have hw := okF_wk (by omega) h5
  refine w_monoE (tn_link pn1 (by omega) (by omega) (wkF_ok hw).1 h1) (fun z1 ⟨f1, f2, f3⟩ => ⟨⟨⟨f2, f3⟩, fun p hp => ?_, ⟨c, h5, h3⟩, h4⟩, fr_mono (fun g hg => by have := hg.1; have := hg.2; omega) f1⟩)
  rw [(f1 (1000 + 6) (fun h9 => by have := h9.1; omega)).2.1]
  exact h2 p hp
theorem oF_L {L L2 : Nat} (hm : m ≠ 0) (h : oF X bb m L z) : oF X bb m L2 z := ⟨h.1, h.2.1, h.2.2.1, fun e => absurd e hm, h.2.2.2.2⟩
theorem u_X13_moves_1 {x1 : Int32} {x2 : Int32} {z : ow_MS} {Q : (Int32 × ow_MS) → Prop} (H : Tt (fun K k => qm_X13_moves_1 K (q_X13_moves K k) x1 x2 z) Q) : Tt (fun K k => q_X13_moves K k 1 x1 x2 z) Q := w_un (fun _ _ => rfl) H
theorem e_X13_moves {x1 : Int32} {x2 : Int32} {z : ow_MS} {Q : (Int32 × ow_MS) → Prop} (H : Tt (fun K k => q_X13_moves K k 0 x1 x2 z) Q) : Te (fun K => qe_X13_moves K x1 x2 z) Q := w_te H
theorem u_X13_moves_0 {x1 : Int32} {x2 : Int32} {z : ow_MS} {Q : (Int32 × ow_MS) → Prop} (H : Tt (fun K k => qm_X13_moves_0 K (q_X13_moves K k) x1 x2 z) Q) : Tt (fun K k => q_X13_moves K k 0 x1 x2 z) Q := w_un (fun _ _ => rfl) H
theorem tp_moves {d kind : Int32} (h : gI X z) : Te (fun K => qe_X13_moves K d kind z) (fun r => gI X r.2) := by
  have h1 := gI_1 (c := 0) h
  have c1 : Tt (fun K k => q_X13_moves K k 1 d kind (usF z 1 0)) (fun r => gI X r.2) := by
    refine u_X13_moves_1 ?_; unfold qm_X13_moves_1
    exact w_fail h1
  refine e_X13_moves ?_
  refine u_X13_moves_0 ?_; unfold qm_X13_moves_0
  refine w_wrF (w_has h1.2.1 (w_ifT rfl (w_fail h1)) (fun e A sg he hx hv hne => w_ifF (by decide) (w_if (fun _ => c1) (fun _ => w_if (fun _ => ?_) (fun _ => c1)))))
  subst hx
  refine w_cs0 (to_open pn1 he hv) (fun z2 ⟨o1, f1⟩ => w_wrF (w_wrF ?_))
  have h2 : gI X z2 := gI_net pn1 f1 (fun g hg => by omega) h1
  have f2 : fr (fun g => g = 22 ∨ g = 30) z2 (usF (usF z2 22 0) 30 0) := fr_F2 (fr_F (Or.inl rfl)) (Or.inr rfl)
  have e22 : (usF (usF z2 22 0) 30 0).1 22 = nI 0 := rf_ot (by omega) (po_usF_at.trans nI_0.symm)
  have h3 : gI X (usF (usF z2 22 0) 30 0) := by
    obtain ⟨j1, j2, j3, j4, j5, j6, j7⟩ := h2
    exact ⟨gTape_fr f2 (by omega) j1, gRows_fr f2 (by omega) j2, ⟨0, by omega, e22, fun k hk => by omega, fun j hj => by omega⟩, gSum_fr f2 (by omega) (by omega) (by omega) j4, gCash_fr f2 (by omega) (by omega) (by omega) (by omega) (by omega) j5, gBrs_fr f2 (by omega) (by omega) (by omega) j6, gX_fr f2 (fun g hg => by omega) j7⟩
  have ho : oF X 0 0 0 (usF (usF z2 22 0) 30 0) := ⟨h3, po_usF_at, by omega, fun _ => ⟨0, Nat.le_refl _, e22⟩, fun e => by omega, fun e => by omega, fun e => by omega⟩
  exact w_cs0 (tp_try pn1 (by omega) (oNet_fr f2 (fun g hg => by omega) o1) ho) (fun z3 ⟨⟨L2, _, k1⟩, _⟩ => w_rdF rfl (w_some k1.1))
theorem u_X13_moved_1 {x1 : Int32} {z : ow_MS} {Q : (Int32 × ow_MS) → Prop} (H : Tt (fun K k => qm_X13_moved_1 K (q_X13_moved K k) x1 z) Q) : Tt (fun K k => q_X13_moved K k 1 x1 z) Q := w_un (fun _ _ => rfl) H
theorem e_X13_moved {x1 : Int32} {z : ow_MS} {Q : (Int32 × ow_MS) → Prop} (H : Tt (fun K k => q_X13_moved K k 0 x1 z) Q) : Te (fun K => qe_X13_moved K x1 z) Q := w_te H
theorem u_X13_moved_0 {x1 : Int32} {z : ow_MS} {Q : (Int32 × ow_MS) → Prop} (H : Tt (fun K k => qm_X13_moved_0 K (q_X13_moved K k) x1 z) Q) : Tt (fun K k => q_X13_moved K k 0 x1 z) Q := w_un (fun _ _ => rfl) H
theorem tp_moved {k : Int32} (h : gI X z) : Te (fun K => qe_X13_moved K k z) (fun r => gI X r.2) := by
  have h1 := gI_1 (c := 0) h
  have c1 : Tt (fun K i => q_X13_moved K i 1 k (usF z 1 0)) (fun r => gI X r.2) := by
    refine u_X13_moved_1 ?_; unfold qm_X13_moved_1
    exact w_fail h1
  obtain ⟨L, l1, l2, l3, l4⟩ := h1.2.2.1
  refine e_X13_moved ?_
  refine u_X13_moved_0 ?_; unfold qm_X13_moved_0
  refine w_wrF (w_if (fun _ => c1) (fun h0 => w_rdF l2 (w_if (fun h9 => w_free (w_ifT rfl (w_fail h1)) (fun f hf hfr => w_ifF (rn_neg1 (by omega)) ?_)) (fun _ => c1))))
  obtain ⟨j, hj31, rfl⟩ := nI_of h0
  have hjL : j < L := (nI_ltI hj31 (by omega)).mp h9
  obtain ⟨i, hi, e⟩ := l3 j hjL
  refine w_rdI ml21 rfl (by omega) e ?_
  rw [show (32 : Int32) * nI i = nI (32 * i) from pk_mul 32 i]
  exact w_cs1 (tm_keepRow h1 hfr (by omega) ml20 (by omega) (by omega) (l4 i hi)) (fun _ _ h8 => w_some h8.1)
/-- a row is copied out of the places -/
theorem cp_row {z1 : ow_MS} {h d : Nat} (hv : vRow z 12 (32 * d) A sg) (hc : ∀ i, i < (tk sg A).length + 1 → z1.2.1 h i = z.2.1 12 (32 * d + i)) : vRow z1 h 0 A sg := by
  refine ⟨⟨hv.1.1, hv.1.2.1, ?_, fun i t hi => ?_⟩, hv.2⟩
  · have := hc 0 (by omega)
    rw [Nat.add_zero] at this
    rw [this]
    exact hv.1.2.2.1
  · have := (List.getElem?_eq_some_iff.mp hi).1
    rw [Nat.zero_add, hc (i + 1) (by omega)]
    exact hv.1.2.2.2 i t hi
theorem oF_seen {b L : Nat} (h : oF X b 3 L z) : ∃ N, b ≤ N ∧ N ≤ 310 ∧ z.1 26 = nI N ∧ oF X N 3 0 z ∧ ∀ j, j < N → dRow z 25 (32 * j) := by
  obtain ⟨h1, h2, h3, h4, h5, h6, h7⟩ := h
  obtain ⟨N, n1, n2, n3⟩ := h7 rfl
  exact ⟨N, n1.1, n1.2, n2, ⟨h1, h2, h3, fun e => by omega, fun e => by omega, fun e => by omega, fun _ => ⟨N, ⟨Nat.le_refl _, n1.2⟩, n2, n3⟩⟩, n3⟩
theorem oF_near {b L : Nat} (h : oF X b 2 L z) : ∃ N, b ≤ N ∧ N ≤ 1000 ∧ z.1 24 = nI N ∧ oF X N 2 0 z ∧ ∀ j, j < N → dRow z 23 (32 * j) := by
  obtain ⟨h1, h2, h3, h4, h5, h6, h7⟩ := h
  obtain ⟨N, n1, n2, n3⟩ := h6 rfl
  exact ⟨N, n1.1, n1.2, n2, ⟨h1, h2, h3, fun e => by omega, fun e => by omega, fun _ => ⟨N, ⟨Nat.le_refl _, n1.2⟩, n2, n3⟩, fun e => by omega⟩, n3⟩
theorem oF_targ {b L : Nat} (h : oF X b 1 L z) : ∃ N, b ≤ N ∧ N ≤ 1000 ∧ z.1 24 = nI N ∧ oF X N 1 0 z ∧ gTarg z ∧ ∀ j, j < N → dRow z 23 (32 * j) := by
  obtain ⟨h1, h2, h3, h4, h5, h6, h7⟩ := h
  obtain ⟨ht, N, n1, n2, n3⟩ := h5 rfl
  exact ⟨N, n1.1, n1.2, n2, ⟨h1, h2, h3, fun e => by omega, fun _ => ⟨ht, N, ⟨Nat.le_refl _, n1.2⟩, n2, n3⟩, fun e => by omega, fun e => by omega⟩, ht, n3⟩
theorem e_X13_simplify {x1 : Int32} {z : ow_MS} {Q : (Int32 × ow_MS) → Prop} (H : Tt (fun K k => q_X13_simplify K k 0 x1 0 0 0 z) Q) : Te (fun K => qe_X13_simplify K x1 z) Q := w_te H
theorem u_X13_simplify_0 {x1 : Int32} {x2 : Int32} {x3 : Int32} {x4 : Int32} {z : ow_MS} {Q : (Int32 × ow_MS) → Prop} (H : Tt (fun K k => qm_X13_simplify_0 K (q_X13_simplify K k) x1 x2 x3 x4 z) Q) : Tt (fun K k => q_X13_simplify K k 0 x1 x2 x3 x4 z) Q := w_un (fun _ _ => rfl) H
theorem u_X13_simplify_5 {x1 : Int32} {x2 : Int32} {x3 : Int32} {x4 : Int32} {z : ow_MS} {Q : (Int32 × ow_MS) → Prop} (H : Tt (fun K k => qm_X13_simplify_5 K (q_X13_simplify K k) x1 x2 x3 x4 z) Q) : Tt (fun K k => q_X13_simplify K k 5 x1 x2 x3 x4 z) Q := w_un (fun _ _ => rfl) H
theorem u_X13_simplify_2 {x1 : Int32} {x2 : Int32} {x3 : Int32} {x4 : Int32} {z : ow_MS} {Q : (Int32 × ow_MS) → Prop} (H : Tt (fun K k => qm_X13_simplify_2 K (q_X13_simplify K k) x1 x2 x3 x4 z) Q) : Tt (fun K k => q_X13_simplify K k 2 x1 x2 x3 x4 z) Q := w_un (fun _ _ => rfl) H
theorem u_X13_simplify_4 {x1 : Int32} {x2 : Int32} {x3 : Int32} {x4 : Int32} {z : ow_MS} {Q : (Int32 × ow_MS) → Prop} (H : Tt (fun K k => qm_X13_simplify_4 K (q_X13_simplify K k) x1 x2 x3 x4 z) Q) : Tt (fun K k => q_X13_simplify K k 4 x1 x2 x3 x4 z) Q := w_un (fun _ _ => rfl) H
theorem u_X13_simplify_3 {x1 : Int32} {x2 : Int32} {x3 : Int32} {x4 : Int32} {z : ow_MS} {Q : (Int32 × ow_MS) → Prop} (H : Tt (fun K k => qm_X13_simplify_3 K (q_X13_simplify K k) x1 x2 x3 x4 z) Q) : Tt (fun K k => q_X13_simplify K k 3 x1 x2 x3 x4 z) Q := w_un (fun _ _ => rfl) H
theorem u_X13_simplify_1 {x1 : Int32} {x2 : Int32} {x3 : Int32} {x4 : Int32} {z : ow_MS} {Q : (Int32 × ow_MS) → Prop} (H : Tt (fun K k => qm_X13_simplify_1 K (q_X13_simplify K k) x1 x2 x3 x4 z) Q) : Tt (fun K k => q_X13_simplify K k 1 x1 x2 x3 x4 z) Q := w_un (fun _ _ => rfl) H
theorem tp_simplify {d : Int32} (h : gI X z) : Te (fun K => qe_X13_simplify K d z) (fun r => gI X r.2) := by
  have h1 := gI_1 (c := 0) h
  refine e_X13_simplify ?_
  refine u_X13_simplify_0 ?_; unfold qm_X13_simplify_0
  refine w_wrF (w_has h1.2.1 (w_ifT rfl (w_fail h1)) (fun e A sg he hx hv hne => w_ifF (by decide) (w_free (w_ifT rfl (w_fail h1)) (fun f hf hfr => w_ifF (rn_neg1 (by omega)) ?_))))
  subst hx
  have hl := hv.1.1
  let J : Nat → ow_MS → Prop := fun N y => oF X N 3 0 y ∧ frD y ∧ y.1 26 = nI N ∧ N ≤ 310 ∧ ∀ j, j < N → dRow y 25 (32 * j)
  have c5 : ∀ (le at9 N : Nat) (y : ow_MS), J N y → le < N → Tt (fun K i => q_X13_simplify K i 5 (nI e) (nI le) (nI at9) 0 y) (fun r => gI X r.2) := by
    intro le at9 N y ⟨j1, j2, j3, j4, j5⟩ hlN
    refine u_X13_simplify_5 ?_; unfold qm_X13_simplify_5
    rw [show (32 : Int32) * nI le = nI (32 * le) from pk_mul 32 le]
    exact w_rdF j3 (w_le (b := 300) (by omega) (by omega) (fun _ => w_cs1 (tm_keepRow j1.1 j2 (by omega) ml25 (by omega) (by omega) (j5 le hlN)) (fun _ _ h8 => w_some h8.1)) (fun _ => w_some j1.1))
  have main : ∀ (k at9 le N : Nat) (y : ow_MS), at9 + k = 311 → J N y → le < N → Tt (fun K i => q_X13_simplify K i 2 (nI e) (nI le) (nI at9) 0 y) (fun r => gI X r.2) := by
    intro k
    induction k with
    | zero =>
      intro at9 le N y ha hj hlN
      have j4 := hj.2.2.2.1
      refine u_X13_simplify_2 ?_; unfold qm_X13_simplify_2
      exact w_rdF hj.2.2.1 (w_leT (by omega) (by omega) (c5 le at9 N y hj hlN))
    | succ k ih =>
      intro at9 le N y ha hj hlN
      obtain ⟨j1, j2, j3, j4, j5⟩ := hj
      have kinds : ∀ (j kd le2 N : Nat) (y : ow_MS), kd + j = 6 → J N y → le2 < N → at9 < N → Tt (fun K i => q_X13_simplify K i 4 (nI e) (nI le2) (nI at9) (nI kd) y) (fun r => gI X r.2) := by
        intro j
        induction j using Nat.strongRecOn with
        | ind j ihj =>
          intro kd le2 N y hkd hj hlN haN
          obtain ⟨j1, j2, j3, j4, j5⟩ := hj
          refine u_X13_simplify_4 ?_; unfold qm_X13_simplify_4
          refine w_le (a := 5) (by omega) (by omega) (fun h5 => ?_) (fun h5 => ?_)
          · rw [nI_1]
            exact ih (at9 + 1) le2 N y (by omega) ⟨j1, j2, j3, j4, j5⟩ hlN
          · obtain ⟨B, sg2, hw⟩ := j5 at9 haN
            rw [show (32 : Int32) * nI at9 = nI (32 * at9) from pk_mul 32 at9, show nI kd + 2 = nI (kd + 2) from nI_add kd 2]
            refine w_cs0 (to_unpack (by omega) ml25 (by omega) (by omega) hw) (fun y1 ⟨a1, a2, a3⟩ => w_cs0 (to_link hw a1 a2) (fun y2 ⟨b1, b2⟩ => ?_))
            have ho2 : oF X N 3 0 y2 := oF_3 b2 (fun g hg => by omega) (oF_3 a3 (fun g hg => by omega) j1)
            refine w_cs0 (tp_try pn1 (by omega) b1 ho2) (fun y3 ⟨⟨L2, _, k1⟩, k2⟩ => ?_)
            obtain ⟨N3, q1, q2, q3, q4, q5⟩ := oF_seen k1
            have e12 : y3.2.1 12 = y.2.1 12 := by rw [(k2 12 (by unfold frT; omega)).2.1, (b2 12 (by omega)).2.1, (a3 12 (by omega)).2.1]
            by_cases hkd4 : kd = 4
            · have := ihj 0 (by omega) 6 le2 N3 y3 (by omega) ⟨q4, frD_eq e12 j2, q3, q2, q5⟩ (by omega) (by omega)
              rw [hkd4]
              exact this
            · exact ihj (j - 2) (by omega) (kd + 2) le2 N3 y3 (by omega) ⟨q4, frD_eq e12 j2, q3, q2, q5⟩ (by omega) (by omega)
      refine u_X13_simplify_2 ?_; unfold qm_X13_simplify_2
      refine w_rdF j3 (w_le (by omega) (by omega) (fun _ => c5 le at9 N y ⟨j1, j2, j3, j4, j5⟩ hlN) (fun hat => w_rdF j3 (w_lt (a := 300) (by omega) (by omega) (fun _ => c5 le at9 N y ⟨j1, j2, j3, j4, j5⟩ hlN) (fun h300 => ?_))))
      obtain ⟨B, sg2, hw⟩ := j5 at9 hat
      obtain ⟨B2, sg3, hw2⟩ := j5 le hlN
      have hwl := hw.1.1
      have hwl2 := hw2.1.1
      rw [show (32 : Int32) * nI at9 = nI (32 * at9) from pk_mul 32 at9, show (32 : Int32) * nI le = nI (32 * le) from pk_mul 32 le]
      refine w_cs1 (tr_lesser ml25 ml25 (by omega) (by omega) (by omega) (by omega) hw.1 hw2.1) (fun a y9 e9 => ?_)
      cases e9
      refine w_if (fun _ => ?_) (fun _ => ?_)
      · refine u_X13_simplify_3 ?_; unfold qm_X13_simplify_3
        exact kinds 6 0 le N y (by omega) ⟨j1, j2, j3, j4, j5⟩ hlN hat
      · refine u_X13_simplify_3 ?_; unfold qm_X13_simplify_3
        exact kinds 6 0 at9 N y (by omega) ⟨j1, j2, j3, j4, j5⟩ hat hat
  have cp : ∀ (j k : Nat) (y : ow_MS), k + j = (tk sg A).length + 1 → fr (fun g => g = 25) (usF z 1 0) y → (∀ i, i < k → y.2.1 25 i = (usF z 1 0).2.1 12 (32 * e + i)) → Tt (fun K i => q_X13_simplify K i 1 (nI e) (nI k) 0 0 y) (fun r => gI X r.2) := by
    intro j
    induction j with
    | zero =>
      intro k y hk hf2 hc
      have e12 := (hf2 12 (by omega)).2.1
      refine u_X13_simplify_1 ?_; unfold qm_X13_simplify_1
      rw [show (32 : Int32) * nI e = nI (32 * e) from pk_mul 32 e]
      refine w_rdI ml12 rfl (by omega) (x := nI (tk sg A).length) (by rw [e12]; exact hv.1.2.2.1) (w_ltT (by omega) (by omega) (w_wrF (w_wrF ?_)))
      have f3 : fr (fun g => g = 25 ∨ g = 26 ∨ g = 30) (usF z 1 0) (usF (usF y 26 1) 30 3) := fr_F2 (fr_F2 (fr_mono (fun g hg => by omega) hf2) (by omega)) (by omega)
      have hr : ∀ j, j < 1 → dRow (usF (usF y 26 1) 30 3) 25 (32 * j) := fun j hj => by
        have : j = 0 := by omega
        subst this
        exact ⟨A, sg, cp_row hv (fun i hi => hc i (by omega))⟩
      have h26 : (usF (usF y 26 1) 30 3).1 26 = nI 1 := rf_ot (by omega) po_usF_at
      exact main 311 0 0 1 _ (by omega) ⟨⟨gI_fr f3 (fun g hg => by unfold per; omega) h1, po_usF_at, by omega, fun e => by omega, fun e => by omega, fun e => by omega, fun _ => ⟨1, ⟨Nat.le_refl _, by omega⟩, h26, hr⟩⟩, frD_eq e12 hfr, h26, by omega, hr⟩ (by omega)
    | succ j ih =>
      intro k y hk hf2 hc
      have e12 := (hf2 12 (by omega)).2.1
      refine u_X13_simplify_1 ?_; unfold qm_X13_simplify_1
      rw [show (32 : Int32) * nI e = nI (32 * e) from pk_mul 32 e, nI_add, nI_1]
      refine w_rdI ml12 rfl (by omega) (x := nI (tk sg A).length) (by rw [e12]; exact hv.1.2.2.1) (w_ltF (by omega) (by omega) (w_rdI ml12 rfl (by omega) (by rw [e12]) (w_wrI ml25 rfl (by omega) (ih (k + 1) _ (by omega) (fr_I2 hf2 rfl) (fun i hi => ?_)))))
      by_cases hik : i = k
      · rw [hik, po_usI_at]
      · exact rd_ne hik (hc i (by omega))
  exact cp ((tk sg A).length + 1) 0 (usF z 1 0) (by omega) fr_rf (fun i hi => by omega)
theorem u_X13_way_1 {x1 : Int32} {x2 : Int32} {x3 : Int32} {x4 : Int32} {x5 : Int32} {x6 : Int32} {t0 : Int32} {z : ow_MS} {Q : (Int32 × ow_MS) → Prop} (H : Tt (fun K k => qm_X13_way_1 K (q_X13_way K k) x1 x2 x3 x4 x5 x6 t0 z) Q) : Tt (fun K k => q_X13_way K k 1 x1 x2 x3 x4 x5 x6 t0 z) Q := w_un (fun _ _ => rfl) H
theorem u_X13_way_2 {x1 : Int32} {x2 : Int32} {x3 : Int32} {x4 : Int32} {x5 : Int32} {x6 : Int32} {t0 : Int32} {z : ow_MS} {Q : (Int32 × ow_MS) → Prop} (H : Tt (fun K k => qm_X13_way_2 K (q_X13_way K k) x1 x2 x3 x4 x5 x6 t0 z) Q) : Tt (fun K k => q_X13_way K k 2 x1 x2 x3 x4 x5 x6 t0 z) Q := w_un (fun _ _ => rfl) H
theorem e_X13_way {x1 : Int32} {x2 : Int32} {z : ow_MS} {Q : (Int32 × ow_MS) → Prop} (H : Tt (fun K k => q_X13_way K k 0 x1 x2 0 0 0 0 0 z) Q) : Te (fun K => qe_X13_way K x1 x2 z) Q := w_te H
theorem u_X13_way_0 {x1 : Int32} {x2 : Int32} {x3 : Int32} {x4 : Int32} {x5 : Int32} {x6 : Int32} {t0 : Int32} {z : ow_MS} {Q : (Int32 × ow_MS) → Prop} (H : Tt (fun K k => qm_X13_way_0 K (q_X13_way K k) x1 x2 x3 x4 x5 x6 t0 z) Q) : Tt (fun K k => q_X13_way K k 0 x1 x2 x3 x4 x5 x6 t0 z) Q := w_un (fun _ _ => rfl) H
theorem u_X13_way_9 {x1 : Int32} {x2 : Int32} {x3 : Int32} {x4 : Int32} {x5 : Int32} {x6 : Int32} {t0 : Int32} {z : ow_MS} {Q : (Int32 × ow_MS) → Prop} (H : Tt (fun K k => qm_X13_way_9 K (q_X13_way K k) x1 x2 x3 x4 x5 x6 t0 z) Q) : Tt (fun K k => q_X13_way K k 9 x1 x2 x3 x4 x5 x6 t0 z) Q := w_un (fun _ _ => rfl) H
theorem u_X13_way_6 {x1 : Int32} {x2 : Int32} {x3 : Int32} {x4 : Int32} {x5 : Int32} {x6 : Int32} {t0 : Int32} {z : ow_MS} {Q : (Int32 × ow_MS) → Prop} (H : Tt (fun K k => qm_X13_way_6 K (q_X13_way K k) x1 x2 x3 x4 x5 x6 t0 z) Q) : Tt (fun K k => q_X13_way K k 6 x1 x2 x3 x4 x5 x6 t0 z) Q := w_un (fun _ _ => rfl) H
theorem u_X13_way_7 {x1 : Int32} {x2 : Int32} {x3 : Int32} {x4 : Int32} {x5 : Int32} {x6 : Int32} {t0 : Int32} {z : ow_MS} {Q : (Int32 × ow_MS) → Prop} (H : Tt (fun K k => qm_X13_way_7 K (q_X13_way K k) x1 x2 x3 x4 x5 x6 t0 z) Q) : Tt (fun K k => q_X13_way K k 7 x1 x2 x3 x4 x5 x6 t0 z) Q := w_un (fun _ _ => rfl) H
theorem u_X13_way_8 {x1 : Int32} {x2 : Int32} {x3 : Int32} {x4 : Int32} {x5 : Int32} {x6 : Int32} {t0 : Int32} {z : ow_MS} {Q : (Int32 × ow_MS) → Prop} (H : Tt (fun K k => qm_X13_way_8 K (q_X13_way K k) x1 x2 x3 x4 x5 x6 t0 z) Q) : Tt (fun K k => q_X13_way K k 8 x1 x2 x3 x4 x5 x6 t0 z) Q := w_un (fun _ _ => rfl) H
theorem u_X13_way_5 {x1 : Int32} {x2 : Int32} {x3 : Int32} {x4 : Int32} {x5 : Int32} {x6 : Int32} {t0 : Int32} {z : ow_MS} {Q : (Int32 × ow_MS) → Prop} (H : Tt (fun K k => qm_X13_way_5 K (q_X13_way K k) x1 x2 x3 x4 x5 x6 t0 z) Q) : Tt (fun K k => q_X13_way K k 5 x1 x2 x3 x4 x5 x6 t0 z) Q := w_un (fun _ _ => rfl) H
theorem u_X13_way_4 {x1 : Int32} {x2 : Int32} {x3 : Int32} {x4 : Int32} {x5 : Int32} {x6 : Int32} {t0 : Int32} {z : ow_MS} {Q : (Int32 × ow_MS) → Prop} (H : Tt (fun K k => qm_X13_way_4 K (q_X13_way K k) x1 x2 x3 x4 x5 x6 t0 z) Q) : Tt (fun K k => q_X13_way K k 4 x1 x2 x3 x4 x5 x6 t0 z) Q := w_un (fun _ _ => rfl) H
theorem u_X13_way_3 {x1 : Int32} {x2 : Int32} {x3 : Int32} {x4 : Int32} {x5 : Int32} {x6 : Int32} {t0 : Int32} {z : ow_MS} {Q : (Int32 × ow_MS) → Prop} (H : Tt (fun K k => qm_X13_way_3 K (q_X13_way K k) x1 x2 x3 x4 x5 x6 t0 z) Q) : Tt (fun K k => q_X13_way K k 3 x1 x2 x3 x4 x5 x6 t0 z) Q := w_un (fun _ _ => rfl) H
theorem tp_way {d e : Int32} (h : gI X z) : Te (fun K => qe_X13_way K d e z) (fun r => gI X r.2) := by
  have h1 := gI_1 (c := 0) h
  have c1 : ∀ y, gI X y → Tt (fun K k => q_X13_way K k 1 d e 0 0 0 0 0 y) (fun r => gI X r.2) := by
    intro y hy
    refine u_X13_way_1 ?_; unfold qm_X13_way_1
    exact w_fail hy
  have c2 : ∀ y, gI X y → Tt (fun K k => q_X13_way K k 2 d e 0 0 0 0 0 y) (fun r => gI X r.2) := by
    intro y hy
    refine u_X13_way_2 ?_; unfold qm_X13_way_2
    exact w_fail hy
  refine e_X13_way ?_
  refine u_X13_way_0 ?_; unfold qm_X13_way_0
  refine w_wrF (w_has h1.2.1 (w_ifT rfl (c1 _ h1)) (fun d9 A sg hd9 hx hv hne => w_ifF (by decide) (w_has h1.2.1 (w_ifT rfl (c1 _ h1)) (fun e9 B sg2 he9 hy hw hne2 => w_ifF (by decide) ?_))))
  subst hx
  subst hy
  have l1 := hv.1.1
  have l2 := hw.1.1
  have v1 := vOf_le (tk sg A)
  have v2 := vOf_le (tk sg2 B)
  rw [show (32 : Int32) * nI d9 = nI (32 * d9) from pk_mul 32 d9, show (32 : Int32) * nI e9 = nI (32 * e9) from pk_mul 32 e9]
  refine w_cs1 (tr_visits ml12 (by omega) (by omega) hv.1) (fun a y ea => ?_)
  cases ea
  refine w_lt (a := 8) (by omega) (by omega) (fun _ => c2 _ h1) (fun _ => w_cs1 (tr_visits ml12 (by omega) (by omega) hw.1) (fun a y ea => ?_))
  cases ea
  refine w_le (b := 8) (by omega) (by omega) (fun _ => w_cs1 (tp_alike h1) (fun a y ⟨ia, _, ie⟩ => w_if (fun _ => ?_) (fun _ => w_some ia))) (fun _ => c2 _ h1)
  have ia : gI X y := ia
  have ie : y.2 = z.2 := ie
  have hvy : vRow y 12 (32 * d9) A sg := by
    refine ⟨⟨hv.1.1, hv.1.2.1, ?_, ?_⟩, hv.2⟩
    · rw [ie]; exact hv.1.2.2.1
    · rw [ie]; exact hv.1.2.2.2
  have hwy : vRow y 12 (32 * e9) B sg2 := by
    refine ⟨⟨hw.1.1, hw.1.2.1, ?_, ?_⟩, hw.2⟩
    · rw [ie]; exact hw.1.2.2.1
    · rw [ie]; exact hw.1.2.2.2
  -- the second ring: near diagrams moved
  have c9 : ∀ (x3 x4 : Int32) (y : ow_MS), gI X y → Tt (fun K i => q_X13_way K i 9 (nI d9) (nI e9) x3 x4 0 0 0 y) (fun r => gI X r.2) := by
    intro x3 x4 y hy
    refine u_X13_way_9 ?_; unfold qm_X13_way_9
    exact w_rdF rfl (w_if (fun _ => w_some hy) (fun _ => w_some hy))
  have l6 : ∀ (x3 : Int32) (k t N : Nat) (y : ow_MS), t + k = 1001 → oF X N 1 0 y → y.1 24 = nI N → N ≤ 1000 → (∀ j, j < N → dRow y 23 (32 * j)) → Tt (fun K i => q_X13_way K i 6 (nI d9) (nI e9) x3 (nI t) 0 0 0 y) (fun r => gI X r.2) := by
    intro x3 k
    induction k with
    | zero =>
      intro t N y ht ho h24 hN hR
      refine u_X13_way_6 ?_; unfold qm_X13_way_6
      exact w_rdF h24 (w_leT (by omega) (by omega) (c9 _ _ y ho.1))
    | succ k ih =>
      intro t N y ht ho h24 hN hR
      refine u_X13_way_6 ?_; unfold qm_X13_way_6
      refine w_rdF h24 (w_le (by omega) (by omega) (fun _ => c9 _ _ y ho.1) (fun htN => w_rdF rfl (w_if (fun _ => ?_) (fun _ => c9 _ _ y ho.1))))
      obtain ⟨D, sg3, hD⟩ := hR t htN
      have ld := hD.1.1
      have vd := vOf_le (tk sg3 D)
      rw [show (32 : Int32) * nI t = nI (32 * t) from pk_mul 32 t]
      refine w_cs1 (tr_visits ml23 (by omega) (by omega) hD.1) (fun a y9 ea => ?_)
      cases ea
      have c7 : ∀ (x5 t0 : Int32), Tt (fun K i => q_X13_way K i 7 (nI d9) (nI e9) x3 (nI t) x5 0 t0 y) (fun r => gI X r.2) := by
        intro x5 t0
        refine u_X13_way_7 ?_; unfold qm_X13_way_7
        rw [show (32 : Int32) * nI t = nI (32 * t) from pk_mul 32 t]
        refine w_if (fun _ => ?_) (fun _ => w_cs0 (to_unpack (by omega) ml23 (by omega) (by omega) hD) (fun y1 ⟨a1, a2, a3⟩ => w_cs0 (to_link hD a1 a2) (fun y2 ⟨b1, b2⟩ => ?_)))
        · refine u_X13_way_8 ?_; unfold qm_X13_way_8
          rw [nI_1]
          exact ih (t + 1) N y (by omega) ho h24 hN hR
        · have ho2 : oF X N 1 0 y2 := oF_3 b2 (fun g hg => by omega) (oF_3 a3 (fun g hg => by omega) ho)
          refine w_cs0 (tp_try pn1 (by omega) b1 ho2) (fun y3 ⟨⟨L2, _, k1⟩, k2⟩ => ?_)
          obtain ⟨N3, q1, q2, q3, q4, q5, q6⟩ := oF_targ k1
          refine u_X13_way_8 ?_; unfold qm_X13_way_8
          rw [nI_1]
          exact ih (t + 1) N3 y3 (by omega) q4 q3 q2 q6
      exact w_nzI (by decide) (w_if (fun _ => c7 _ _) (fun _ => w_if (fun _ => c7 _ _) (fun _ => w_if (fun _ => c7 _ _) (fun _ => w_if (fun _ => c7 _ _) (fun _ => w_if (fun _ => c7 _ _) (fun _ => c7 _ _))))))
  have l5 : ∀ (k t N : Nat) (T : List Nat) (y : ow_MS), t + k = N → oF X N 2 0 y → y.1 24 = nI N → N ≤ 1000 → rc_At y 28 0 T → (∀ j, j < N → dRow y 23 (32 * j)) → Tt (fun K i => q_X13_way K i 5 (nI d9) (nI e9) (nI t) 0 0 0 0 y) (fun r => gI X r.2) := by
    intro k
    induction k with
    | zero =>
      intro t N T y ht ho h24 hN hT hR
      have hTl := hT.1
      have hTv := vOf_le T
      refine u_X13_way_5 ?_; unfold qm_X13_way_5
      refine w_rdF h24 (w_leT (by omega) (by omega) (w_okZ (Or.inl rfl) (w_wrF (w_wrF ?_))))
      have f3 : fr (fun g => g = 29 ∨ g = 30) y (usF (usF y 29 0) 30 1) := fr_F2 (fr_F (Or.inl rfl)) (Or.inr rfl)
      have hT3 : rc_At (usF (usF y 29 0) 30 1) 28 0 T := rc_fr f3 (by omega) hT
      have hR3 : ∀ j, j < N → dRow (usF (usF y 29 0) 30 1) 23 (32 * j) := fun j hj => dRow_fr f3 (by omega) (hR j hj)
      have h243 : (usF (usF y 29 0) 30 1).1 24 = nI N := rf_ot (by omega) (rf_ot (by omega) h24)
      refine w_cs1 (tr_visits (o := 0) ml28 (by omega) (by omega) hT3) (fun a y9 ea => ?_)
      cases ea
      exact w_nzI (by decide) (l6 _ 1001 0 N _ (by omega) ⟨gI_fr f3 (fun g hg => by unfold per; omega) ho.1, po_usF_at, by omega, fun e => by omega, fun _ => ⟨⟨⟨T, hT3⟩, Or.inl (rf_ot (by omega) po_usF_at)⟩, N, ⟨Nat.le_refl _, hN⟩, h243, hR3⟩, fun e => by omega, fun e => by omega⟩ h243 hN hR3)
    | succ k ih =>
      intro t N T y ht ho h24 hN hT hR
      obtain ⟨D, sg3, hD⟩ := hR t (by omega)
      have ld := hD.1.1
      refine u_X13_way_5 ?_; unfold qm_X13_way_5
      rw [show (32 : Int32) * nI t = nI (32 * t) from pk_mul 32 t, nI_1]
      refine w_rdF h24 (w_leF (by omega) (by omega) (w_cs1 (tr_same (p := 0) ml23 ml28 (by omega) (by omega) (by omega) (by omega) hD.1 hT) (fun a y9 ea => ?_)))
      cases ea
      exact w_if (fun _ => ih (t + 1) N T y (by omega) ho h24 hN hT hR) (fun _ => w_some ho.1)
  have l4 : ∀ (k t N : Nat) (T : List Nat) (y : ow_MS), t + k = 5 → gI X y → gNear N y → vRow y 12 (32 * d9) A sg → rc_At y 28 0 T → (t = 0 ∨ y.1 30 = nI 2) → Tt (fun K i => q_X13_way K i 4 (nI d9) (nI e9) (nI t) 0 0 0 0 y) (fun r => gI X r.2) := by
    intro k
    induction k with
    | zero =>
      intro t N T y ht hI hNr hvy hT h30
      obtain ⟨N2, n1, n2, n3⟩ := hNr
      have e30 := h30.resolve_left (by omega)
      refine u_X13_way_4 ?_; unfold qm_X13_way_4
      exact w_leT (a := 5) (by omega) (by omega) (l5 N2 0 N2 T y (by omega) ⟨hI, e30, by omega, fun e => by omega, fun e => by omega, fun _ => ⟨N2, ⟨Nat.le_refl _, n1.2⟩, n2, n3⟩, fun e => by omega⟩ n2 n1.2 hT n3)
    | succ k ih =>
      intro t N T y ht hI hNr hvy hT h30
      refine u_X13_way_4 ?_; unfold qm_X13_way_4
      rw [nI_1]
      refine w_leF (a := 5) (by omega) (by omega) (w_cs0 (to_open pn1 hd9 hvy) (fun y1 ⟨o1, f1⟩ => w_wrF ?_))
      have f2 : fr (fun g => g = 30) y1 (usF y1 30 2) := fr_F rfl
      have hI2 : gI X (usF y1 30 2) := gI_fr f2 (fun g hg => by rw [hg]; decide) (gI_net pn1 f1 (fun g hg => by omega) hI)
      have ho : oF X N 2 0 (usF y1 30 2) := ⟨hI2, po_usF_at, by omega, fun e => by omega, fun e => by omega, fun _ => gNear_fr f2 (by omega) (by omega) (gNear_fr f1 (by omega) (by omega) hNr), fun e => by omega⟩
      refine w_cs0 (tp_try pn1 (by omega) (oNet_fr f2 (fun g hg => by omega) o1) ho) (fun y3 ⟨⟨L2, _, k1⟩, k2⟩ => ?_)
      obtain ⟨N3, q1, q2, q3, q4, q5⟩ := oF_near k1
      refine ih (t + 1) N3 T y3 (by omega) q4.1 ⟨N3, ⟨Nat.le_refl _, q2⟩, q3, q5⟩ ⟨rc_fr k2 (by unfold frT; omega) (rc_fr f2 (by omega) (rc_fr f1 (by omega) hvy.1)), hvy.2⟩ (rc_fr k2 (by unfold frT; omega) (rc_fr f2 (by omega) (rc_fr f1 (by omega) hT))) (Or.inr q4.2.1)
  have cp : ∀ (j k : Nat) (y2 : ow_MS), k + j = (tk sg2 B).length + 1 → fr (fun g => g = 28) y y2 → (∀ i, i < k → y2.2.1 28 i = y.2.1 12 (32 * e9 + i)) → Tt (fun K i => q_X13_way K i 3 (nI d9) (nI e9) (nI k) 0 0 0 0 y2) (fun r => gI X r.2) := by
    intro j
    induction j with
    | zero =>
      intro k y2 hk hf2 hc
      have e12 := (hf2 12 (by omega)).2.1
      refine u_X13_way_3 ?_; unfold qm_X13_way_3
      rw [show (32 : Int32) * nI e9 = nI (32 * e9) from pk_mul 32 e9]
      refine w_rdI ml12 rfl (by omega) (x := nI (tk sg2 B).length) (by rw [e12]; exact hwy.1.2.2.1) (w_ltT (by omega) (by omega) (w_wrF ?_))
      have f3 : fr (fun g => g = 24 ∨ g = 28) y (usF y2 24 0) := fr_F2 (fr_mono (fun g hg => Or.inr hg) hf2) (Or.inl rfl)
      have hT : rc_At (usF y2 24 0) 28 0 (tk sg2 B) := (cp_row hwy (fun i hi => hc i (by omega)) : vRow y2 28 0 B sg2).1
      exact l4 5 0 0 (tk sg2 B) _ (by omega) (gI_fr f3 (fun g hg => by unfold per; omega) ia) ⟨0, ⟨Nat.le_refl _, by omega⟩, po_usF_at, fun j hj => by omega⟩ ⟨rc_fr f3 (by omega) hvy.1, hvy.2⟩ hT (Or.inl rfl)
    | succ j ih =>
      intro k y2 hk hf2 hc
      have e12 := (hf2 12 (by omega)).2.1
      refine u_X13_way_3 ?_; unfold qm_X13_way_3
      rw [show (32 : Int32) * nI e9 = nI (32 * e9) from pk_mul 32 e9, nI_add, nI_1]
      refine w_rdI ml12 rfl (by omega) (x := nI (tk sg2 B).length) (by rw [e12]; exact hwy.1.2.2.1) (w_ltF (by omega) (by omega) (w_rdI ml12 rfl (by omega) (by rw [e12]) (w_wrI ml28 rfl (by omega) (ih (k + 1) _ (by omega) (fr_I2 hf2 rfl) (fun i hi => ?_)))))
      by_cases hik : i = k
      · rw [hik, po_usI_at]
      · exact rd_ne hik (hc i (by omega))
  exact cp ((tk sg2 B).length + 1) 0 y (by omega) fr_rf (fun i hi => by omega)
end MV5
