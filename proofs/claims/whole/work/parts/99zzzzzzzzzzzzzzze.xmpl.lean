/-! maps: both sides answer the same -/
section XML
def gBS (m : Nat) : Bool := (List.range (thM m)).all (fun y => (List.range (thM m)).any (fun x => decide (bjM m x = y)))
theorem bs_c : ∀ m : Fin 5, 1 ≤ m.val → gBS m.val = true := by decide +kernel
theorem bs_n {m y : Nat} (h1 : 1 ≤ m) (h4 : m ≤ 4) (hy : y < thM m) : ∃ x, x < thM m ∧ bjM m x = y := by
  have k := List.all_eq_true.mp (bs_c ⟨m, by omega⟩ h1) y (List.mem_range.mpr hy)
  obtain ⟨x, x1, x2⟩ := List.any_eq_true.mp k
  exact ⟨x, List.mem_range.mp x1, of_decide_eq_true x2⟩
/-- the numbers of the class's permutations for those of the reference -/
theorem cl_bj {m c N : Nat} {S : ow_NP} {sg : Nat → Bool} (hv : vn c S) (h1 : 1 ≤ m) (h4 : m ≤ 4) (h : cnt9 (cl9 (thM m) (fun x o i => opM m (sg x) o i) c S (fun _ => true)) N) : cnt9 (cl9 (thM m) (fun x o i => cjS (sg x) o i) c S (fun _ => true)) N := by
  have op : ∀ (s : Bool) (o i : Nat), o < thM m → i < thM m → cjS s (bjM m o) (bjM m i) = bjM m (opM m s o i) := fun s o i ho hi => by
    obtain ⟨-, b2, b3, -⟩ := bt_n h1 h4 ho hi
    cases s
    · exact b2
    · exact b3
  obtain ⟨k, hk⟩ : ∃ k : Nat → Nat, ∀ y, y < thM m → k y < thM m ∧ bjM m (k y) = y := by
    refine Classical.axiomOfChoice (r := fun y x => y < thM m → x < thM m ∧ bjM m x = y) (fun y => ?_)
    by_cases hy : y < thM m
    · obtain ⟨x, x1, x2⟩ := bs_n h1 h4 hy
      exact ⟨x, fun _ => ⟨x1, x2⟩⟩
    · exact ⟨0, fun h9 => absurd h9 hy⟩
  have sur : ∀ H, cl9 (thM m) (fun x o i => cjS (sg x) o i) c S (fun _ => true) H → cl9 (thM m) (fun x o i => opM m (sg x) o i) c S (fun _ => true) (tb9 (2 * c) (fun w => k (at9 H w))) ∧ tb9 (2 * c) (fun w => bjM m (at9 (tb9 (2 * c) (fun w => k (at9 H w))) w)) = H := by
    intro H hH
    have w1 : ∀ w, w < 2 * c → at9 (tb9 (2 * c) (fun w => k (at9 H w))) w < thM m ∧ ((fun _ : Nat => true) w = false → at9 (tb9 (2 * c) (fun w => k (at9 H w))) w = 0) := fun w hw => by
      rw [tb9_at hw]
      exact ⟨(hk _ (hH.2.1 w hw).1).1, fun h9 => by cases h9⟩
    have w2 : ∀ x, x < c → (fun _ : Nat => true) (2 * x) = true → at9 (tb9 (2 * c) (fun w => k (at9 H w))) (2 * x) = at9 (tb9 (2 * c) (fun w => k (at9 H w))) (S.2 (2 * x)) ∧ at9 (tb9 (2 * c) (fun w => k (at9 H w))) (2 * x + 1) = opM m (sg x) (at9 (tb9 (2 * c) (fun w => k (at9 H w))) (2 * x)) (at9 (tb9 (2 * c) (fun w => k (at9 H w))) (S.2 (2 * x + 1))) := fun x hx _ => by
      have s0 := (hv (2 * x) (by omega)).2.1
      have s1 := (hv (2 * x + 1) (by omega)).2.1
      obtain ⟨e1, e2⟩ := hH.2.2 x hx rfl
      have q0 := hk _ (hH.2.1 (2 * x) (by omega)).1
      have q1 := hk _ (hH.2.1 (2 * x + 1) (by omega)).1
      have q2 := hk _ (hH.2.1 _ s1).1
      rw [tb9_at (show 2 * x < 2 * c by omega), tb9_at s0, tb9_at (show 2 * x + 1 < 2 * c by omega), tb9_at s1]
      refine ⟨by rw [e1], ?_⟩
      have ol := (ib_n h1 h4 q0.1 q2.1 (sg x)).2
      refine (bt_n h1 h4 q1.1 ol).2.2.2.mp ?_
      have := op (sg x) _ _ q0.1 q2.1
      rw [q0.2, q2.2] at this
      rw [q1.2, ← this]
      exact e2
    refine ⟨⟨tb9_len, w1, w2⟩, at9_ext tb9_len hH.1 (fun w hw => ?_)⟩
    rw [tb9_at hw, tb9_at hw]
    exact (hk _ (hH.2.1 w hw).1).2
  refine cnt_bij (fun L => tb9 (2 * c) (fun w => bjM m (at9 L w))) (fun L hL => ?_) (fun L M hL hM e => ?_) (fun H hH => ⟨_, sur H hH⟩) h
  · have w1 : ∀ w, w < 2 * c → at9 (tb9 (2 * c) (fun w => bjM m (at9 L w))) w < thM m ∧ ((fun _ : Nat => true) w = false → at9 (tb9 (2 * c) (fun w => bjM m (at9 L w))) w = 0) := fun w hw => by
      rw [tb9_at hw]
      have q := (hL.2.1 w hw).1
      exact ⟨(bt_n h1 h4 q q).1, fun h9 => by cases h9⟩
    have w2 : ∀ x, x < c → (fun _ : Nat => true) (2 * x) = true → at9 (tb9 (2 * c) (fun w => bjM m (at9 L w))) (2 * x) = at9 (tb9 (2 * c) (fun w => bjM m (at9 L w))) (S.2 (2 * x)) ∧ at9 (tb9 (2 * c) (fun w => bjM m (at9 L w))) (2 * x + 1) = cjS (sg x) (at9 (tb9 (2 * c) (fun w => bjM m (at9 L w))) (2 * x)) (at9 (tb9 (2 * c) (fun w => bjM m (at9 L w))) (S.2 (2 * x + 1))) := fun x hx _ => by
      have s0 := (hv (2 * x) (by omega)).2.1
      have s1 := (hv (2 * x + 1) (by omega)).2.1
      obtain ⟨e1, e2⟩ := hL.2.2 x hx rfl
      rw [tb9_at (show 2 * x < 2 * c by omega), tb9_at s0, tb9_at (show 2 * x + 1 < 2 * c by omega), tb9_at s1]
      refine ⟨by rw [e1], ?_⟩
      rw [e2]
      exact (op (sg x) _ _ (hL.2.1 _ (by omega)).1 (hL.2.1 _ s1).1).symm
    exact ⟨tb9_len, w1, w2⟩
  · refine at9_ext hL.1 hM.1 (fun w hw => ?_)
    have e4 : at9 (tb9 (2 * c) (fun w => bjM m (at9 L w))) w = at9 (tb9 (2 * c) (fun w => bjM m (at9 M w))) w := congrArg (fun H => at9 H w) e
    rw [tb9_at hw, tb9_at hw] at e4
    exact (bt_n h1 h4 (hL.2.1 w hw).1 (hM.2.1 w hw).1).2.2.2.mp e4
theorem mA_mC {A : rn_L} {sg : Nat → Bool} {m : Nat} {v v' : Int32} (h1 : 1 ≤ m) (h4 : m ≤ 4) (h : mA9 A sg m v) (h' : mC9 A sg m v') : v = v' := by
  obtain ⟨c, S, G, N, hJ, e, hN⟩ := h'
  obtain ⟨hA, hi, hv, hG⟩ := hJ
  obtain ⟨N', hN', e'⟩ := mA_cl hi hv h
  rw [e, e', cnt_uni (cl_bj hv h1 h4 hN') hN]
variable {X : (Nat → Nat → Int32) → Prop} {z y : ow_MS} {vl : Nat → Nat} {x x' : Int32}
theorem c_maps (hX : ∀ W, X W → XM W) (h : rel3 X z y) (hp : mpC y) (hst : stP y) (hz : epA z) (hy : cjT y) : Te (fun K => qe_X13_maps K x x' z) (fun rr => Te (fun K => ce_X11_maps vl K 0 x x' y) (fun rc => (rel3 X rr.2 rc.2.2 ∧ ansI [(1, 1), (2, 2), (3, 4)] rr rc) ∧ mpC rc.2.2 ∧ stP rc.2.2 ∧ fr mxQ y rc.2.2)) := by
  obtain ⟨⟨St, k⟩, hM, h2⟩ := id h
  refine te_two (te_and (te_fo (tp_maps (d := x) (k := x') hX k.1) (fun K => ff_X13_maps)) (xq_maps k.1 k.2.2.1 hz)) (te_and (tc_maps (x := x) (x' := x') hM hp hst) (xc_maps hM k.2.2.2.1 k.2.2.2.2 hy hp)) (fun rr rc ⟨⟨hgI, fR⟩, hr⟩ ⟨⟨hG, hp2, hs2, _⟩, hf, hc⟩ => ?_)
  have hC : relC rc.2.2 St := relC_fr hf (fun q hq h9 => by unfold cW at hq; unfold mxQ at h9; omega) k.2.2.2.1
  have h2' : rel2 rr.2 rc.2.2 := by
    obtain ⟨k1, k2, k3, ⟨Ns, q1, q2, q3⟩, Ms, q4, q5, q6⟩ := h2
    exact ⟨relT_k fR hf (by decide) (by unfold mxQ; omega) k1, relB_k fR hf (by decide) (by unfold mxQ; omega) k2, brC_fr hf (by unfold mxQ; omega) k3, ⟨Ns, rlR_k fR (by decide) q1, rlC_k hf (fun q hq => by unfold cV at hq; unfold mxQ; omega) q2, q3⟩, Ms, rlR_k fR (by decide) q4, rlC_k hf (fun q hq => by unfold cV at hq; unfold mxQ; omega) q5, q6⟩
  have fin : ansI [(1, 1), (2, 2), (3, 4)] rr rc → ((rel3 X rr.2 rc.2.2 ∧ ansI [(1, 1), (2, 2), (3, 4)] rr rc) ∧ mpC rc.2.2 ∧ stP rc.2.2 ∧ fr mxQ y rc.2.2) := fun ha => ⟨⟨⟨⟨St, hgI, hG.1, relR_fr fR (by decide) k.2.2.1, hC, k.2.2.2.2⟩, hG, h2'⟩, ha⟩, hp2, hs2, hf⟩
  rcases hr with ⟨r1, r2⟩ | ⟨e, A, sg, he, rfl, hSt, hr⟩
  · rcases hc with ⟨c1, -⟩ | ⟨d, A, sg, hd, hx, hSt, -⟩
    · exact fin (Or.inr ⟨1, 1, by simp, r1, c1⟩)
    · rw [r2 d hd hx] at hSt
      cases hSt
  · rcases hc with ⟨-, c2⟩ | ⟨d, A', sg', hd, hx, hSt', hc⟩
    · rw [c2 e he rfl] at hSt
      cases hSt
    · have ed := nI_inj9 (a := e) (b := d) (by omega) (by omega) hx
      subst ed
      rw [hSt] at hSt'
      cases hSt'
      rcases hr with ⟨r1, r2⟩ | ⟨⟨r1, r2⟩, hr⟩
      · rcases hc with ⟨c1, -⟩ | ⟨⟨c1, c2⟩, -⟩
        · exact fin (Or.inr ⟨2, 2, by simp, r1, c1⟩)
        · exact absurd r2 (fun h9 => h9.elim c1 (fun h8 => h8 c2))
      · rcases hc with ⟨-, c1⟩ | ⟨-, hc⟩
        · exact absurd c1 (fun h9 => h9.elim r1 (fun h8 => h8 r2))
        · rcases hr with ⟨a1, a2⟩ | ⟨a1, a2, a3, a4⟩
          · rcases hc with ⟨b1, -⟩ | ⟨-, b2, b3, -⟩
            · exact fin (Or.inr ⟨3, 4, by simp, a1, b1⟩)
            · omega
          · rcases hc with ⟨-, b2⟩ | ⟨b1, -, -, b4⟩
            · omega
            · obtain ⟨m, m31, em⟩ := nI_of (x := x') (fun h9 => r1 (by
                rw [Int32.lt_iff_toInt_lt] at h9 ⊢
                exact Int.lt_trans h9 (by decide)))
              rw [em] at r1 r2
              have hm4 : m ≤ 4 := (nI_leI m31 (by omega)).mp r2
              have hm1 : 1 ≤ m := by
                rcases Nat.eq_zero_or_pos m with h9 | h9
                · exact absurd (show nI m < 1 by rw [h9]; decide) r1
                · exact h9
              exact fin (Or.inl ⟨a1, b1, mA_mC hm1 hm4 (a4 m hm1 hm4 em) (b4 m hm1 hm4 em)⟩)
end XML
