section
/-! 99zzzzzzzzzzzzzzze.xmpl -/
/-! maps: both sides answer the same -/
section XML
def gBS (m : Nat) : Bool := (List.range (thM m)).all (fun y => (List.range (thM m)).any (fun x => decide (bjM m x = y)))
theorem bs_c : ∀ m : Fin 5, 1 ≤ m.val → gBS m.val = true := by decide +kernel
theorem bs_n {m y : Nat} (h1 : 1 ≤ m) (h4 : m ≤ 4) (hy : y < thM m) : ∃ x, x < thM m ∧ bjM m x = y := by
  have k := List.all_eq_true.mp (bs_c ⟨m, by omega⟩ h1) y (List.mem_range.mpr hy)
  obtain ⟨x, x1, x2⟩ := List.any_eq_true.mp k
  exact ⟨x, List.mem_range.mp x1, of_decide_eq_true x2⟩
/-- the numbers of the class's permutations for those of the reference -/
theorem cl_bj {m c N : Nat} {S : ow_NP} {sg : Nat → Bool} (hv : vn c S) (h1 : 1 ≤ m) (h4 : m ≤ 4) (h : cnt9 (cl9 (thM m) (fun x o i => opM m (sg x) o i) c S (fun _ => true)) N) : cnt9 (cl9 (thM m) (fun x o i => cjS (sg x) o i) c S (fun _ => true)) N := by
  have op : ∀ (s : Bool) (o i : Nat), o < thM m → i < thM m → cjS s (bjM m o) (bjM m i) = bjM m (opM m s o i) := fun s o i ho hi => by
    obtain ⟨-, b2, b3, -⟩ := bt_n h1 h4 ho hi
    cases s
    · exact b2
    · exact b3
  obtain ⟨k, hk⟩ : ∃ k : Nat → Nat, ∀ y, y < thM m → k y < thM m ∧ bjM m (k y) = y := by
    refine Classical.axiomOfChoice (r := fun y x => y < thM m → x < thM m ∧ bjM m x = y) (fun y => ?_)
    by_cases hy : y < thM m
    · obtain ⟨x, x1, x2⟩ := bs_n h1 h4 hy
      exact ⟨x, fun _ => ⟨x1, x2⟩⟩
    · exact ⟨0, fun h9 => absurd h9 hy⟩
  have sur : ∀ H, cl9 (thM m) (fun x o i => cjS (sg x) o i) c S (fun _ => true) H → cl9 (thM m) (fun x o i => opM m (sg x) o i) c S (fun _ => true) (tb9 (2 * c) (fun w => k (at9 H w))) ∧ tb9 (2 * c) (fun w => bjM m (at9 (tb9 (2 * c) (fun w => k (at9 H w))) w)) = H := by
    intro H hH
    have w1 : ∀ w, w < 2 * c → at9 (tb9 (2 * c) (fun w => k (at9 H w))) w < thM m ∧ ((fun _ : Nat => true) w = false → at9 (tb9 (2 * c) (fun w => k (at9 H w))) w = 0) := fun w hw => by
      rw [tb9_at hw]
      exact ⟨(hk _ (hH.2.1 w hw).1).1, fun h9 => by cases h9⟩
    have w2 : ∀ x, x < c → (fun _ : Nat => true) (2 * x) = true → at9 (tb9 (2 * c) (fun w => k (at9 H w))) (2 * x) = at9 (tb9 (2 * c) (fun w => k (at9 H w))) (S.2 (2 * x)) ∧ at9 (tb9 (2 * c) (fun w => k (at9 H w))) (2 * x + 1) = opM m (sg x) (at9 (tb9 (2 * c) (fun w => k (at9 H w))) (2 * x)) (at9 (tb9 (2 * c) (fun w => k (at9 H w))) (S.2 (2 * x + 1))) := fun x hx _ => by
      have s0 := (hv (2 * x) (by omega)).2.1
      have s1 := (hv (2 * x + 1) (by omega)).2.1
      obtain ⟨e1, e2⟩ := hH.2.2 x hx rfl
      have q0 := hk _ (hH.2.1 (2 * x) (by omega)).1
      have q1 := hk _ (hH.2.1 (2 * x + 1) (by omega)).1
      have q2 := hk _ (hH.2.1 _ s1).1
      rw [tb9_at (show 2 * x < 2 * c by omega), tb9_at s0, tb9_at (show 2 * x + 1 < 2 * c by omega), tb9_at s1]
      refine ⟨by rw [e1], ?_⟩
      have ol := (ib_n h1 h4 q0.1 q2.1 (sg x)).2
      refine (bt_n h1 h4 q1.1 ol).2.2.2.mp ?_
      have := op (sg x) _ _ q0.1 q2.1
      rw [q0.2, q2.2] at this
      rw [q1.2, ← this]
      exact e2
    refine ⟨⟨tb9_len, w1, w2⟩, at9_ext tb9_len hH.1 (fun w hw => ?_)⟩
    rw [tb9_at hw, tb9_at hw]
    exact (hk _ (hH.2.1 w hw).1).2
  refine cnt_bij (fun L => tb9 (2 * c) (fun w => bjM m (at9 L w))) (fun L hL => ?_) (fun L M hL hM e => ?_) (fun H hH => ⟨_, sur H hH⟩) h
  · have w1 : ∀ w, w < 2 * c → at9 (tb9 (2 * c) (fun w => bjM m (at9 L w))) w < thM m ∧ ((fun _ : Nat => true) w = false → at9 (tb9 (2 * c) (fun w => bjM m (at9 L w))) w = 0) := fun w hw => by
      rw [tb9_at hw]
      have q := (hL.2.1 w hw).1
      exact ⟨(bt_n h1 h4 q q).1, fun h9 => by cases h9⟩
    have w2 : ∀ x, x < c → (fun _ : Nat => true) (2 * x) = true → at9 (tb9 (2 * c) (fun w => bjM m (at9 L w))) (2 * x) = at9 (tb9 (2 * c) (fun w => bjM m (at9 L w))) (S.2 (2 * x)) ∧ at9 (tb9 (2 * c) (fun w => bjM m (at9 L w))) (2 * x + 1) = cjS (sg x) (at9 (tb9 (2 * c) (fun w => bjM m (at9 L w))) (2 * x)) (at9 (tb9 (2 * c) (fun w => bjM m (at9 L w))) (S.2 (2 * x + 1))) := fun x hx _ => by
      have s0 := (hv (2 * x) (by omega)).2.1
      have s1 := (hv (2 * x + 1) (by omega)).2.1
      obtain ⟨e1, e2⟩ := hL.2.2 x hx rfl
      rw [tb9_at (show 2 * x < 2 * c by omega), tb9_at s0, tb9_at (show 2 * x + 1 < 2 * c by omega), tb9_at s1]
      refine ⟨by rw [e1], ?_⟩
      rw [e2]
      exact (op (sg x) _ _ (hL.2.1 _ (by omega)).1 (hL.2.1 _ s1).1).symm
    exact ⟨tb9_len, w1, w2⟩
  · refine at9_ext hL.1 hM.1 (fun w hw => ?_)
    have e4 : at9 (tb9 (2 * c) (fun w => bjM m (at9 L w))) w = at9 (tb9 (2 * c) (fun w => bjM m (at9 M w))) w := congrArg (fun H => at9 H w) e
    rw [tb9_at hw, tb9_at hw] at e4
    exact (bt_n h1 h4 (hL.2.1 w hw).1 (hM.2.1 w hw).1).2.2.2.mp e4
theorem mA_mC {A : rn_L} {sg : Nat → Bool} {m : Nat} {v v' : Int32} (h1 : 1 ≤ m) (h4 : m ≤ 4) (h : mA9 A sg m v) (h' : mC9 A sg m v') : v = v' := by
  obtain ⟨c, S, G, N, hJ, e, hN⟩ := h'
  obtain ⟨hA, hi, hv, hG⟩ := hJ
  obtain ⟨N', hN', e'⟩ := mA_cl hi hv h
  rw [e, e', cnt_uni (cl_bj hv h1 h4 hN') hN]
variable {X : (Nat → Nat → Int32) → Prop} {z y : ow_MS} {vl : Nat → Nat} {x x' : Int32}
theorem c_maps (hX : ∀ W, X W → XM W) (h : rel3 X z y) (hp : mpC y) (hst : stP y) (hz : epA z) (hy : cjT y) : Te (fun K => qe_X13_maps K x x' z) (fun rr => Te (fun K => ce_X11_maps vl K 0 x x' y) (fun rc => (rel3 X rr.2 rc.2.2 ∧ ansI [(1, 1), (2, 2), (3, 4)] rr rc) ∧ mpC rc.2.2 ∧ stP rc.2.2 ∧ fr mxQ y rc.2.2)) := by
  obtain ⟨⟨St, k⟩, hM, h2⟩ := id h
  refine te_two (te_and (te_fo (tp_maps (d := x) (k := x') hX k.1) (fun K => ff_X13_maps)) (xq_maps k.1 k.2.2.1 hz)) (te_and (tc_maps (x := x) (x' := x') hM hp hst) (xc_maps hM k.2.2.2.1 k.2.2.2.2 hy hp)) (fun rr rc ⟨⟨hgI, fR⟩, hr⟩ ⟨⟨hG, hp2, hs2, _⟩, hf, hc⟩ => ?_)
  have hC : relC rc.2.2 St := relC_fr hf (fun q hq h9 => by unfold cW at hq; unfold mxQ at h9; omega) k.2.2.2.1
  have h2' : rel2 rr.2 rc.2.2 := by
    obtain ⟨k1, k2, k3, ⟨Ns, q1, q2, q3⟩, Ms, q4, q5, q6⟩ := h2
    exact ⟨relT_k fR hf (by decide) (by unfold mxQ; omega) k1, relB_k fR hf (by decide) (by unfold mxQ; omega) k2, brC_fr hf (by unfold mxQ; omega) k3, ⟨Ns, rlR_k fR (by decide) q1, rlC_k hf (fun q hq => by unfold cV at hq; unfold mxQ; omega) q2, q3⟩, Ms, rlR_k fR (by decide) q4, rlC_k hf (fun q hq => by unfold cV at hq; unfold mxQ; omega) q5, q6⟩
  have fin : ansI [(1, 1), (2, 2), (3, 4)] rr rc → ((rel3 X rr.2 rc.2.2 ∧ ansI [(1, 1), (2, 2), (3, 4)] rr rc) ∧ mpC rc.2.2 ∧ stP rc.2.2 ∧ fr mxQ y rc.2.2) := fun ha => ⟨⟨⟨⟨St, hgI, hG.1, relR_fr fR (by decide) k.2.2.1, hC, k.2.2.2.2⟩, hG, h2'⟩, ha⟩, hp2, hs2, hf⟩
  rcases hr with ⟨r1, r2⟩ | ⟨e, A, sg, he, rfl, hSt, hr⟩
  · rcases hc with ⟨c1, -⟩ | ⟨d, A, sg, hd, hx, hSt, -⟩
    · exact fin (Or.inr ⟨1, 1, by simp, r1, c1⟩)
    · rw [r2 d hd hx] at hSt
      cases hSt
  · rcases hc with ⟨-, c2⟩ | ⟨d, A', sg', hd, hx, hSt', hc⟩
    · rw [c2 e he rfl] at hSt
      cases hSt
    · have ed := nI_inj9 (a := e) (b := d) (by omega) (by omega) hx
      subst ed
      rw [hSt] at hSt'
      cases hSt'
      rcases hr with ⟨r1, r2⟩ | ⟨⟨r1, r2⟩, hr⟩
      · rcases hc with ⟨c1, -⟩ | ⟨⟨c1, c2⟩, -⟩
        · exact fin (Or.inr ⟨2, 2, by simp, r1, c1⟩)
        · exact absurd r2 (fun h9 => h9.elim c1 (fun h8 => h8 c2))
      · rcases hc with ⟨-, c1⟩ | ⟨-, hc⟩
        · exact absurd c1 (fun h9 => h9.elim r1 (fun h8 => h8 r2))
        · rcases hr with ⟨a1, a2⟩ | ⟨a1, a2, a3, a4⟩
          · rcases hc with ⟨b1, -⟩ | ⟨-, b2, b3, -⟩
            · exact fin (Or.inr ⟨3, 4, by simp, a1, b1⟩)
            · omega
          · rcases hc with ⟨-, b2⟩ | ⟨b1, -, -, b4⟩
            · omega
            · obtain ⟨m, m31, em⟩ := nI_of (x := x') (fun h9 => r1 (by
                rw [Int32.lt_iff_toInt_lt] at h9 ⊢
                exact Int.lt_trans h9 (by decide)))
              rw [em] at r1 r2
              have hm4 : m ≤ 4 := (nI_leI m31 (by omega)).mp r2
              have hm1 : 1 ≤ m := by
                rcases Nat.eq_zero_or_pos m with h9 | h9
                · exact absurd (show nI m < 1 by rw [h9]; decide) r1
                · exact h9
              exact fin (Or.inl ⟨a1, b1, mA_mC hm1 hm4 (a4 m hm1 hm4 em) (b4 m hm1 hm4 em)⟩)
end XML
end
section
/-! 99zzzzzzzzzzzzzzzf.xst9 -/
/-! maps is a step of the law; what is left of the whole: eight cases -/
section XSE
variable {vl : Nat → Nat} {y : ow_MS}
theorem CI_mx {y1 : ow_MS} (hf : fr mxQ y y1) (h4 : mpC y1) (h5 : stP y1) (h : CI vl y) : CI vl y1 := by
  obtain ⟨i1, ⟨C, c1, c2, c3⟩, i3, -, -, i6, i7, i8⟩ := h
  have no : ∀ g, 4012 ≤ g ∧ g ≤ 41000 ∨ 41017 ≤ g → ¬ mxQ g := fun g hg h9 => by unfold mxQ at h9; omega
  refine ⟨knC_fr hf (fun g hg h9 => by unfold mxQ at hg; omega) i1, ⟨C, slC_fr hf (fun q hq => no q (by unfold cW at hq; omega)) c1, c2, c3.imp id (fun ⟨A, sg, c, e, hT⟩ => ⟨A, sg, c, e, jnT_fr hf ⟨no _ (by omega), no _ (by omega), no _ (by omega)⟩ hT⟩)⟩, bnC_fr hf (fun m hm => no _ (by omega)) i3, h4, h5, fun m hm => ?_, fun i k hi hk => ?_, i8⟩
  · rw [(hf 43005 (no _ (by omega))).2.1]
    exact i6 m hm
  · rw [(hf (45001 + i) (no _ (by omega))).2.1]
    exact i7 i k hi hk
variable {Pc Pr : ow_MS → Prop}
theorem s3_maps (hc : keepP ciX Pc) (hk : ∀ y, Pc y → cjT y) (hp : ∀ y y1, fr mxQ y y1 → Pc y → Pc y1) (hz : ∀ z, Pr z → epA z) (hq : ∀ z z1, fr (pf [1, 58, 59, 60, 61, 62, 63, 77, 78, 79, 80] []) z z1 → Pr z → Pr z1) : stpX Pc Pr lst_maps := by
  intro S x1 x2 x3 x4 x5 h pc pr
  have hci := h.1.2.1
  have hc1 : Te (fun K => qe_X13_maps K x1 x2 S.2.2) (fun rr => Te (fun K => ce_X11_maps S.1 K 0 x1 x2 S.2.1) (fun rc => (REL (S.1, rc.2.2, rr.2) ∧ ansI [(1, 1), (2, 2), (3, 4)] rr rc) ∧ NM rc.2.2 ∧ Pc rc.2.2 ∧ Pr rr.2)) := w_monoE (te_fo (c_maps (vl := S.1) (x := x1) (x' := x2) (fun _ h9 => XR_M h9) h.1.1 hci.2.2.2.1 hci.2.2.2.2.1 (hz _ pr) (hk _ pc)) (fun K => ff_X13_maps)) (fun rr ⟨hr, fR⟩ => w_monoE hr (fun rc ⟨⟨q1, q2⟩, q3, q4, q5⟩ => ⟨⟨⟨q1, CI_mx q5 q3 q4 hci, jnR_fr fR (by decide) (by decide) h.1.2.2⟩, q2⟩, NM_fr q5 (fun g hg h9 => by unfold mxQ at hg; omega) h.2, hp _ _ q5 pc, hq _ _ fR pr⟩))
  have hs0 : Te (lsV S.1 (fun K => ce_X11_maps S.1 K 0 x1 x2 S.2.1) (fun k z => if k = 1 then some (1, z) else if k = 2 then some (2, z) else if k = 4 then some (3, z) else none) (fun K => qe_X13_maps K x1 x2 S.2.2)) (fun S1 => REL S1 ∧ dPhi S.1 ≤ dPhi S1.1) := by
    refine st_int (w_monoE hc1 (fun rr hr => w_monoE hr (fun rc hb => hb.1))) (fun j k hm => ?_)
    simp only [List.mem_cons, List.not_mem_nil, or_false, Prod.mk.injEq] at hm
    rcases hm with ⟨rfl, rfl⟩ | ⟨rfl, rfl⟩ | ⟨rfl, rfl⟩
    · exact ⟨by decide, by decide, by decide, fun _ => rfl⟩
    · exact ⟨by decide, by decide, by decide, fun _ => rfl⟩
    · exact ⟨by decide, by decide, by decide, fun _ => rfl⟩
  have hmp : ∀ (k : Nat) (z : ow_MS) (r : Int32 × ow_MS), ((fun k z => if k = 1 then some (1, z) else if k = 2 then some (2, z) else if k = 4 then some (3, z) else none) : Nat → ow_MS → Option (Int32 × ow_MS)) k z = some r → r.2 = z := (fun k z r hr => by
    have hr : (if k = 1 then some (1, z) else if k = 2 then some (2, z) else if k = 4 then some (3, z) else none) = some r := hr
    by_cases c0 : k = 1
    · rw [if_pos c0] at hr
      cases hr
      rfl
    by_cases c1 : k = 2
    · rw [if_neg c0, if_pos c1] at hr
      cases hr
      rfl
    by_cases c2 : k = 4
    · rw [if_neg c0, if_neg c1, if_pos c2] at hr
      cases hr
      rfl
    rw [if_neg c0, if_neg c1, if_neg c2] at hr
    cases hr)
  have hs : Te (lsV S.1 (fun K => ce_X11_maps S.1 K 0 x1 x2 S.2.1) (fun k z => if k = 1 then some (1, z) else if k = 2 then some (2, z) else if k = 4 then some (3, z) else none) (fun K => qe_X13_maps K x1 x2 S.2.2)) (fun S1 => REL2 S1 ∧ dPhi S.1 ≤ dPhi S1.1) := w_monoE (lsV_nm hs0 (w_monoE (te_in2 hc1) (fun rc ⟨_, hb⟩ => hb.2.1)) hmp) (fun S1 ⟨⟨q1, q2⟩, q3⟩ => ⟨⟨q1, q3⟩, q2⟩)
  exact lsV_pp hs (w_monoE (te_in2 hc1) (fun rc ⟨_, hb⟩ => hb.2.2.1)) (w_monoE (te_out hc1) (fun rr ⟨_, hb⟩ => hb.2.2.2)) (fun y v hy => hc (fun g => g = 52001) y _ (fr_J rfl) (fun g hg h9 => by unfold ciX at h9; omega) hy) hmp
theorem cjT_fr {P : Nat → Prop} {y y1 : ow_MS} (hf : fr P y y1) (h6 : ¬ P 41006) (h7 : ¬ P 41007) (h : cjT y) : cjT y1 := ⟨fun o x ho hx => by rw [(hf 41006 h6).2.1]; exact h.1 o x ho hx, fun o ho => by rw [(hf 41007 h7).2.1]; exact h.2 o ho⟩
theorem cj_init {z8 z0 z1 : ow_MS} {b : Nat} (hb : ∀ K, b ≤ K → ce_X0i_b0 K 41000 53001 zeroS = some z0) : cjT (Zc z8 z0 z1) := by
  obtain ⟨r, ⟨b1, hb1⟩, hE⟩ := ti_b0E (z := zeroS)
  have er : r = z0 := Option.some.inj ((hb1 (b + b1) (by omega)).symm.trans (hb (b + b1) (by omega)))
  subst er
  exact ⟨fun o x ho hx => hE.1 o x ho hx, fun o ho => hE.2 o ho⟩
theorem pf_n8 {L : List Nat} {g : Nat} (h : pf L [] g) (hL : L.all (fun a => decide (a < 73 ∨ 76 < a)) = true) (h1 : 73 ≤ g) (h2 : g ≤ 76) : False := by
  rcases h with h | h | h
  · have := of_decide_eq_true (List.all_eq_true.mp hL g h)
    omega
  · exact absurd h List.not_mem_nil
  · omega
variable {Qc Qr : ow_MS → Prop}
end XSE
end
section
/-! 99zzzzzzzzzzzzzzzg.xga1 -/
/-! braids: lists of simple ones as a monoid with common multiples and divisors -/
section XG1
variable {n : Nat}
theorem eqT_pr (h2 : 2 ≤ n) (h5 : n ≤ 5) {P X Y : List Nat} (hP : okT n P) (h : eqT n X Y) : eqT n (P ++ X) (P ++ Y) := fun V hV => eqT_pre h2 h5 V P X Y hV hP h
theorem eqT_ap (h2 : 2 ≤ n) (h5 : n ≤ 5) : ∀ (B : List Nat) {T F : List Nat}, okT n B → okT n T → okT n F → eqT n T F → eqT n (T ++ B) (F ++ B)
  | [], T, F, _, _, _, h => by rw [List.append_nil, List.append_nil]; exact h
  | b :: B, T, F, hB, hT, hF, h => by
    obtain ⟨hb, hB⟩ := okT_c.mp hB
    have hb1 : okT n [b] := okT_c.mpr ⟨hb, okT_n⟩
    have := eqT_ap h2 h5 B hB (okT_a.mpr ⟨hT, hb1⟩) (okT_a.mpr ⟨hF, hb1⟩) (eqT_app h2 h5 hb hT hF h)
    rw [List.append_assoc, List.append_assoc] at this
    exact this
theorem eqT_2 (h2 : 2 ≤ n) (h5 : n ≤ 5) {X Y : List Nat} {v t : Nat} (hX : okT n X) (hY : okT n Y) (hv : v < gNN n) (ht : t < gNN n) : eqT n (X ++ v :: ddG n v t :: Y) (X ++ t :: ddG n t v :: Y) := by
  obtain ⟨e1, e2⟩ := d_pa h2 h5 hv ht
  obtain ⟨s, es⟩ : ∃ s, muG n v (ddG n v t) = s + 1 := ⟨muG n v (ddG n v t) - 1, by omega⟩
  have k1 := eqT_swp h2 h5 (b := ddG n v t) (b' := 0) hX hY hv (dd_lt h2 h5 hv ht) nn_0 es (mu_r0 h2 h5)
  have k2 := eqT_swp h2 h5 (b := ddG n t v) (b' := 0) hX hY ht (dd_lt h2 h5 ht hv) nn_0 (e1.symm.trans es) (mu_r0 h2 h5)
  exact eqT_tr k1 (eqT_sy k2)
/-- one simple one and a list: their common multiple -/
theorem r1_eq (h2 : 2 ≤ n) (h5 : n ≤ 5) : ∀ (T : List Nat) {v : Nat}, v < gNN n → okT n T → eqT n (v :: (r1G n v T).2) (T ++ [(r1G n v T).1])
  | [], v, _, _ => eqT_rf _
  | t :: T, v, hv, h => by
    obtain ⟨ht, hT⟩ := okT_c.mp h
    have hd := dd_lt h2 h5 ht hv
    have ih := r1_eq h2 h5 T hd hT
    obtain ⟨a1, a2, -⟩ := r1_ok h2 h5 T hd hT
    show eqT n (v :: ddG n v t :: (r1G n (ddG n t v) T).2) (t :: T ++ [(r1G n (ddG n t v) T).1])
    exact eqT_tr (eqT_2 (X := []) h2 h5 okT_n a2 hv ht) (eqT_pr (P := [t]) h2 h5 (okT_c.mpr ⟨ht, okT_n⟩) ih)
theorem eqT_c1 (h2 : 2 ≤ n) (h5 : n ≤ 5) {T F : List Nat} {v : Nat} (hv : v < gNN n) (hT : okT n T) (hF : okT n F) (h : eqT n (v :: T) (v :: F)) : eqT n T F := by
  have e := (eqT_1 h hv).2
  have k : ∀ T, okT n T → (r1G n v (v :: T)).2 = 0 :: T := fun T hT => by
    show ddG n v v :: (r1G n (ddG n v v) T).2 = _
    rw [dd_s h2 h5 hv, r1_0 h2 h5 T hT]
  rw [k T hT, k F hF] at e
  exact eqT_tr (eqT_sy (eqT_id (X := []) h2 h5 okT_n hT)) (eqT_tr e (eqT_id (X := []) h2 h5 okT_n hF))
theorem eqT_cl (h2 : 2 ≤ n) (h5 : n ≤ 5) : ∀ (V : List Nat) {T F : List Nat}, okT n V → okT n T → okT n F → eqT n (V ++ T) (V ++ F) → eqT n T F
  | [], _, _, _, _, _, h => h
  | v :: V, T, F, hV, hT, hF, h => by
    obtain ⟨hv, hV⟩ := okT_c.mp hV
    exact eqT_cl h2 h5 V hV hT hF (eqT_c1 h2 h5 hv (okT_a.mpr ⟨hV, hT⟩) (okT_a.mpr ⟨hV, hF⟩) h)
def szT (n : Nat) : List Nat → Nat
  | [] => 0
  | t :: T => szG n t + szT n T
theorem szT_a : ∀ (X Y : List Nat), szT n (X ++ Y) = szT n X + szT n Y
  | [], Y => (Nat.zero_add _).symm
  | x :: X, Y => by
    show szG n x + szT n (X ++ Y) = szG n x + szT n X + szT n Y
    rw [szT_a X Y, Nat.add_assoc]
theorem szT_r1 (h2 : 2 ≤ n) (h5 : n ≤ 5) : ∀ (T : List Nat) {v : Nat}, v < gNN n → okT n T → szT n T + szG n (r1G n v T).1 = szG n v + szT n (r1G n v T).2
  | [], v, _, _ => by
    show 0 + szG n v = szG n v + 0
    omega
  | t :: T, v, hv, h => by
    obtain ⟨ht, hT⟩ := okT_c.mp h
    have ih := szT_r1 h2 h5 T (dd_lt h2 h5 ht hv) hT
    have e := (f_fou h2 h5 hv ht).2.1
    show szG n t + szT n T + szG n (r1G n (ddG n t v) T).1 = szG n v + (szG n (ddG n v t) + szT n (r1G n (ddG n t v) T).2)
    omega
theorem szT_z (h2 : 2 ≤ n) (h5 : n ≤ 5) : ∀ (T : List Nat), (∀ t, t ∈ T → t = 0) → szT n T = 0
  | [], _ => rfl
  | t :: T, h => by
    show szG n t + szT n T = 0
    rw [h t List.mem_cons_self, sz_0 h2 h5, szT_z h2 h5 T (fun s hs => h s (List.mem_cons_of_mem _ hs))]
theorem z_szT (h2 : 2 ≤ n) (h5 : n ≤ 5) : ∀ (T : List Nat), okT n T → szT n T = 0 → eqT n T []
  | [], _, _ => eqT_rf _
  | t :: T, h, e => by
    obtain ⟨ht, hT⟩ := okT_c.mp h
    have e : szG n t + szT n T = 0 := e
    rw [sz_z h2 h5 ht (by omega)]
    exact eqT_tr (eqT_id (X := []) h2 h5 okT_n hT) (z_szT h2 h5 T hT (by omega))
theorem szT_eq (h2 : 2 ≤ n) (h5 : n ≤ 5) : ∀ (F : List Nat) {T : List Nat}, okT n F → okT n T → eqT n T F → szT n T = szT n F
  | [], T, _, hT, h => by
    have := eq_nil h2 h5 T hT (fun v hv => (eqT_1 h hv).1)
    exact szT_z h2 h5 T this
  | f :: F, T, hF, hT, h => by
    obtain ⟨k1, k2⟩ := hd_1 h2 h5 hF h
    obtain ⟨hf, hF'⟩ := okT_c.mp hF
    obtain ⟨-, a2, -⟩ := r1_ok h2 h5 T hf hT
    have e := szT_r1 h2 h5 T hf hT
    rw [k1, sz_0 h2 h5, szT_eq h2 h5 F hF' a2 k2] at e
    exact e
/-- left divisors -/
def dvT (n : Nat) (A B : List Nat) : Prop := ∃ C, okT n C ∧ eqT n B (A ++ C)
theorem dvT_rf (A : List Nat) : dvT n A A := ⟨[], okT_n, by rw [List.append_nil]; exact eqT_rf _⟩
theorem dvT_tr (h2 : 2 ≤ n) (h5 : n ≤ 5) {A B E : List Nat} (hA : okT n A) (hB : okT n B) (h : dvT n A B) (h' : dvT n B E) : dvT n A E := by
  obtain ⟨C, c1, c2⟩ := h
  obtain ⟨C', d1, d2⟩ := h'
  refine ⟨C ++ C', okT_a.mpr ⟨c1, d1⟩, eqT_tr d2 ?_⟩
  rw [← List.append_assoc]
  exact eqT_ap h2 h5 C' d1 hB (okT_a.mpr ⟨hA, c1⟩) c2
theorem dvT_eq {A B B' : List Nat} (h : dvT n A B) (e : eqT n B' B) : dvT n A B' := by
  obtain ⟨C, c1, c2⟩ := h
  exact ⟨C, c1, eqT_tr e c2⟩
theorem dvT_el (h2 : 2 ≤ n) (h5 : n ≤ 5) {A A' B : List Nat} (hA : okT n A) (hA' : okT n A') (h : dvT n A B) (e : eqT n A' A) : dvT n A' B := by
  obtain ⟨C, c1, c2⟩ := h
  exact ⟨C, c1, eqT_tr c2 (eqT_sy (eqT_ap h2 h5 C c1 hA' hA e))⟩
/-- a simple one divides where nothing is left of it -/
theorem dv_r1 (h2 : 2 ≤ n) (h5 : n ≤ 5) {v : Nat} {T : List Nat} (hv : v < gNN n) (hT : okT n T) : dvT n [v] T ↔ (r1G n v T).1 = 0 := by
  constructor
  · rintro ⟨C, c1, c2⟩
    exact (hd_1 h2 h5 (okT_c.mpr ⟨hv, c1⟩) c2).1
  · intro e
    have k := r1_eq h2 h5 T hv hT
    rw [e] at k
    obtain ⟨-, a2, -⟩ := r1_ok h2 h5 T hv hT
    have k2 : eqT n (T ++ [0]) T := by
      have := eqT_id (X := T) (Y := []) h2 h5 hT okT_n
      rw [List.append_nil] at this
      exact this
    exact ⟨_, a2, eqT_sy (eqT_tr k k2)⟩
/-- least common multiples -/
theorem lcm_ex (h2 : 2 ≤ n) (h5 : n ≤ 5) : ∀ (V T : List Nat), okT n V → okT n T → ∃ U, okT n U ∧ dvT n V U ∧ dvT n T U ∧ ∀ A, okT n A → dvT n V A → dvT n T A → dvT n U A
  | [], T, _, hT => ⟨T, hT, ⟨T, hT, eqT_rf _⟩, dvT_rf T, fun A _ _ h => h⟩
  | v :: V, T, hV, hT => by
    obtain ⟨hv, hV⟩ := okT_c.mp hV
    obtain ⟨a1, a2, -⟩ := r1_ok h2 h5 T hv hT
    have ke := r1_eq h2 h5 T hv hT
    obtain ⟨U, u1, ⟨C, c1, c2⟩, u3, u4⟩ := lcm_ex h2 h5 V (r1G n v T).2 hV a2
    have hv1 : okT n [v] := okT_c.mpr ⟨hv, okT_n⟩
    have ha1 : okT n [(r1G n v T).1] := okT_c.mpr ⟨a1, okT_n⟩
    refine ⟨v :: U, okT_c.mpr ⟨hv, u1⟩, ⟨C, c1, eqT_pr (P := [v]) h2 h5 hv1 c2⟩, ?_, fun A hA ⟨C1, p1, p2⟩ ⟨C2, q1, q2⟩ => ?_⟩
    · obtain ⟨B, b1, b2⟩ := u3
      refine ⟨[(r1G n v T).1] ++ B, okT_a.mpr ⟨ha1, b1⟩, eqT_tr (eqT_pr (P := [v]) h2 h5 hv1 b2) ?_⟩
      have k := eqT_ap h2 h5 B b1 (okT_c.mpr ⟨hv, a2⟩) (okT_a.mpr ⟨hT, ha1⟩) ke
      rw [List.append_assoc T] at k
      exact k
    · have p2 : eqT n A (v :: (V ++ C1)) := p2
      obtain ⟨k1, -⟩ := hd_1 h2 h5 (okT_c.mpr ⟨hv, okT_a.mpr ⟨hV, p1⟩⟩) p2
      have k1' : (r1G n v (T ++ C2)).1 = 0 := by
        rw [← (eqT_1 q2 hv).1]
        exact k1
      rw [r1_app] at k1'
      obtain ⟨C3, w1, w2⟩ := (dv_r1 h2 h5 a1 q1).mpr k1'
      have e1 : eqT n A (v :: ((r1G n v T).2 ++ C3)) := by
        refine eqT_tr q2 (eqT_tr (eqT_pr h2 h5 hT w2) ?_)
        rw [← List.append_assoc]
        exact eqT_sy (eqT_ap h2 h5 C3 w1 (okT_c.mpr ⟨hv, a2⟩) (okT_a.mpr ⟨hT, ha1⟩) ke)
      have e2 : eqT n (V ++ C1) ((r1G n v T).2 ++ C3) := eqT_c1 h2 h5 hv (okT_a.mpr ⟨hV, p1⟩) (okT_a.mpr ⟨a2, w1⟩) (eqT_tr (eqT_sy p2) e1)
      obtain ⟨C4, x1, x2⟩ := u4 (V ++ C1) (okT_a.mpr ⟨hV, p1⟩) ⟨C1, p1, eqT_rf _⟩ ⟨C3, w1, e2⟩
      exact ⟨C4, x1, eqT_tr p2 (eqT_pr (P := [v]) h2 h5 hv1 x2)⟩
theorem szT_dv (h2 : 2 ≤ n) (h5 : n ≤ 5) {A B : List Nat} (hA : okT n A) (hB : okT n B) (h : dvT n A B) : szT n A ≤ szT n B ∧ (szT n B ≤ szT n A → eqT n B A) := by
  obtain ⟨C, c1, c2⟩ := h
  have e := szT_eq h2 h5 (A ++ C) (okT_a.mpr ⟨hA, c1⟩) hB c2
  rw [szT_a] at e
  refine ⟨by omega, fun h9 => ?_⟩
  have := eqT_pr h2 h5 hA (z_szT h2 h5 C c1 (by omega))
  rw [List.append_nil] at this
  exact eqT_tr c2 this
/-- greatest common divisors -/
theorem gcd_ex (h2 : 2 ≤ n) (h5 : n ≤ 5) {A B : List Nat} (hA : okT n A) (hB : okT n B) : ∃ C, okT n C ∧ dvT n C A ∧ dvT n C B ∧ ∀ E, okT n E → dvT n E A → dvT n E B → dvT n E C := by
  have key : ∀ (d : Nat) (C : List Nat), okT n C → dvT n C A → dvT n C B → szT n A ≤ szT n C + d → ∃ C, okT n C ∧ dvT n C A ∧ dvT n C B ∧ ∀ E, okT n E → dvT n E A → dvT n E B → dvT n E C := by
    intro d
    induction d with
    | zero =>
      intro C c1 c2 c3 hd
      refine ⟨C, c1, c2, c3, fun E e1 e2 _ => dvT_eq e2 ?_⟩
      exact eqT_sy ((szT_dv h2 h5 c1 hA c2).2 (by omega))
    | succ d ih =>
      intro C c1 c2 c3 hd
      by_cases g : ∀ E, okT n E → dvT n E A → dvT n E B → dvT n E C
      · exact ⟨C, c1, c2, c3, g⟩
      · obtain ⟨E, hE⟩ : ∃ E, ¬ (okT n E → dvT n E A → dvT n E B → dvT n E C) := Classical.byContradiction (fun h9 => g (fun E => Classical.byContradiction (fun h8 => h9 ⟨E, h8⟩)))
        have e1 : okT n E := Classical.byContradiction (fun h9 => hE (fun h8 => absurd h8 h9))
        have e2 : dvT n E A := Classical.byContradiction (fun h9 => hE (fun _ h8 => absurd h8 h9))
        have e3 : dvT n E B := Classical.byContradiction (fun h9 => hE (fun _ _ h8 => absurd h8 h9))
        have e4 : ¬ dvT n E C := fun h9 => hE (fun _ _ _ => h9)
        obtain ⟨U, u1, u2, u3, u4⟩ := lcm_ex h2 h5 C E c1 e1
        refine ih U u1 (u4 A hA c2 e2) (u4 B hB c3 e3) ?_
        obtain ⟨s1, s2⟩ := szT_dv h2 h5 c1 u1 u2
        by_cases q : szT n U ≤ szT n C
        · exact absurd (dvT_eq u3 (eqT_sy (s2 q))) e4
        · omega
  exact key (szT n A) [] okT_n ⟨A, hA, eqT_rf _⟩ ⟨B, hB, eqT_rf _⟩ (by omega)
def gTA (n a : Nat) : Bool := decide (ddG n (ddG n a (gNN n - 1)) (gNN n - 1) = ovG n a) && decide (muG n (ahG n a) a = gNN n - 1 + 1)
theorem ta_2 : ∀ k : Fin 2, gTA 2 k.val = true := by decide +kernel
theorem ta_3 : ∀ k : Fin 6, gTA 3 k.val = true := by decide +kernel
theorem ta_4 : ∀ k : Fin 24, gTA 4 k.val = true := by decide +kernel
theorem ta_5 : ∀ k : Fin 120, gTA 5 k.val = true := by decide +kernel
theorem ta_n (h2 : 2 ≤ n) (h5 : n ≤ 5) {a : Nat} (ha : a < gNN n) : ddG n (ddG n a (gNN n - 1)) (gNN n - 1) = ovG n a ∧ muG n (ahG n a) a = gNN n - 1 + 1 := by
  have k : gTA n a = true := by
    have : n = 2 ∨ n = 3 ∨ n = 4 ∨ n = 5 := by omega
    rcases this with rfl | rfl | rfl | rfl
    · exact ta_2 ⟨a, ha⟩
    · exact ta_3 ⟨a, ha⟩
    · exact ta_4 ⟨a, ha⟩
    · exact ta_5 ⟨a, ha⟩
  unfold gTA at k
  rw [Bool.and_eq_true] at k
  exact ⟨of_decide_eq_true k.1, of_decide_eq_true k.2⟩
/-- a delta goes through -/
theorem D_1 (h2 : 2 ≤ n) (h5 : n ≤ 5) {X Y : List Nat} {a : Nat} (hX : okT n X) (hY : okT n Y) (ha : a < gNN n) : eqT n (X ++ a :: (gNN n - 1) :: Y) (X ++ (gNN n - 1) :: ovG n a :: Y) := by
  have hx := dd_lt h2 h5 ha (dl_lt (n := n))
  have e1 := dd_mu h2 h5 ha dl_lt (d_pk h2 h5 ha).2.2.2.2
  have e2 := dd_mu h2 h5 hx dl_lt (d_pk h2 h5 hx).2.2.2.2
  rw [(ta_n h2 h5 ha).1] at e2
  exact eqT_swp h2 h5 hX hY ha hx (ov_lt h2 h5 ha) e1 e2
theorem D_thr (h2 : 2 ≤ n) (h5 : n ≤ 5) : ∀ (T : List Nat), okT n T → eqT n (T ++ [gNN n - 1]) ((gNN n - 1) :: T.map (ovG n))
  | [], _ => eqT_rf _
  | t :: T, h => by
    obtain ⟨ht, hT⟩ := okT_c.mp h
    have k1 := eqT_pr (P := [t]) h2 h5 (okT_c.mpr ⟨ht, okT_n⟩) (D_thr h2 h5 T hT)
    exact eqT_tr k1 (D_1 (X := []) h2 h5 okT_n (okT_ov h2 h5 hT) ht)
end XG1
end
section
/-! 99zzzzzzzzzzzzzzzh.xga2 -/
/-! braids: the group -/
def ovp (n : Nat) (k : Int) (T : List Nat) : List Nat := if k % 2 = 0 then T else T.map (ovG n)
def rq (n : Nat) (a b : Int × List Nat) : Prop := ∃ i j : Nat, a.1 - (i : Int) = b.1 - (j : Int) ∧ eqT n (List.replicate i (gNN n - 1) ++ a.2) (List.replicate j (gNN n - 1) ++ b.2)
def mR (n : Nat) (a b : Int × List Nat) : Int × List Nat := (a.1 + b.1, ovp n b.1 a.2 ++ b.2)
section XG2
variable {n : Nat}
theorem ov_ov (h2 : 2 ≤ n) (h5 : n ≤ 5) {T : List Nat} (h : okT n T) : (T.map (ovG n)).map (ovG n) = T := by
  rw [List.map_map]
  conv => rhs; rw [← List.map_id T]
  exact List.map_congr_left (fun v hv => (d_pk h2 h5 (h v hv)).2.2.1)
theorem ovp_ok (h2 : 2 ≤ n) (h5 : n ≤ 5) {k : Int} {T : List Nat} (h : okT n T) : okT n (ovp n k T) := by
  unfold ovp
  split
  · exact h
  · exact okT_ov h2 h5 h
theorem ovp_ov (h2 : 2 ≤ n) (h5 : n ≤ 5) {k l : Int} {T : List Nat} (h : okT n T) : ovp n k (ovp n l T) = ovp n (k + l) T := by
  unfold ovp
  by_cases a : k % 2 = 0
  · by_cases b : l % 2 = 0
    · rw [if_pos a, if_pos b, if_pos (by omega)]
    · rw [if_pos a, if_neg b, if_neg (by omega)]
  · by_cases b : l % 2 = 0
    · rw [if_neg a, if_pos b, if_neg (by omega)]
    · rw [if_neg a, if_neg b, if_pos (by omega), ov_ov h2 h5 h]
theorem ovp_app {k : Int} {S T : List Nat} : ovp n k (S ++ T) = ovp n k S ++ ovp n k T := by
  unfold ovp
  split
  · rfl
  · exact List.map_append
theorem ovp_D (h2 : 2 ≤ n) (h5 : n ≤ 5) {k : Int} {i : Nat} : ovp n k (List.replicate i (gNN n - 1)) = List.replicate i (gNN n - 1) := by
  unfold ovp
  split
  · rfl
  · rw [List.map_replicate, ov_D h2 h5]
theorem ovp_0 {T : List Nat} : ovp n 0 T = T := if_pos rfl
theorem ovp_nil {k : Int} : ovp n k [] = [] := by
  unfold ovp
  split <;> rfl
theorem eqT_ovp (h2 : 2 ≤ n) (h5 : n ≤ 5) {k : Int} {T F : List Nat} (hT : okT n T) (hF : okT n F) (h : eqT n T F) : eqT n (ovp n k T) (ovp n k F) := by
  unfold ovp
  split
  · exact h
  · exact eqT_ov h2 h5 hT hF h
theorem D_pw (h2 : 2 ≤ n) (h5 : n ≤ 5) : ∀ (i : Nat) {T : List Nat}, okT n T → eqT n (T ++ List.replicate i (gNN n - 1)) (List.replicate i (gNN n - 1) ++ ovp n i T)
  | 0, T, h => by
    show eqT n (T ++ []) ([] ++ ovp n (0 : Int) T)
    rw [List.append_nil, ovp_0]
    exact eqT_rf _
  | i + 1, T, h => by
    have hD : okT n [gNN n - 1] := okT_c.mpr ⟨dl_lt, okT_n⟩
    have ih := D_pw h2 h5 i (okT_ov h2 h5 h)
    have e : ovp n (i : Int) (T.map (ovG n)) = ovp n ((i + 1 : Nat) : Int) T := by
      have : T.map (ovG n) = ovp n 1 T := (if_neg (by decide)).symm
      rw [this, ovp_ov h2 h5 h]
      rfl
    rw [e] at ih
    have k1 := eqT_ap h2 h5 (List.replicate i (gNN n - 1)) rp_ok (okT_a.mpr ⟨h, hD⟩) (okT_c.mpr ⟨dl_lt, okT_ov h2 h5 h⟩) (D_thr h2 h5 T h)
    rw [List.append_assoc] at k1
    exact eqT_tr k1 (eqT_pr (P := [gNN n - 1]) h2 h5 hD ih)
theorem rp_add (i j : Nat) : List.replicate (i + j) (gNN n - 1) = List.replicate i (gNN n - 1) ++ List.replicate j (gNN n - 1) := (List.replicate_append_replicate).symm
theorem rq_rf (a : Int × List Nat) : rq n a a := ⟨0, 0, rfl, eqT_rf _⟩
theorem rq_sy {a b : Int × List Nat} (h : rq n a b) : rq n b a := by
  obtain ⟨i, j, e, h⟩ := h
  exact ⟨j, i, e.symm, eqT_sy h⟩
theorem rq_tr (h2 : 2 ≤ n) (h5 : n ≤ 5) {a b c : Int × List Nat} (h : rq n a b) (h' : rq n b c) : rq n a c := by
  obtain ⟨i, j, e, h⟩ := h
  obtain ⟨i', j', e', h'⟩ := h'
  refine ⟨i' + i, j + j', by omega, ?_⟩
  have k1 := eqT_pr (P := List.replicate i' (gNN n - 1)) h2 h5 rp_ok h
  have k2 := eqT_pr (P := List.replicate j (gNN n - 1)) h2 h5 rp_ok h'
  rw [← List.append_assoc, ← List.append_assoc, ← rp_add, ← rp_add] at k1 k2
  rw [Nat.add_comm i' j] at k1
  exact eqT_tr k1 k2
theorem mR_ok (h2 : 2 ≤ n) (h5 : n ≤ 5) {a b : Int × List Nat} (ha : okT n a.2) (hb : okT n b.2) : okT n (mR n a b).2 := okT_a.mpr ⟨ovp_ok h2 h5 ha, hb⟩
theorem mR_l (h2 : 2 ≤ n) (h5 : n ≤ 5) {a a' b : Int × List Nat} (ha : okT n a.2) (ha' : okT n a'.2) (hb : okT n b.2) (h : rq n a a') : rq n (mR n a b) (mR n a' b) := by
  obtain ⟨i, j, e, h⟩ := h
  refine ⟨i, j, ?_, ?_⟩
  · show a.1 + b.1 - (i : Int) = a'.1 + b.1 - (j : Int)
    omega
  · have k := eqT_ovp (k := b.1) h2 h5 (okT_a.mpr ⟨rp_ok, ha⟩) (okT_a.mpr ⟨rp_ok, ha'⟩) h
    rw [ovp_app, ovp_app, ovp_D h2 h5, ovp_D h2 h5] at k
    have k2 := eqT_ap h2 h5 b.2 hb (okT_a.mpr ⟨rp_ok, ovp_ok h2 h5 ha⟩) (okT_a.mpr ⟨rp_ok, ovp_ok h2 h5 ha'⟩) k
    rw [List.append_assoc, List.append_assoc] at k2
    exact k2
theorem mR_r (h2 : 2 ≤ n) (h5 : n ≤ 5) {a b b' : Int × List Nat} (ha : okT n a.2) (hb : okT n b.2) (hb' : okT n b'.2) (h : rq n b b') : rq n (mR n a b) (mR n a b') := by
  obtain ⟨i, j, e, h⟩ := h
  refine ⟨i, j, ?_, ?_⟩
  · show a.1 + b.1 - (i : Int) = a.1 + b'.1 - (j : Int)
    omega
  · have mv : ∀ (b : Int × List Nat) (i : Nat), okT n b.2 → eqT n (List.replicate i (gNN n - 1) ++ (mR n a b).2) (ovp n (b.1 - i) a.2 ++ (List.replicate i (gNN n - 1) ++ b.2)) := fun b i hb => by
      have ho := ovp_ok (k := b.1 - i) h2 h5 ha
      have k := D_pw h2 h5 i ho
      rw [ovp_ov h2 h5 ha, show (i : Int) + (b.1 - i) = b.1 by omega] at k
      have k2 := eqT_ap h2 h5 b.2 hb (okT_a.mpr ⟨ho, rp_ok⟩) (okT_a.mpr ⟨rp_ok, ovp_ok h2 h5 ha⟩) k
      rw [List.append_assoc, List.append_assoc] at k2
      exact eqT_sy k2
    refine eqT_tr (mv b i hb) (eqT_tr ?_ (eqT_sy (mv b' j hb')))
    rw [e]
    exact eqT_pr h2 h5 (ovp_ok h2 h5 ha) h
theorem mR_as (h2 : 2 ≤ n) (h5 : n ≤ 5) {a b c : Int × List Nat} (ha : okT n a.2) : mR n (mR n a b) c = mR n a (mR n b c) := by
  unfold mR
  rw [ovp_app, ovp_ov h2 h5 ha, List.append_assoc, Int.add_assoc, Int.add_comm c.1 b.1]
end XG2
abbrev N5 : Type := {n : Nat // 2 ≤ n ∧ n ≤ 5}
abbrev Rw5 (m : N5) : Type := {e : Int × List Nat // okT m.1 e.2}
def Gn (m : N5) : Type := Quot (fun a b : Rw5 m => rq m.1 a.1 b.1)
def gq (m : N5) (a : Rw5 m) : Gn m := Quot.mk _ a
theorem gq_so {m : N5} {a b : Rw5 m} (h : rq m.1 a.1 b.1) : gq m a = gq m b := Quot.sound h
theorem gq_ex {m : N5} {a b : Rw5 m} (h : gq m a = gq m b) : rq m.1 a.1 b.1 := by
  let p : Gn m → Prop := Quot.lift (fun b : Rw5 m => rq m.1 a.1 b.1) (fun b c h => propext ⟨fun h1 => rq_tr m.2.1 m.2.2 h1 h, fun h1 => rq_tr m.2.1 m.2.2 h1 (rq_sy h)⟩)
  have h1 : p (gq m a) := rq_rf _
  rw [h] at h1
  exact h1
def gmR {m : N5} (a b : Rw5 m) : Rw5 m := ⟨mR m.1 a.1 b.1, mR_ok m.2.1 m.2.2 a.2 b.2⟩
def gm {m : N5} (a b : Gn m) : Gn m := Quot.lift (fun x : Rw5 m => Quot.lift (fun y : Rw5 m => gq m (gmR x y)) (fun y y' h => gq_so (mR_r m.2.1 m.2.2 x.2 y.2 y'.2 h)) b) (fun x x' h => Quot.ind (β := fun b => Quot.lift (fun y : Rw5 m => gq m (gmR x y)) (fun y y' h => gq_so (mR_r m.2.1 m.2.2 x.2 y.2 y'.2 h)) b = Quot.lift (fun y : Rw5 m => gq m (gmR x' y)) (fun y y' h => gq_so (mR_r m.2.1 m.2.2 x'.2 y.2 y'.2 h)) b) (fun y => gq_so (mR_l m.2.1 m.2.2 x.2 x'.2 y.2 h)) b) a
theorem gm_q {m : N5} (a b : Rw5 m) : gm (gq m a) (gq m b) = gq m (gmR a b) := rfl
theorem g_rep {m : N5} (g : Gn m) : ∃ a, g = gq m a := Quot.ind (β := fun g => ∃ a, g = gq m a) (fun a => ⟨a, rfl⟩) g
/-- a power of delta; a list -/
def gD (m : N5) (k : Int) : Gn m := gq m ⟨(k, []), okT_n⟩
def gL (m : N5) (T : List Nat) (h : okT m.1 T) : Gn m := gq m ⟨(0, T), h⟩
def g1 (m : N5) : Gn m := gD m 0
section XG3
variable {m : N5}
theorem gm_as (a b c : Gn m) : gm (gm a b) c = gm a (gm b c) := by
  obtain ⟨a, rfl⟩ := g_rep a
  obtain ⟨b, rfl⟩ := g_rep b
  obtain ⟨c, rfl⟩ := g_rep c
  rw [gm_q, gm_q, gm_q, gm_q]
  exact congrArg (gq m) (Subtype.ext (mR_as m.2.1 m.2.2 a.2))
theorem g1_l (a : Gn m) : gm (g1 m) a = a := by
  obtain ⟨a, rfl⟩ := g_rep a
  show gq m (gmR _ a) = _
  refine congrArg (gq m) (Subtype.ext ?_)
  show ((0 : Int) + a.1.1, ovp m.1 a.1.1 [] ++ a.1.2) = a.1
  rw [ovp_nil, Int.zero_add]
  rfl
theorem g1_r (a : Gn m) : gm a (g1 m) = a := by
  obtain ⟨a, rfl⟩ := g_rep a
  show gq m (gmR a _) = _
  refine congrArg (gq m) (Subtype.ext ?_)
  show (a.1.1 + (0 : Int), ovp m.1 0 a.1.2 ++ []) = a.1
  rw [ovp_0, Int.add_zero, List.append_nil]
theorem gD_m (k l : Int) : gm (gD m k) (gD m l) = gD m (k + l) := by
  show gq m (gmR _ _) = _
  refine congrArg (gq m) (Subtype.ext ?_)
  show (k + l, ovp m.1 l [] ++ []) = (k + l, [])
  rw [ovp_nil]
  rfl
theorem gL_m {S T : List Nat} (hS : okT m.1 S) (hT : okT m.1 T) : gm (gL m S hS) (gL m T hT) = gL m (S ++ T) (okT_a.mpr ⟨hS, hT⟩) := by
  show gq m (gmR _ _) = _
  refine congrArg (gq m) (Subtype.ext ?_)
  show ((0 : Int) + 0, ovp m.1 0 S ++ T) = (0, S ++ T)
  rw [ovp_0]
  rfl
theorem g_eq (a : Rw5 m) : gq m a = gm (gD m a.1.1) (gL m a.1.2 a.2) := by
  show _ = gq m (gmR _ _)
  refine congrArg (gq m) (Subtype.ext ?_)
  show a.1 = (a.1.1 + 0, ovp m.1 0 [] ++ a.1.2)
  rw [ovp_0, Int.add_zero]
  rfl
theorem gL_D (k : Int) {T : List Nat} (hT : okT m.1 T) : gm (gL m T hT) (gD m k) = gm (gD m k) (gL m (ovp m.1 k T) (ovp_ok m.2.1 m.2.2 hT)) := by
  show gq m (gmR _ _) = gq m (gmR _ _)
  refine congrArg (gq m) (Subtype.ext ?_)
  show ((0 : Int) + k, ovp m.1 k T ++ []) = (k + 0, ovp m.1 0 [] ++ ovp m.1 k T)
  rw [List.append_nil, ovp_0, Int.zero_add, Int.add_zero]
  rfl
theorem gL_eq {S T : List Nat} {hS : okT m.1 S} {hT : okT m.1 T} (h : eqT m.1 S T) : gL m S hS = gL m T hT := gq_so ⟨0, 0, rfl, h⟩
theorem gL_ex {S T : List Nat} {hS : okT m.1 S} {hT : okT m.1 T} (h : gL m S hS = gL m T hT) : eqT m.1 S T := by
  obtain ⟨i, j, e, k⟩ := gq_ex h
  have e : (0 : Int) - i = 0 - j := e
  have e9 : i = j := by omega
  subst e9
  exact eqT_cl m.2.1 m.2.2 _ rp_ok hS hT k
theorem gL_nil {h : okT m.1 []} : gL m [] h = g1 m := rfl
theorem gL_rp (j : Nat) {h : okT m.1 (List.replicate j (gNN m.1 - 1))} : gL m (List.replicate j (gNN m.1 - 1)) h = gD m (j : Int) := by
  refine gq_so ⟨0, j, ?_, ?_⟩
  · show (0 : Int) - (0 : Nat) = (j : Int) - (j : Int)
    omega
  · show eqT m.1 ([] ++ List.replicate j (gNN m.1 - 1)) (List.replicate j (gNN m.1 - 1) ++ [])
    rw [List.append_nil, List.nil_append]
    exact eqT_rf _
/-- inverses -/
def inv9 (a : Gn m) : Prop := ∃ b, gm b a = g1 m ∧ gm a b = g1 m
theorem inv_m {a b : Gn m} (ha : inv9 a) (hb : inv9 b) : inv9 (gm a b) := by
  obtain ⟨x, x1, x2⟩ := ha
  obtain ⟨y, y1, y2⟩ := hb
  refine ⟨gm y x, ?_, ?_⟩
  · rw [gm_as, ← gm_as x a b, x1, g1_l, y1]
  · rw [gm_as, ← gm_as b y x, y2, g1_l, x2]
theorem inv_D (k : Int) : inv9 (gD m k) := ⟨gD m (-k), by rw [gD_m, Int.add_left_neg]; rfl, by rw [gD_m, Int.add_right_neg]; rfl⟩
theorem D_t {a b : Nat} (ha : a < gNN m.1) (hb : b < gNN m.1) (e : muG m.1 a b = gNN m.1 - 1 + 1) {h : okT m.1 [a, b]} : gL m [a, b] h = gD m 1 := by
  have h2 := m.2.1
  have h5 := m.2.2
  have k := eqT_swp (X := []) (Y := []) h2 h5 okT_n okT_n ha hb nn_0 e (mu_r0 h2 h5)
  have k2 := eqT_id (X := [gNN m.1 - 1]) (Y := []) h2 h5 (okT_c.mpr ⟨dl_lt, okT_n⟩) okT_n
  have k3 : eqT m.1 [a, b] (List.replicate 1 (gNN m.1 - 1)) := eqT_tr k k2
  rw [gL_eq (hT := rp_ok) k3]
  exact gL_rp 1
theorem inv_1 {t : Nat} (ht : t < gNN m.1) {h : okT m.1 [t]} : inv9 (gL m [t] h) := by
  have h2 := m.2.1
  have h5 := m.2.2
  have a1 := (f_one h2 h5 ht).2.1
  have e1 := (ta_n h2 h5 ht).2
  have hA : okT m.1 [ahG m.1 t] := okT_c.mpr ⟨a1, okT_n⟩
  have x1 := dd_lt h2 h5 ht (dl_lt (n := m.1))
  have e2 := dd_mu h2 h5 ht dl_lt (d_pk h2 h5 ht).2.2.2.2
  have hX : okT m.1 [ddG m.1 t (gNN m.1 - 1)] := okT_c.mpr ⟨x1, okT_n⟩
  have k1 : gm (gL m [ahG m.1 t] hA) (gL m [t] h) = gD m 1 := by
    rw [gL_m]
    exact D_t a1 ht e1
  have k2 : gm (gL m [t] h) (gL m [ddG m.1 t (gNN m.1 - 1)] hX) = gD m 1 := by
    rw [gL_m]
    exact D_t ht x1 e2
  have l : gm (gm (gD m (-1)) (gL m [ahG m.1 t] hA)) (gL m [t] h) = g1 m := by
    rw [gm_as, k1, gD_m]
    rfl
  have r : gm (gL m [t] h) (gm (gL m [ddG m.1 t (gNN m.1 - 1)] hX) (gD m (-1))) = g1 m := by
    rw [← gm_as, k2, gD_m]
    rfl
  have e : gm (gD m (-1)) (gL m [ahG m.1 t] hA) = gm (gL m [ddG m.1 t (gNN m.1 - 1)] hX) (gD m (-1)) := by
    have := gm_as (gm (gD m (-1)) (gL m [ahG m.1 t] hA)) (gL m [t] h) (gm (gL m [ddG m.1 t (gNN m.1 - 1)] hX) (gD m (-1)))
    rw [l, r, g1_l, g1_r] at this
    exact this.symm
  exact ⟨_, l, by rw [e]; exact r⟩
theorem inv_L : ∀ (T : List Nat) (h : okT m.1 T), inv9 (gL m T h)
  | [], _ => inv_D 0
  | t :: T, h => by
    obtain ⟨ht, hT⟩ := okT_c.mp h
    have := inv_m (inv_1 ht (h := okT_c.mpr ⟨ht, okT_n⟩)) (inv_L T hT)
    rw [gL_m] at this
    exact this
theorem inv_all (a : Gn m) : inv9 a := by
  obtain ⟨a, rfl⟩ := g_rep a
  rw [g_eq]
  exact inv_m (inv_D _) (inv_L _ _)
noncomputable def gi (a : Gn m) : Gn m := Classical.choose (inv_all a)
theorem gi_l (a : Gn m) : gm (gi a) a = g1 m := (Classical.choose_spec (inv_all a)).1
theorem gi_r (a : Gn m) : gm a (gi a) = g1 m := (Classical.choose_spec (inv_all a)).2
theorem gi_cl (a b : Gn m) : gm (gi a) (gm a b) = b := by rw [← gm_as, gi_l, g1_l]
theorem gi_cr (a b : Gn m) : gm a (gm (gi a) b) = b := by rw [← gm_as, gi_r, g1_l]
theorem gi_un {a b : Gn m} (h : gm a b = g1 m) : b = gi a := by
  have := gi_cl a b
  rw [h, g1_r] at this
  exact this.symm
theorem gi_m (a b : Gn m) : gi (gm a b) = gm (gi b) (gi a) := (gi_un (by rw [gm_as, gi_cr, gi_r])).symm
theorem gi_i (a : Gn m) : gi (gi a) = a := (gi_un (gi_l a)).symm
theorem gi_1 : gi (g1 m) = g1 m := (gi_un (g1_l _)).symm
theorem gi_D (k : Int) : gi (gD m k) = gD m (-k) := (gi_un (by rw [gD_m, Int.add_right_neg]; rfl)).symm
end XG3
end
section
/-! 99zzzzzzzzzzzzzzzi.xga3 -/
/-! braids: order, length, meets -/
section XG4
variable {m : N5}
def gpo (a : Gn m) : Prop := ∃ T h, a = gL m T h
def gle (a b : Gn m) : Prop := gpo (gm (gi a) b)
def isM (a b c : Gn m) : Prop := gle c a ∧ gle c b ∧ ∀ z, gle z a → gle z b → gle z c
def szD (m : N5) : Nat := szG m.1 (gNN m.1 - 1)
theorem szT_rp (n : Nat) : ∀ i, szT n (List.replicate i (gNN n - 1)) = i * szG n (gNN n - 1)
  | 0 => (Nat.zero_mul _).symm
  | i + 1 => by
    show szG n (gNN n - 1) + szT n (List.replicate i (gNN n - 1)) = _
    rw [szT_rp n i, Nat.succ_mul, Nat.add_comm]
theorem szT_ov {n : Nat} (h2 : 2 ≤ n) (h5 : n ≤ 5) : ∀ (T : List Nat), okT n T → szT n (T.map (ovG n)) = szT n T
  | [], _ => rfl
  | t :: T, h => by
    obtain ⟨ht, hT⟩ := okT_c.mp h
    show szG n (ovG n t) + szT n (T.map (ovG n)) = szG n t + szT n T
    rw [(f_one h2 h5 ht).2.2.2.1, szT_ov h2 h5 T hT]
def lnR (m : N5) (a : Rw5 m) : Int := a.1.1 * (szD m : Int) + (szT m.1 a.1.2 : Int)
theorem lnR_so {a b : Rw5 m} (h : rq m.1 a.1 b.1) : lnR m a = lnR m b := by
  obtain ⟨i, j, e, h⟩ := h
  have k := szT_eq m.2.1 m.2.2 _ (okT_a.mpr ⟨rp_ok, b.2⟩) (okT_a.mpr ⟨rp_ok, a.2⟩) h
  rw [szT_a, szT_a, szT_rp, szT_rp] at k
  have k' : (i : Int) * (szD m : Int) + (szT m.1 a.1.2 : Int) = (j : Int) * (szD m : Int) + (szT m.1 b.1.2 : Int) := by
    have := congrArg (fun x : Nat => (x : Int)) k
    rw [← Int.natCast_mul, ← Int.natCast_mul, ← Int.natCast_add, ← Int.natCast_add]
    exact this
  unfold lnR
  have ea : a.1.1 = b.1.1 + ((i : Int) - j) := by omega
  rw [ea, Int.add_mul, Int.sub_mul]
  omega
def glen (a : Gn m) : Int := Quot.lift (fun x : Rw5 m => lnR m x) (fun _ _ h => lnR_so h) a
theorem glen_q (a : Rw5 m) : glen (gq m a) = lnR m a := rfl
theorem glen_m (a b : Gn m) : glen (gm a b) = glen a + glen b := by
  obtain ⟨a, rfl⟩ := g_rep a
  obtain ⟨b, rfl⟩ := g_rep b
  rw [gm_q, glen_q, glen_q, glen_q]
  show (a.1.1 + b.1.1) * (szD m : Int) + ((szT m.1 (ovp m.1 b.1.1 a.1.2 ++ b.1.2) : Nat) : Int) = (a.1.1 * (szD m : Int) + (szT m.1 a.1.2 : Int)) + (b.1.1 * (szD m : Int) + (szT m.1 b.1.2 : Int))
  have e : szT m.1 (ovp m.1 b.1.1 a.1.2) = szT m.1 a.1.2 := by
    unfold ovp
    split
    · rfl
    · exact szT_ov m.2.1 m.2.2 _ a.2
  rw [szT_a, e, Int.add_mul, Int.natCast_add]
  omega
theorem glen_L {T : List Nat} {h : okT m.1 T} : glen (gL m T h) = (szT m.1 T : Int) := by
  show (0 : Int) * (szD m : Int) + (szT m.1 T : Int) = _
  rw [Int.zero_mul, Int.zero_add]
theorem glen_D {k : Int} : glen (gD m k) = k * (szD m : Int) := by
  show k * (szD m : Int) + ((0 : Nat) : Int) = _
  exact Int.add_zero _
theorem glen_1 : glen (g1 m) = 0 := by
  rw [g1, glen_D, Int.zero_mul]
theorem glen_i (a : Gn m) : glen (gi a) = - glen a := by
  have := glen_m (gi a) a
  rw [gi_l, glen_1] at this
  omega
theorem gp_L {T : List Nat} {h : okT m.1 T} : gpo (gL m T h) := ⟨T, h, rfl⟩
theorem gp_1 : gpo (g1 m) := ⟨[], okT_n, rfl⟩
theorem gp_m {a b : Gn m} (ha : gpo a) (hb : gpo b) : gpo (gm a b) := by
  obtain ⟨S, hS, rfl⟩ := ha
  obtain ⟨T, hT, rfl⟩ := hb
  rw [gL_m]
  exact gp_L
theorem gp_0 {a : Gn m} (h : gpo a) : 0 ≤ glen a := by
  obtain ⟨S, hS, rfl⟩ := h
  rw [glen_L]
  omega
theorem gp_z {a : Gn m} (h : gpo a) (e : glen a = 0) : a = g1 m := by
  obtain ⟨S, hS, rfl⟩ := h
  rw [glen_L] at e
  rw [← gL_nil (h := okT_n)]
  exact gL_eq (z_szT m.2.1 m.2.2 S hS (by omega))
theorem gp_D (j : Nat) : gpo (gD m (j : Int)) := ⟨_, rp_ok, (gL_rp j).symm⟩
theorem gp_cj {a : Gn m} (k : Int) (h : gpo a) : gpo (gm (gi (gD m k)) (gm a (gD m k))) := by
  obtain ⟨S, hS, rfl⟩ := h
  rw [gL_D, gi_cl]
  exact gp_L
theorem gp_ci {a : Gn m} (k : Int) (h : gpo a) : gpo (gm (gD m k) (gm a (gi (gD m k)))) := by
  have := gp_cj (-k) h
  rw [← gi_D, gi_i] at this
  exact this
theorem gle_1 {a : Gn m} : gle (g1 m) a ↔ gpo a := by
  unfold gle
  rw [gi_1, g1_l]
theorem gle_rf (a : Gn m) : gle a a := by
  unfold gle
  rw [gi_l]
  exact gp_1
theorem gle_tr {a b c : Gn m} (h : gle a b) (h' : gle b c) : gle a c := by
  have := gp_m h h'
  rw [gm_as, gi_cr] at this
  exact this
theorem gle_l (c : Gn m) {a b : Gn m} : gle (gm c a) (gm c b) ↔ gle a b := by
  unfold gle
  rw [gi_m, gm_as, gi_cl]
theorem gle_s (c : Gn m) {a b : Gn m} : gle (gm c a) b ↔ gle a (gm (gi c) b) := by
  unfold gle
  rw [gi_m, gm_as]
theorem gle_rD (k : Int) {a b : Gn m} (h : gle a b) : gle (gm a (gD m k)) (gm b (gD m k)) := by
  have := gp_cj k h
  rw [gm_as] at this
  unfold gle
  rw [gi_m, gm_as]
  exact this
theorem gle_ri (k : Int) {a b : Gn m} (h : gle a b) : gle (gm a (gi (gD m k))) (gm b (gi (gD m k))) := by
  rw [gi_D]
  exact gle_rD (-k) h
theorem gle_ln {a b : Gn m} (h : gle a b) : glen a ≤ glen b ∧ (glen b ≤ glen a → a = b) := by
  have h1 := gp_0 h
  rw [glen_m, glen_i] at h1
  refine ⟨by omega, fun h9 => ?_⟩
  have := gp_z h (by rw [glen_m, glen_i]; omega)
  have e := gi_cr a b
  rw [this, g1_r] at e
  exact e
theorem gle_as {a b : Gn m} (h : gle a b) (h' : gle b a) : a = b := (gle_ln h).2 (gle_ln h').1
theorem gle_p {a b : Gn m} (ha : gpo a) : gle b (gm b a) := by
  unfold gle
  rw [gi_cl]
  exact ha
/-- lists divide as they do -/
theorem gle_L {S T : List Nat} {hS : okT m.1 S} {hT : okT m.1 T} : gle (gL m S hS) (gL m T hT) ↔ dvT m.1 S T := by
  constructor
  · rintro ⟨C, hC, e⟩
    have e2 := gi_cr (gL m S hS) (gL m T hT)
    rw [e, gL_m] at e2
    exact ⟨C, hC, eqT_sy (gL_ex e2)⟩
  · rintro ⟨C, hC, e⟩
    refine ⟨C, hC, ?_⟩
    rw [gL_eq (hT := okT_a.mpr ⟨hS, hC⟩) e, ← gL_m hS hC, gi_cl]
theorem g_up (a : Gn m) : ∃ j : Nat, ∀ i : Nat, j ≤ i → gpo (gm (gD m (i : Int)) a) := by
  obtain ⟨a, rfl⟩ := g_rep a
  refine ⟨(-a.1.1).toNat, fun i hi => ?_⟩
  rw [g_eq, ← gm_as, gD_m]
  obtain ⟨j, hj⟩ : ∃ j : Nat, (i : Int) + a.1.1 = (j : Int) := ⟨((i : Int) + a.1.1).toNat, by omega⟩
  rw [hj]
  exact gp_m (gp_D j) gp_L
theorem gmeet (a b : Gn m) : ∃ c, isM a b c := by
  obtain ⟨ja, hja⟩ := g_up a
  obtain ⟨jb, hjb⟩ := g_up b
  obtain ⟨A, hA, eA⟩ := hja (ja + jb) (by omega)
  obtain ⟨B, hB, eB⟩ := hjb (ja + jb) (by omega)
  obtain ⟨C, hC, c1, c2, c3⟩ := gcd_ex m.2.1 m.2.2 hA hB
  refine ⟨gm (gi (gD m ((ja + jb : Nat) : Int))) (gL m C hC), ?_, ?_, fun z h1 h2 => ?_⟩
  · rw [← gle_l (gD m ((ja + jb : Nat) : Int)), gi_cr, eA]
    exact gle_L.mpr c1
  · rw [← gle_l (gD m ((ja + jb : Nat) : Int)), gi_cr, eB]
    exact gle_L.mpr c2
  · obtain ⟨jz, hjz⟩ := g_up z
    obtain ⟨Z, hZ, eZ⟩ := hjz (jz + (ja + jb)) (by omega)
    have eD : gD m ((jz + (ja + jb) : Nat) : Int) = gm (gD m (jz : Int)) (gD m ((ja + jb : Nat) : Int)) := by
      rw [gD_m]
      congr 1
    have hR : okT m.1 (List.replicate jz (gNN m.1 - 1)) := rp_ok
    have mv : ∀ {x : Gn m} {X : List Nat} {hX : okT m.1 X}, gm (gD m ((ja + jb : Nat) : Int)) x = gL m X hX → gle z x → dvT m.1 Z (List.replicate jz (gNN m.1 - 1) ++ X) := by
      intro x X hX e h
      have := (gle_l (gD m ((jz + (ja + jb) : Nat) : Int))).mpr h
      rw [eZ, eD, gm_as, e, ← gL_rp (h := hR) jz, gL_m] at this
      exact gle_L.mp this
    obtain ⟨C', hC', d1, d2, d3⟩ := gcd_ex m.2.1 m.2.2 (okT_a.mpr ⟨hR, hA⟩) (okT_a.mpr ⟨hR, hB⟩)
    have z1 := d3 Z hZ (mv eA h1) (mv eB h2)
    obtain ⟨E, hE, e1⟩ := d3 _ hR ⟨A, hA, eqT_rf _⟩ ⟨B, hB, eqT_rf _⟩
    have cn : ∀ {X : List Nat}, okT m.1 X → dvT m.1 C' (List.replicate jz (gNN m.1 - 1) ++ X) → dvT m.1 E X := by
      rintro X hX ⟨F, hF, e2⟩
      have e3 := eqT_tr e2 (eqT_ap m.2.1 m.2.2 F hF hC' (okT_a.mpr ⟨hR, hE⟩) e1)
      rw [List.append_assoc] at e3
      exact ⟨F, hF, eqT_cl m.2.1 m.2.2 _ hR hX (okT_a.mpr ⟨hE, hF⟩) e3⟩
    obtain ⟨F, hF, e4⟩ := c3 E hE (cn hA d1) (cn hB d2)
    have z2 : dvT m.1 Z (List.replicate jz (gNN m.1 - 1) ++ C) := by
      refine dvT_tr m.2.1 m.2.2 hZ hC' z1 ⟨F, hF, ?_⟩
      have k1 := eqT_pr m.2.1 m.2.2 hR e4
      have k2 := eqT_ap m.2.1 m.2.2 F hF hC' (okT_a.mpr ⟨hR, hE⟩) e1
      rw [List.append_assoc] at k2
      exact eqT_tr k1 (eqT_sy k2)
    rw [← gle_l (gD m ((jz + (ja + jb) : Nat) : Int)), eZ, eD, gm_as, gi_cr, ← gL_rp (h := hR) jz, gL_m]
    exact gle_L.mpr z2
theorem isM_un {a b c c' : Gn m} (h : isM a b c) (h' : isM a b c') : c = c' := gle_as (h'.2.2 c h.1 h.2.1) (h.2.2 c' h'.1 h'.2.1)
/-- what is positive and not 1 begins with a simple one -/
theorem gp_hd {a : Gn m} (h : gpo a) : a = g1 m ∨ ∃ t h1, t ≠ 0 ∧ t < gNN m.1 ∧ gle (gL m [t] h1) a := by
  obtain ⟨T, hT, rfl⟩ := h
  induction T with
  | nil => exact Or.inl rfl
  | cons t T ih =>
    obtain ⟨ht, hT'⟩ := okT_c.mp hT
    by_cases e : t = 0
    · subst e
      have e2 : gL m (0 :: T) hT = gL m T hT' := gL_eq (eqT_id (X := []) m.2.1 m.2.2 okT_n hT')
      rw [e2]
      exact ih hT'
    · exact Or.inr ⟨t, okT_c.mpr ⟨ht, okT_n⟩, e, ht, gle_L.mpr ⟨T, hT', eqT_rf _⟩⟩
theorem gle_tD {t : Nat} (ht : t < gNN m.1) {h : okT m.1 [t]} : gle (gL m [t] h) (gD m 1) := by
  have h2 := m.2.1
  have h5 := m.2.2
  have x1 := dd_lt h2 h5 ht (dl_lt (n := m.1))
  have e2 := dd_mu h2 h5 ht dl_lt (d_pk h2 h5 ht).2.2.2.2
  have hX : okT m.1 [ddG m.1 t (gNN m.1 - 1)] := okT_c.mpr ⟨x1, okT_n⟩
  rw [← D_t ht x1 e2 (h := okT_c.mpr ⟨ht, hX⟩)]
  exact gle_L.mpr ⟨_, hX, eqT_rf _⟩
theorem gp_D1 {a e : Gn m} (h : gpo a) (he : isM a (gD m 1) e) (h0 : glen e = 0) : a = g1 m := by
  rcases gp_hd h with h9 | ⟨t, h1, t0, ht, h9⟩
  · exact h9
  · exfalso
    have k := he.2.2 _ h9 (gle_tD ht)
    have k1 := (gle_ln k).1
    rw [glen_L, h0] at k1
    have k2 : szT m.1 [t] = szG m.1 t + 0 := rfl
    exact t0 (sz_z m.2.1 m.2.2 ht (by omega))
end XG4
end
section
/-! 99zzzzzzzzzzzzzzzj.xga4 -/
/-! braids: cyclings that raise; summit sets hang together -/
section XG5
variable {m : N5}
def rsd (k : Int) (a : Gn m) : Prop := gle (gD m (k + 1)) a
def mnP (k : Int) (a d : Gn m) : Prop := gpo d ∧ rsd k (gm d (gm a (gi d))) ∧ ∀ f, gpo f → rsd k (gm f (gm a (gi f))) → glen d ≤ glen f
theorem D_k1 (k : Int) : gD m (k + 1) = gm (gD m k) (gD m 1) := (gD_m k 1).symm
theorem D_cm (k l : Int) : gm (gD m k) (gD m l) = gm (gD m l) (gD m k) := by
  rw [gD_m, gD_m, Int.add_comm]
theorem D_c1 (k l : Int) : gm (gi (gD m k)) (gm (gD m l) (gD m k)) = gD m l := by
  rw [D_cm l k, gi_cl]
theorem rsd_cj {k j : Int} {a : Gn m} (h : rsd k a) : rsd k (gm (gi (gD m j)) (gm a (gD m j))) := by
  have := gp_cj j h
  unfold rsd gle
  rw [gm_as] at this
  rw [gi_D, gi_D, ← gm_as, gD_m, Int.add_comm, ← gD_m, gm_as]
  rw [gi_D, gi_D] at this
  exact this
theorem rsd_ci {k j : Int} {a : Gn m} (h : rsd k a) : rsd k (gm (gD m j) (gm a (gi (gD m j)))) := by
  have := rsd_cj (j := -j) h
  rw [gi_D, Int.neg_neg, ← gi_D] at this
  exact this
/-- what is raised: delta times a positive one -/
theorem rsd_q {k : Int} {a : Gn m} (h : rsd k a) : ∃ q, gpo q ∧ a = gm (gD m k) (gm (gD m 1) q) := by
  refine ⟨gm (gi (gD m (k + 1))) a, h, ?_⟩
  rw [← gm_as, ← D_k1, gi_cr]
theorem low_i {k : Int} {a i : Gn m} (hl : gle (gD m k) a) (hi : isM (gm a (gi (gD m k))) (gD m 1) i) : gpo i ∧ gpo (gm (gD m 1) (gi i)) ∧ glen i ≤ glen (gD m 1) := by
  have p1 : gpo (gm a (gi (gD m k))) := by
    have := gp_ci k hl
    rw [gm_as, gi_cr] at this
    exact this
  have pi : gpo i := gle_1.mp (hi.2.2 _ (gle_1.mpr p1) (gle_1.mpr (gp_D 1)))
  refine ⟨pi, ?_, (gle_ln hi.2.1).1⟩
  have := gp_ci 1 hi.2.1
  rw [gm_as, gi_r, g1_r] at this
  exact this
theorem low_c {k : Int} {a i : Gn m} (hl : gle (gD m k) a) (hi : isM (gm a (gi (gD m k))) (gD m 1) i) : gle (gD m k) (gm (gi i) (gm a i)) := by
  have w := gp_cj k hi.1
  have := gp_m w (low_i hl hi).1
  unfold gle
  simp only [gm_as, gi_m, gi_i, gi_cl, gi_cr, gi_l, gi_r, g1_l, g1_r] at this ⊢
  exact this
theorem bkl_st {k : Int} {a d i : Gn m} (hl : gle (gD m k) a) (hd : mnP k a d) (hi : isM (gm a (gi (gD m k))) (gD m 1) i) : mnP k (gm (gi i) (gm a i)) (gm (gi (gD m 1)) (gm d i)) ∧ ∀ e e', isM d (gD m 1) e → isM (gm (gi (gD m 1)) (gm d i)) (gD m 1) e' → glen e = 0 ∨ glen e' < glen e := by
  obtain ⟨d1, d2, d3⟩ := hd
  obtain ⟨i1, i2, i3⟩ := low_i hl hi
  obtain ⟨q, q1, q2⟩ := rsd_q d2
  have eQ : gm d a = gm (gD m k) (gm (gD m 1) (gm q d)) := by
    have := congrArg (fun x => gm x d) q2
    simp only [gm_as, gi_l, g1_r] at this
    exact this
  have cmE : gm (gD m k) (gD m 1) = gm (gD m 1) (gD m k) := D_cm k 1
  -- the new one is positive
  have g1' : gle (gD m 1) (gm d i) := by
    rw [← gi_i d, ← gle_s (gi d)]
    refine hi.2.2 _ ?_ ?_
    · rw [gle_s (gi d), gi_i, ← gm_as d a, eQ]
      unfold gle
      have := gp_ci k (gp_m q1 d1)
      rw [← gm_as (gD m k), cmE]
      simp only [gm_as, gi_cl] at this ⊢
      exact this
    · rw [gle_s (gi d), gi_i]
      exact gp_cj 1 d1
  have p'' : gpo (gm (gi (gD m 1)) (gm d i)) := g1'
  have r'' : rsd k (gm (gm (gi (gD m 1)) (gm d i)) (gm (gm (gi i) (gm a i)) (gi (gm (gi (gD m 1)) (gm d i))))) := by
    have := rsd_cj (j := 1) d2
    simp only [gm_as, gi_m, gi_i, gi_cl, gi_cr] at this ⊢
    exact this
  have ln'' : glen (gm (gi (gD m 1)) (gm d i)) = glen d + glen i - glen (gD m 1) := by
    rw [glen_m, glen_m, glen_i]
    omega
  refine ⟨⟨p'', r'', fun f f1 f2 => ?_⟩, fun e e' he he' => ?_⟩
  · have pf : gpo (gm (gD m 1) (gm f (gi i))) := by
      have := gp_m (gp_ci 1 f1) i2
      simp only [gm_as, gi_cl] at this
      exact this
    have rf : rsd k (gm (gm (gD m 1) (gm f (gi i))) (gm a (gi (gm (gD m 1) (gm f (gi i)))))) := by
      have := rsd_ci (j := 1) f2
      simp only [gm_as, gi_m, gi_i, gi_cl, gi_cr] at this ⊢
      exact this
    have := d3 _ pf rf
    rw [glen_m, glen_m, glen_i] at this
    rw [ln'']
    omega
  · have pe : gpo e := gle_1.mp (he.2.2 _ (gle_1.mpr d1) (gle_1.mpr (gp_D 1)))
    obtain ⟨u, hu⟩ : ∃ u, u = gm (gi e) (gD m 1) := ⟨_, rfl⟩
    have pu : gpo u := by rw [hu]; exact he.2.1
    have ee : gi e = gm u (gi (gD m 1)) := by
      rw [hu, gm_as, gi_r, g1_r]
    -- the braid between
    have hlow : gle (gD m k) (gm (gi e) (gm (gm d (gm a (gi d))) e)) := by
      rw [q2, ee]
      unfold gle
      have := gp_m (gp_cj k pu) (gp_m q1 pe)
      have c9 : gm (gi (gD m 1)) (gm (gD m k) (gm (gD m 1) (gm q e))) = gm (gD m k) (gm q e) := by
        rw [← gm_as (gD m k), cmE, gm_as, gi_cl]
      simp only [gm_as] at this ⊢
      rw [c9]
      exact this
    obtain ⟨ie, hie⟩ := gmeet (gm (gm (gi e) (gm (gm d (gm a (gi d))) e)) (gi (gD m k))) (gD m 1)
    obtain ⟨j1, j2, j3⟩ := low_i hlow hie
    have b0 : gle (gm (gD m 1) e') (gm d i) := by
      rw [gle_s]
      exact he'.1
    have b1 : gle (gm (gD m 1) e') (gm (gD m 1) (gD m 1)) := (gle_l _).mpr he'.2.1
    have key : gle (gm (gD m 1) e') (gm e ie) := by
      rw [← gi_i e, ← gle_s (gi e)]
      refine hie.2.2 _ ?_ ?_
      · rw [gm_as (gi e), gle_l (gi e)]
        -- below Q e D^-k
        have s1 : gle (gm (gi (gm d (gm a (gi d)))) (gm (gm (gD m 1) e') (gD m k))) e := by
          refine he.2.2 _ ?_ ?_
          · rw [gle_s, gi_i]
            have b2 : gle (gm (gD m 1) e') (gm d (gm a (gi (gD m k)))) := gle_tr b0 ((gle_l d).mpr hi.1)
            have := gle_rD k b2
            simp only [gm_as, gi_l, g1_r] at this ⊢
            exact this
          · rw [gle_s, gi_i]
            have b2 : gle (gD m 1) (gm (gm d (gm a (gi d))) (gi (gD m k))) := by
              rw [q2]
              unfold gle
              have := gp_ci k q1
              rw [← gm_as (gD m k), cmE]
              simp only [gm_as, gi_cl] at this ⊢
              exact this
            have b3 := gle_tr b1 (gle_rD 1 b2)
            have := gle_rD k b3
            have c9 : gm (gi (gD m k)) (gm (gD m 1) (gD m k)) = gD m 1 := D_c1 k 1
            simp only [gm_as] at this ⊢
            rw [c9] at this
            exact this
        rw [gle_s, gi_i] at s1
        have := gle_ri k s1
        simp only [gm_as, gi_r, g1_r] at this ⊢
        exact this
      · rw [gle_s (gi e), gi_i]
        have s1 : gle (gm (gm (gD m 1) e') (gi (gD m 1))) e := by
          refine he.2.2 _ ?_ ?_
          · have b2 : gle (gm (gD m 1) e') (gm d (gD m 1)) := gle_tr b0 ((gle_l d).mpr hi.2.1)
            have := gle_ri 1 b2
            simp only [gm_as, gi_r, g1_r] at this ⊢
            exact this
          · have := gle_ri 1 b1
            simp only [gm_as, gi_r, g1_r] at this ⊢
            exact this
        have := gle_rD 1 s1
        simp only [gm_as, gi_l, g1_r] at this ⊢
        exact this
    have kl := (gle_ln key).1
    rw [glen_m, glen_m] at kl
    by_cases h9 : glen e' < glen e
    · exact Or.inr h9
    · refine Or.inl ?_
      have e9 : ie = gD m 1 := (gle_ln hie.2.1).2 (by omega)
      have rE : rsd k (gm (gi e) (gm (gm d (gm a (gi d))) e)) := by
        have h1 := hie.1
        rw [e9] at h1
        have := gle_rD k h1
        rw [gm_as, gi_l, g1_r, D_cm 1 k, ← D_k1] at this
        exact this
      have pf : gpo (gm (gi e) d) := he.1
      have rf : rsd k (gm (gm (gi e) d) (gm a (gi (gm (gi e) d)))) := by
        simp only [gm_as, gi_m, gi_i] at rE ⊢
        exact rE
      have := d3 _ pf rf
      rw [glen_m, glen_i] at this
      have := gp_0 pe
      omega
/-- at most as many cyclings as delta has letters raise what can be raised -/
theorem bkl {k : Int} {s i : Nat → Gn m} (hl : gle (gD m k) (s 0)) (hi : ∀ j, isM (gm (s j) (gi (gD m k))) (gD m 1) (i j)) (hs : ∀ j, s (j + 1) = gm (gi (i j)) (gm (s j) (i j))) {x : Gn m} (hx : rsd k (gm (gi x) (gm (s 0) x))) : ∃ N, N ≤ szD m ∧ rsd k (s N) := by
  have low : ∀ j, gle (gD m k) (s j) := by
    intro j
    induction j with
    | zero => exact hl
    | succ j ih =>
      rw [hs j]
      exact low_c ih (hi j)
  have key : ∀ (L j : Nat) (d e : Gn m), mnP k (s j) d → isM d (gD m 1) e → glen e ≤ (L : Int) → ∃ N, N ≤ j + L ∧ rsd k (s N) := by
    intro L
    induction L with
    | zero =>
      intro j d e hd he hL
      have pe : gpo e := gle_1.mp (he.2.2 _ (gle_1.mpr hd.1) (gle_1.mpr (gp_D 1)))
      have := gp_0 pe
      have ed := gp_D1 hd.1 he (by omega)
      have h2 := hd.2.1
      rw [ed, gi_1, g1_l, g1_r] at h2
      exact ⟨j, by omega, h2⟩
    | succ L ih =>
      intro j d e hd he hL
      obtain ⟨e', he'⟩ := gmeet (gm (gi (gD m 1)) (gm d (i j))) (gD m 1)
      obtain ⟨k1, k2⟩ := bkl_st (low j) hd (hi j)
      rcases k2 e e' he he' with h9 | h9
      · have ed := gp_D1 hd.1 he h9
        have h2 := hd.2.1
        rw [ed, gi_1, g1_l, g1_r] at h2
        exact ⟨j, by omega, h2⟩
      · rw [← hs j] at k1
        obtain ⟨N, n1, n2⟩ := ih (j + 1) _ e' k1 he' (by omega)
        exact ⟨N, by omega, n2⟩
  -- a shortest one
  obtain ⟨j, hj⟩ := g_up (gi x)
  have p0 := hj j (Nat.le_refl _)
  have r0 : rsd k (gm (gm (gD m (j : Int)) (gi x)) (gm (s 0) (gi (gm (gD m (j : Int)) (gi x))))) := by
    have := rsd_ci (j := (j : Int)) hx
    simp only [gm_as, gi_m, gi_i] at this ⊢
    exact this
  obtain ⟨L, ⟨d, d1, d2, d3⟩, hmin⟩ := pk_least (fun L : Nat => ∃ d : Gn m, gpo d ∧ rsd k (gm d (gm (s 0) (gi d))) ∧ glen d = (L : Int)) ⟨(glen (gm (gD m (j : Int)) (gi x))).toNat, _, p0, r0, by have := gp_0 p0; omega⟩
  have hd : mnP k (s 0) d := ⟨d1, d2, fun f f1 f2 => by
    have f0 := gp_0 f1
    rcases Int.lt_or_le (glen f) (glen d) with h9 | h9
    · exact absurd ⟨f, f1, f2, by omega⟩ (hmin (glen f).toNat (by omega))
    · exact h9⟩
  obtain ⟨e, he⟩ := gmeet d (gD m 1)
  have le := (gle_ln he.2.1).1
  rw [glen_D, Int.one_mul] at le
  obtain ⟨N, n1, n2⟩ := key (szD m) 0 d e hd he le
  exact ⟨N, by omega, n2⟩
/-- between two of a summit set: a simple one that stays in it -/
theorem sss_st {k s : Int} {a x e : Gn m} (l1 : gle (gD m k) a) (u1 : gle a (gD m s)) (l2 : gle (gD m k) (gm (gi x) (gm a x))) (u2 : gle (gm (gi x) (gm a x)) (gD m s)) (he : isM x (gD m 1) e) : gle (gD m k) (gm (gi e) (gm a e)) ∧ gle (gm (gi e) (gm a e)) (gD m s) := by
  constructor
  · rw [← gle_s]
    have s1 : gle (gm (gi a) (gm e (gD m k))) e := by
      refine he.2.2 _ ?_ ?_
      · rw [gle_s, gi_i]
        rw [← gle_s] at l2
        exact gle_tr (gle_rD k he.1) l2
      · rw [gle_s, gi_i]
        refine gle_tr (gle_rD k he.2.1) ?_
        rw [D_cm 1 k]
        exact gle_rD 1 l1
    rw [gle_s, gi_i] at s1
    exact s1
  · rw [gle_s, gi_i]
    have s1 : gle (gm (gm a e) (gi (gD m s))) e := by
      refine he.2.2 _ ?_ ?_
      · rw [gle_s, gi_i] at u2
        have := gle_ri s (gle_tr ((gle_l a).mpr he.1) u2)
        rw [gm_as x, gi_r, g1_r] at this
        exact this
      · have h1 := gle_tr ((gle_l a).mpr he.2.1) (gle_rD 1 u1)
        rw [D_cm s 1] at h1
        have := gle_ri s h1
        rw [gm_as (gD m 1), gi_r, g1_r] at this
        exact this
    have := gle_rD s s1
    rw [gm_as (gm a e), gi_l, g1_r] at this
    exact this
end XG5
end
section
/-! 99zzzzzzzzzzzzzzzk.xga5 -/
/-! braids: forms in the group: inf, sup, the first and the last factor -/
section XG6
variable {m : N5}
theorem dv_1 {n : Nat} (h2 : 2 ≤ n) (h5 : n ≤ 5) {t x : Nat} (ht : t < gNN n) (hx : x < gNN n) : dvT n [t] [x] ↔ ddG n x t = 0 := dv_r1 h2 h5 ht (okT_c.mpr ⟨hx, okT_n⟩)
/-- what divides a simple one is simple -/
theorem dv_s {n : Nat} (h2 : 2 ≤ n) (h5 : n ≤ 5) : ∀ (T : List Nat) {x : Nat}, okT n T → x < gNN n → dvT n T [x] → ∃ t, t < gNN n ∧ eqT n T [t] ∧ ddG n x t = 0
  | [], x, _, hx, _ => ⟨0, nn_0, eqT_sy (eqT_id (X := []) (Y := []) h2 h5 okT_n okT_n), dd_0r h2 h5 hx⟩
  | t :: T, x, hT, hx, ⟨C, c1, c2⟩ => by
    obtain ⟨ht, hT'⟩ := okT_c.mp hT
    have c2 : eqT n [x] (t :: (T ++ C)) := c2
    have hC : okT n (T ++ C) := okT_a.mpr ⟨hT', c1⟩
    have k1 : ddG n x t = 0 := (hd_1 h2 h5 (okT_c.mpr ⟨ht, hC⟩) c2).1
    have hy := dd_lt h2 h5 ht hx
    have e1 := dd_mu h2 h5 ht hx k1
    have k2 : eqT n [x] [t, ddG n t x] := eqT_sy (eqT_tr (eqT_swp (X := []) (Y := []) h2 h5 okT_n okT_n ht hy nn_0 e1 (mu_r0 h2 h5)) (eqT_id (X := [x]) (Y := []) h2 h5 (okT_c.mpr ⟨hx, okT_n⟩) okT_n))
    have k3 : eqT n [ddG n t x] (T ++ C) := eqT_c1 h2 h5 ht (okT_c.mpr ⟨hy, okT_n⟩) hC (eqT_tr (eqT_sy k2) c2)
    obtain ⟨s, s1, s2, s3⟩ := dv_s h2 h5 T hT' hy ⟨C, c1, k3⟩
    have e2 := dd_mu h2 h5 s1 hy s3
    obtain ⟨w, w1⟩ : ∃ w, muG n t s = w + 1 := ⟨muG n t s - 1, by
      have := mu_sub h2 h5 ht hy s1 (by rw [e1]; omega) s3
      omega⟩
    have hw := (mu_lt h2 h5 ht w1).1
    refine ⟨w, hw, ?_, ?_⟩
    · have a1 : eqT n (t :: T) [t, s] := eqT_pr (P := [t]) h2 h5 (okT_c.mpr ⟨ht, okT_n⟩) s2
      have a2 : eqT n [t, s] [w] := eqT_tr (eqT_swp (X := []) (Y := []) h2 h5 okT_n okT_n ht s1 nn_0 w1 (mu_r0 h2 h5)) (eqT_id (X := [w]) (Y := []) h2 h5 (okT_c.mpr ⟨hw, okT_n⟩) okT_n)
      exact eqT_tr a1 a2
    · refine (dv_1 h2 h5 hw hx).mp ?_
      have a2 : eqT n [w] [t, s] := eqT_sy (eqT_tr (eqT_swp (X := []) (Y := []) h2 h5 okT_n okT_n ht s1 nn_0 w1 (mu_r0 h2 h5)) (eqT_id (X := [w]) (Y := []) h2 h5 (okT_c.mpr ⟨hw, okT_n⟩) okT_n))
      have hts : okT n [t, s] := okT_c.mpr ⟨ht, okT_c.mpr ⟨s1, okT_n⟩⟩
      refine dvT_el h2 h5 hts (okT_c.mpr ⟨hw, okT_n⟩) ?_ a2
      obtain ⟨C', d1, d2⟩ := (dv_1 h2 h5 s1 hy).mpr s3
      exact ⟨C', d1, eqT_tr k2 (eqT_pr (P := [t]) h2 h5 (okT_c.mpr ⟨ht, okT_n⟩) d2)⟩
theorem gp_smp {c : Gn m} (h : gpo c) (hD : gle c (gD m 1)) : ∃ t h, t < gNN m.1 ∧ c = gL m [t] h := by
  obtain ⟨T, hT, rfl⟩ := h
  have hR : okT m.1 (List.replicate 1 (gNN m.1 - 1)) := rp_ok
  have e1 : gD m 1 = gL m (List.replicate 1 (gNN m.1 - 1)) hR := (gL_rp 1).symm
  rw [e1] at hD
  obtain ⟨t, t1, t2, -⟩ := dv_s m.2.1 m.2.2 T hT dl_lt (gle_L.mp hD)
  exact ⟨t, okT_c.mpr ⟨t1, okT_n⟩, t1, gL_eq t2⟩
/-- the first factor -/
theorem fst_M {f : Nat} {F : List Nat} {hf : okT m.1 [f]} {hF : okT m.1 (f :: F)} (hw : wtL m.1 (f :: F)) : isM (gL m (f :: F) hF) (gD m 1) (gL m [f] hf) := by
  have hfl := (okT_c.mp hF).1
  obtain ⟨c, hc⟩ := gmeet (gL m (f :: F) hF) (gD m 1)
  have l1 : gle (gL m [f] hf) (gL m (f :: F) hF) := gle_L.mpr ⟨F, (okT_c.mp hF).2, eqT_rf _⟩
  have p1 := hc.2.2 _ l1 (gle_tD hfl)
  have pc : gpo c := gle_1.mp (hc.2.2 _ (gle_1.mpr gp_L) (gle_1.mpr (gp_D 1)))
  obtain ⟨t, h1, t1, rfl⟩ := gp_smp pc hc.2.1
  have k := (dv_r1 m.2.1 m.2.2 t1 hF).mp (gle_L.mp hc.1)
  have k2 := lw_div m.2.1 m.2.2 F hF hw t1 k
  have p2 : gle (gL m [t] h1) (gL m [f] hf) := gle_L.mpr ((dv_1 m.2.1 m.2.2 t1 hfl).mpr k2)
  rw [gle_as p1 p2]
  exact hc
theorem sz_D1 : 1 ≤ szD m := (f_fiv m.2.1 m.2.2 (a := 0) (by have := m.2.1; omega)).2.2.2.2.1
theorem dl_0 : gNN m.1 - 1 ≠ 0 := fun e => by
  have := sz_D1 (m := m)
  unfold szD at this
  rw [e, sz_0 m.2.1 m.2.2] at this
  omega
theorem nf_c {n f : Nat} {F : List Nat} (h : nfL n (f :: F)) : nfL n F := ⟨(okT_c.mp h.1).2, wtL_t h.2.1, fun g hg => h.2.2 g (List.mem_cons_of_mem _ hg)⟩
/-- no delta in front of a form -/
theorem nf_inf {F : List Nat} {hF : okT m.1 F} (h : nfL m.1 F) : ¬ gle (gD m 1) (gL m F hF) := by
  intro h9
  cases F with
  | nil =>
    have := (gle_ln h9).1
    rw [glen_D, glen_L, Int.one_mul] at this
    have h0 : szT m.1 [] = 0 := rfl
    have := sz_D1 (m := m)
    omega
  | cons f F =>
    obtain ⟨hf, hF'⟩ := okT_c.mp hF
    have k := (fst_M (hf := okT_c.mpr ⟨hf, okT_n⟩) (hF := hF) h.2.1).2.2 _ h9 (gle_rf _)
    have e := gle_as k (gle_tD hf)
    have hR : okT m.1 (List.replicate 1 (gNN m.1 - 1)) := rp_ok
    have e1 : gD m 1 = gL m (List.replicate 1 (gNN m.1 - 1)) hR := (gL_rp 1).symm
    rw [e1] at e
    have e2 : eqT m.1 [gNN m.1 - 1] [f] := gL_ex e
    have d1 := (dv_1 m.2.1 m.2.2 dl_lt hf).mp ⟨[], okT_n, eqT_sy e2⟩
    exact (h.2.2 f List.mem_cons_self).2 (dv_as m.2.1 m.2.2 hf dl_lt (d_pk m.2.1 m.2.2 hf).2.2.2.2 d1)
theorem gL_c {t : Nat} {T : List Nat} {h : okT m.1 (t :: T)} (h1 : okT m.1 [t]) (h2 : okT m.1 T) : gL m (t :: T) h = gm (gL m [t] h1) (gL m T h2) := (gL_m h1 h2).symm
theorem gle_sm {i j : Int} (h : i ≤ j) : gle (gD m i) (gD m j) := by
  unfold gle
  rw [gi_D, gD_m]
  obtain ⟨d, hd⟩ : ∃ d : Nat, -i + j = (d : Int) := ⟨(-i + j).toNat, by omega⟩
  rw [hd]
  exact gp_D d
/-- so many factors, so many deltas -/
theorem sup_le : ∀ (T : List Nat) {h : okT m.1 T}, gle (gL m T h) (gD m (T.length : Int))
  | [], h => gle_rf _
  | t :: T, h => by
    obtain ⟨ht, hT⟩ := okT_c.mp h
    have h1 : okT m.1 [t] := okT_c.mpr ⟨ht, okT_n⟩
    rw [gL_c h1 hT]
    have k1 := (gle_l (gL m [t] h1)).mpr (sup_le T (h := hT))
    have k2 := gle_rD (T.length : Int) (gle_tD ht (h := h1))
    rw [D_cm, gD_m] at k2
    exact gle_tr k1 k2
theorem nf_sup : ∀ (F : List Nat) {h : okT m.1 F} (l : Nat), nfL m.1 F → gle (gL m F h) (gD m (l : Int)) → F.length ≤ l
  | [], _, l, _, _ => Nat.zero_le _
  | f :: F, h, 0, hn, hl => by
    exfalso
    have hf := (okT_c.mp h).1
    have := (gle_ln hl).1
    rw [glen_L, glen_D, Int.natCast_zero, Int.zero_mul] at this
    have e : szT m.1 (f :: F) = szG m.1 f + szT m.1 F := rfl
    exact (hn.2.2 f List.mem_cons_self).1 (sz_z m.2.1 m.2.2 hf (by omega))
  | f :: F, h, l + 1, hn, hl => by
    obtain ⟨hf, hF⟩ := okT_c.mp h
    have h1 : okT m.1 [f] := okT_c.mpr ⟨hf, okT_n⟩
    have hM := fst_M (hf := h1) (hF := h) hn.2.1
    have k : gle (gm (gL m (f :: F) h) (gi (gD m (l : Int)))) (gL m [f] h1) := by
      refine hM.2.2 _ ?_ ?_
      · unfold gle
        rw [gi_m, gi_i, gm_as, gi_l, g1_r]
        exact gp_D l
      · have e : gD m ((l + 1 : Nat) : Int) = gm (gD m 1) (gD m (l : Int)) := by
          rw [gD_m]
          congr 1
          omega
        have := gle_ri (l : Int) hl
        rw [e, gm_as (gD m 1), gi_r, g1_r] at this
        exact this
    have k2 := gle_rD (l : Int) k
    rw [gm_as (gL m (f :: F) h), gi_l, g1_r, gL_c h1 hF, gle_l] at k2
    have := nf_sup F l (nf_c hn) k2
    show F.length + 1 ≤ l + 1
    omega
/-- the last factor: what the inverse begins with -/
theorem lst_M {a : Nat} {F : List Nat} {hF : okT m.1 (F ++ [a])} (ha1 : okT m.1 [a]) (hn : nfL m.1 (F ++ [a])) : isM (gm (gi (gL m (F ++ [a]) hF)) (gD m ((F.length + 1 : Nat) : Int))) (gD m 1) (gm (gi (gL m [a] ha1)) (gD m 1)) := by
  obtain ⟨hF0, -⟩ := okT_a.mp hF
  have ha := (okT_c.mp ha1).1
  have eF : gL m (F ++ [a]) hF = gm (gL m F hF0) (gL m [a] ha1) := (gL_m hF0 ha1).symm
  have eD : gD m ((F.length + 1 : Nat) : Int) = gm (gD m (F.length : Int)) (gD m 1) := by
    rw [gD_m]
    congr 1
  have b1 : gle (gm (gi (gL m [a] ha1)) (gD m 1)) (gD m 1) := by
    unfold gle
    rw [gi_m, gi_i, gm_as]
    exact gp_cj 1 gp_L
  have b2 : gle (gm (gi (gL m [a] ha1)) (gD m 1)) (gm (gi (gL m (F ++ [a]) hF)) (gD m ((F.length + 1 : Nat) : Int))) := by
    unfold gle
    rw [eF, eD]
    have := gp_cj 1 (sup_le F (h := hF0))
    simp only [gm_as, gi_m, gi_i, gi_cr] at this ⊢
    exact this
  obtain ⟨c, hc⟩ := gmeet (gm (gi (gL m (F ++ [a]) hF)) (gD m ((F.length + 1 : Nat) : Int))) (gD m 1)
  have k1 := hc.2.2 _ b2 b1
  -- u: what c has more
  obtain ⟨u, hu⟩ : ∃ u, u = gm (gi (gm (gi (gL m [a] ha1)) (gD m 1))) c := ⟨_, rfl⟩
  have pu : gpo u := by rw [hu]; exact k1
  have ec : c = gm (gi (gL m [a] ha1)) (gm (gD m 1) u) := by
    rw [hu]
    simp only [gm_as, gi_m, gi_i, gi_cr, gi_cl]
  have pv : gpo (gm (gD m 1) (gm u (gi (gD m 1)))) := gp_ci 1 pu
  have va : gle (gm (gD m 1) (gm u (gi (gD m 1)))) (gL m [a] ha1) := by
    have := hc.2.1
    rw [ec, gle_s, gi_i] at this
    have := gle_ri 1 this
    simp only [gm_as, gi_r, g1_r] at this ⊢
    exact this
  have vF : gle (gm (gL m F hF0) (gm (gD m 1) (gm u (gi (gD m 1))))) (gD m (F.length : Int)) := by
    have := hc.1
    rw [eF, eD, ec, ← gle_s] at this
    have := gle_ri 1 this
    simp only [gm_as, gi_r, g1_r, gi_cr] at this ⊢
    exact this
  obtain ⟨t, h1, t1, et⟩ := gp_smp pv (gle_tr va (gle_tD ha))
  rw [et] at va vF
  have dt := (dv_1 m.2.1 m.2.2 t1 ha).mp (gle_L.mp va)
  have t0 : t = 0 := by
    refine Classical.byContradiction (fun hne => ?_)
    have hta : okT m.1 (F ++ [t]) := okT_a.mpr ⟨hF0, h1⟩
    have hn2 : nfL m.1 (F ++ [t]) := by
      refine ⟨hta, fun i g g' e1 e2 => ?_, fun g hg => ?_⟩
      · have l2 := (List.getElem?_eq_some_iff.mp e2).1
        rw [List.length_append, List.length_singleton] at l2
        rw [List.getElem?_append_left (by omega)] at e1
        by_cases c9 : i + 1 < F.length
        · rw [List.getElem?_append_left c9] at e2
          exact hn.2.1 i g g' (by rw [List.getElem?_append_left (by omega)]; exact e1) (by rw [List.getElem?_append_left c9]; exact e2)
        · rw [List.getElem?_append_right (by omega), show i + 1 - F.length = 0 by omega] at e2
          have e3 : t = g' := Option.some.inj e2
          rw [← e3]
          intro x hx m1 m2
          refine hn.2.1 i g a (by rw [List.getElem?_append_left (by omega)]; exact e1) (by rw [List.getElem?_append_right (by omega), show i + 1 - F.length = 0 by omega]; rfl) x hx m1 (dv_tr m.2.1 m.2.2 (lett m.2.1 m.2.2 hx) t1 ha m2 dt)
      · rcases List.mem_append.mp hg with h9 | h9
        · exact hn.2.2 g (List.mem_append_left _ h9)
        · rw [List.mem_singleton.mp h9]
          refine ⟨hne, fun e9 => ?_⟩
          rw [e9] at dt
          exact (hn.2.2 a (List.mem_append_right _ List.mem_cons_self)).2 (dv_as m.2.1 m.2.2 ha dl_lt (d_pk m.2.1 m.2.2 ha).2.2.2.2 dt)
    rw [gL_m hF0 h1] at vF
    have := nf_sup _ F.length hn2 vF
    rw [List.length_append, List.length_singleton] at this
    omega
  have e1 : gm (gD m 1) (gm u (gi (gD m 1))) = g1 m := by
    rw [et, ← gL_nil (h := okT_n)]
    subst t0
    exact gL_eq (eqT_id (X := []) (Y := []) m.2.1 m.2.2 okT_n okT_n)
  have u1 : u = g1 m := by
    refine gp_z pu ?_
    have := congrArg glen e1
    rw [glen_m, glen_m, glen_i, glen_1] at this
    omega
  rw [ec, u1, g1_r] at hc
  exact hc
/-- every list has a form -/
theorem nf_ex0 : ∀ (d : Nat) {T : List Nat} (hT : okT m.1 T), szT m.1 T ≤ d → ¬ gle (gD m 1) (gL m T hT) → ∃ F, nfL m.1 F ∧ eqT m.1 T F
  | d, T, hT, hd, hD => by
    have h2 := m.2.1
    have h5 := m.2.2
    obtain ⟨c, hc⟩ := gmeet (gL m T hT) (gD m 1)
    have pc : gpo c := gle_1.mp (hc.2.2 _ (gle_1.mpr gp_L) (gle_1.mpr (gp_D 1)))
    obtain ⟨t, h1, t1, rfl⟩ := gp_smp pc hc.2.1
    by_cases t0 : t = 0
    · have e0 : glen (gL m [t] h1) = 0 := by
        rw [glen_L, t0]
        have : szT m.1 [0] = szG m.1 0 + 0 := rfl
        rw [this, sz_0 h2 h5]
        rfl
      have := gp_D1 gp_L hc e0
      exact ⟨[], ⟨okT_n, fun i g g' h9 => (by simp at h9), fun g hg => absurd hg List.not_mem_nil⟩, gL_ex this⟩
    · obtain ⟨T', hT', e⟩ := gle_L.mp hc.1
      have es := szT_eq h2 h5 _ (okT_a.mpr ⟨h1, hT'⟩) hT e
      rw [szT_a] at es
      have es2 : szT m.1 [t] = szG m.1 t + 0 := rfl
      have tp : szG m.1 t ≠ 0 := fun h9 => t0 (sz_z h2 h5 t1 h9)
      have eT : gL m T hT = gm (gL m [t] h1) (gL m T' hT') := by
        rw [gL_m]
        exact gL_eq e
      have hD' : ¬ gle (gD m 1) (gL m T' hT') := fun h9 => hD (by
        rw [eT]
        have k1 := (gle_l (gL m [t] h1)).mpr h9
        refine gle_tr ?_ k1
        rw [gL_D]
        exact gle_p gp_L)
      cases d with
      | zero => omega
      | succ d =>
        obtain ⟨F, hF, eF⟩ := nf_ex0 d hT' (by omega) hD'
        have eTF : eqT m.1 T (t :: F) := eqT_tr e (eqT_pr (P := [t]) h2 h5 h1 eF)
        have tD : t ≠ gNN m.1 - 1 := fun e9 => hD (by
          have e1 : gD m 1 = gL m [t] h1 := by
            subst e9
            exact (gL_rp (m := m) 1).symm
          rw [e1]
          exact hc.1)
        refine ⟨t :: F, ⟨okT_c.mpr ⟨t1, hF.1⟩, fun i g g' e1 e2 => ?_, fun g hg => ?_⟩, eTF⟩
        · cases i with
          | zero =>
            have e1 : t = g := Option.some.inj e1
            subst e1
            intro x hx m1 m2
            have hl := lett h2 h5 hx
            have hg' := hF.1 g' (List.mem_of_getElem? e2)
            obtain ⟨F', rfl⟩ : ∃ F', F = g' :: F' := by
              cases F with
              | nil => simp at e2
              | cons a F' =>
                have : a = g' := Option.some.inj e2
                exact ⟨F', by rw [this]⟩
            obtain ⟨w, w1⟩ : ∃ w, moG m.1 t x = w + 1 := ⟨moG m.1 t x - 1, by omega⟩
            have w2 : muG m.1 t (moG m.1 0 x - 1) = w + 1 := by rw [mu_let h2 h5 hx, w1]
            have hw := (mu_lt h2 h5 t1 w2).1
            have hw1 : okT m.1 [w] := okT_c.mpr ⟨hw, okT_n⟩
            -- t x divides T
            have dx : dvT m.1 [moG m.1 0 x - 1] (g' :: F') := by
              obtain ⟨C, c1, c2⟩ := (dv_1 h2 h5 hl hg').mpr m2
              have hF'' := (okT_c.mp hF.1).2
              exact ⟨C ++ F', okT_a.mpr ⟨c1, hF''⟩, eqT_ap h2 h5 F' hF'' (okT_c.mpr ⟨hg', okT_n⟩) (okT_c.mpr ⟨hl, c1⟩) c2⟩
            obtain ⟨C, c1, c2⟩ := dx
            have dw : dvT m.1 [w] T := by
              refine ⟨C, c1, eqT_tr eTF (eqT_tr (eqT_pr (P := [t]) h2 h5 h1 c2) ?_)⟩
              have a1 : eqT m.1 [t, moG m.1 0 x - 1] [w] := eqT_tr (eqT_swp (X := []) (Y := []) h2 h5 okT_n okT_n t1 hl nn_0 w2 (mu_r0 h2 h5)) (eqT_id (X := [w]) (Y := []) h2 h5 hw1 okT_n)
              exact eqT_ap h2 h5 C c1 (okT_c.mpr ⟨t1, okT_c.mpr ⟨hl, okT_n⟩⟩) hw1 a1
            have kw : gle (gL m [w] hw1) (gL m [t] h1) := hc.2.2 _ (gle_L.mpr dw) (gle_tD hw)
            have := (gle_ln kw).1
            rw [glen_L, glen_L] at this
            have z1 : szT m.1 [w] = szG m.1 w + 0 := rfl
            have z2 := (mu_lt h2 h5 t1 w2).2
            rw [sz_let h2 h5 hx] at z2
            omega
          | succ i => exact hF.2.1 i g g' e1 e2
        · rcases List.mem_cons.mp hg with h9 | h9
          · rw [h9]
            exact ⟨t0, tD⟩
          · exact hF.2.2 g h9
theorem nf_ex {T : List Nat} (hT : okT m.1 T) : ∃ j F, nfL m.1 F ∧ eqT m.1 T (List.replicate j (gNN m.1 - 1) ++ F) := by
  have key : ∀ (d : Nat) {T : List Nat} (hT : okT m.1 T), szT m.1 T ≤ d → ∃ j F, nfL m.1 F ∧ eqT m.1 T (List.replicate j (gNN m.1 - 1) ++ F) := by
    intro d
    induction d with
    | zero =>
      intro T hT hd
      obtain ⟨F, f1, f2⟩ := nf_ex0 0 hT hd (fun h9 => by
        have := (gle_ln h9).1
        rw [glen_D, glen_L, Int.one_mul] at this
        have := sz_D1 (m := m)
        omega)
      exact ⟨0, F, f1, f2⟩
    | succ d ih =>
      intro T hT hd
      by_cases hD : gle (gD m 1) (gL m T hT)
      · have hR : okT m.1 [gNN m.1 - 1] := okT_c.mpr ⟨dl_lt, okT_n⟩
        have e1 : gD m 1 = gL m [gNN m.1 - 1] hR := (gL_rp (m := m) 1).symm
        rw [e1] at hD
        obtain ⟨C, c1, c2⟩ := gle_L.mp hD
        have es := szT_eq m.2.1 m.2.2 _ (okT_a.mpr ⟨hR, c1⟩) hT c2
        rw [szT_a] at es
        have es2 : szT m.1 [gNN m.1 - 1] = szG m.1 (gNN m.1 - 1) + 0 := rfl
        have := sz_D1 (m := m)
        unfold szD at this
        obtain ⟨j, F, f1, f2⟩ := ih c1 (by omega)
        exact ⟨j + 1, F, f1, eqT_tr c2 (eqT_pr (P := [gNN m.1 - 1]) m.2.1 m.2.2 hR f2)⟩
      · obtain ⟨F, f1, f2⟩ := nf_ex0 (d + 1) hT hd hD
        exact ⟨0, F, f1, f2⟩
  exact key _ hT (Nat.le_refl _)
end XG6
end
