/-! moves are taken back: kinds 0 and 1 -/
/-- a move of the kind leads from the net back to the list -/
def tBk (kd : Nat) (A : rn_L) (sg : Nat → Bool) (R : ow_NT) : Prop := ∃ j, j < mv_cnt R.1 kd ∧ ∀ (F P : Nat → Int32) (Q : ow_NT), mv_mk kd R F P → ow_b24 Q.2.2.1 → mv_B kd j Q R F P = true ∧ ∃ f, isoV A sg f (mv_T kd j Q R F P)
section XTB2
variable {A A' : rn_L} {sg sg' : Nat → Bool} {R RB Q : ow_NT} {f : Nat → Nat} {c g : Nat} {r r' : vT} {P : List vT}
theorem bs_nx (h : isoV A sg f R) (hb : bsA A r r') : R.2.2.1.1 (gl f r) = gl f r' := by
  obtain ⟨L, hL, hr, e⟩ := hb
  rw [(h.2 L hL r hr).1, e]
theorem bs_mem (hn : A.flatten.Nodup) (hb : bsA A r r') : r ∈ A.flatten ∧ r' ∈ A.flatten := by
  obtain ⟨L, hL, hr, e⟩ := hb
  refine ⟨List.mem_flatten.mpr ⟨L, hL, hr⟩, List.mem_flatten.mpr ⟨L, hL, ?_⟩⟩
  rw [← e]
  exact sc_in hr (L_nd hn hL)
theorem bs_v (hn : A.flatten.Nodup) {v : Nat} (hv : v < A.flatten.length) : bsA A (vAt A v) (vAt A (rn_nx A v)) := by
  obtain ⟨L, h1, h2, h3⟩ := nx_sc A hn v hv
  exact ⟨L, h1, h2, h3.symm⟩
theorem bld1 (hn : A.flatten.Nodup) (hg : isG A g) : (∃ p, p ∈ A.flatten ∧ bldA A (insG g 1000 P []) = insV A p P) ∨ ∃ i : Nat, A[i]? = some [] ∧ bldA A (insG g 1000 P []) = A.set i P := by
  rw [insG_1]
  rcases isG_c hg with h | ⟨i, rfl, hi⟩
  · exact Or.inl ⟨vAt A g, vAt_mem h, by rw [b_V2 hn h, List.append_nil]⟩
  · exact Or.inr ⟨i, hi, by rw [b_E2 hi, List.append_nil]⟩
/-- what kind 1 makes, kind 0 takes back -/
theorem tb_10 (hok : okF A.flatten c) (hO : OM A sg c 1 A' sg') (hV : isoV A' sg' f RB) : tBk 0 A sg RB := by
  obtain ⟨hc, g, k, hg, hk, e1, e2⟩ := hO
  have hn := hok.1
  have nB := hV.1.1.1
  have hu : ∀ p, p ∈ A'.flatten → p.2 < 2 := fun p hp => (hV.1.1.2 p hp).2.1
  have k2 : k % 2 < 2 := by omega
  have nP : (([] : List vT) ++ ((c, k % 2) : vT) :: (c, 1 - k % 2) :: []).Nodup := by
    refine List.nodup_cons.mpr ⟨fun h => ?_, List.nodup_cons.mpr ⟨List.not_mem_nil, List.nodup_nil⟩⟩
    have := congrArg Prod.snd (List.mem_singleton.mp h)
    have this : k % 2 = 1 - k % 2 := this
    omega
  have hfalse : ∀ q, q ∈ [((c, k % 2) : vT), (c, 1 - k % 2)] → (decide (q.1 ≠ c) && decide (q.1 ≠ c)) = false := by
    intro q hq
    have : q.1 = c := by
      rcases List.mem_cons.mp hq with h | h
      · rw [h]
      · rw [List.mem_singleton.mp h]
    rw [decide_eq_false (fun h => h this)]
    rfl
  have hid : A.map (List.filter (fun q : vT => decide (q.1 ≠ c) && decide (q.1 ≠ c))) = A := flA_id (fun q hq => by
    have := ((hok.2 q).mp hq).1
    rw [decide_eq_true (show q.1 ≠ c by omega)]
    rfl)
  have key : bsA A' (c, k % 2) (c, 1 - k % 2) ∧ woA c c A' = A := by
    rcases bld1 (P := [(c, k % 2), (c, 1 - k % 2)]) hn hg with ⟨p, hp, e9⟩ | ⟨i, hi, e9⟩
    · rw [e9] at e1
      rw [e1] at nB ⊢
      exact ⟨bs_new (P1 := []) (P2 := []) hn hp nB, (flA_ins hfalse).trans hid⟩
    · rw [e9] at e1
      rw [e1]
      exact ⟨bs_setn (P1 := []) (P2 := []) hi nP, (flA_set hi hfalse).trans hid⟩
  obtain ⟨kb, kw⟩ := key
  obtain ⟨m1, m2⟩ := bs_mem nB kb
  have m0 : ((c, 0) : vT) ∈ A'.flatten := by
    rcases (show k % 2 = 0 ∨ k % 2 = 1 by omega) with e | e
    · rw [e] at m1
      exact m1
    · rw [e] at m2
      exact m2
  have nx := bs_nx hV kb
  have hx : f c < RB.1 := hV.1.2.2.2.1 _ m0
  have nx : RB.2.2.1.1 (2 * f c + k % 2) = 2 * f c + (1 - k % 2) := nx
  have hB : mv_bs RB.2.2.1.1 (2 * f c) (2 * f c + 1) = true := by
    unfold mv_bs
    rw [Bool.or_eq_true, decide_eq_true_iff, decide_eq_true_iff]
    rcases (show k % 2 = 0 ∨ k % 2 = 1 by omega) with e | e <;> rw [e] at nx
    · exact Or.inl nx
    · exact Or.inr nx
  refine ⟨f c, hx, fun F P Q hmk hQ => ⟨hB, ?_⟩⟩
  obtain ⟨f', j1, -⟩ := iso_rm (isoV_cpy (Q := Q) hV) m0
  refine ⟨f', ?_⟩
  show isoV A sg f' (mv_t0 Q RB (f c))
  unfold mv_t0
  rw [if_pos hB]
  have ew : wox A' c = A := by
    rw [← kw, woA_wox hu c, wox_no (fun p hp => ((wox_mem hu).mp hp).2)]
  rw [ew] at j1
  refine isoV_sg j1 (fun p hp => ?_)
  have := ((hok.2 p).mp hp).1
  rw [e2]
  exact (if_neg (by omega)).symm
theorem flA_woA {x u : Nat} (hu2 : u < 2) (hu : ∀ p, p ∈ A.flatten → p.2 < 2) : flA (x, u) (x, 1 - u) A = woA x x A := by
  unfold flA woA
  refine List.map_congr_left (fun L hL => List.filter_congr (fun p hp => ?_))
  have h2 := hu p (List.mem_flatten.mpr ⟨L, hL, hp⟩)
  rw [Bool.eq_iff_iff]
  simp only [Bool.and_eq_true, decide_eq_true_iff]
  constructor
  · rintro ⟨g1, g2⟩
    have : p.1 ≠ x := fun e => by
      rcases (show p.2 = u ∨ p.2 = 1 - u by omega) with e2 | e2
      · exact g1 (Prod.ext e e2)
      · exact g2 (Prod.ext e e2)
    exact ⟨this, this⟩
  · rintro ⟨g1, -⟩
    exact ⟨fun e => g1 (by rw [e]), fun e => g1 (by rw [e])⟩
/-- what kind 0 takes away, kind 1 puts back -/
theorem tb_01 (hR : isoV A sg idN R) (hO : OM A sg R.1 0 A' sg') (hV : isoV A' sg' f RB) : tBk 1 A sg RB := by
  obtain ⟨rfl, v, hv, e, e1⟩ := hO
  have hok := isoV_ok hR
  have hn := hok.1
  have hc0 := hR.1.2.2.1
  have hu : ∀ p, p ∈ A.flatten → p.2 < 2 := fun p hp => ((hok.2 p).mp hp).2
  have hb := bs_v hn hv
  rw [e, vAt_mtf hR.1.1 hv] at hb
  obtain ⟨x, hx⟩ : ∃ x, x = (vAt A v).1 := ⟨_, rfl⟩
  obtain ⟨u, hu9⟩ : ∃ u, u = (vAt A v).2 := ⟨_, rfl⟩
  have ev : vAt A v = (x, u) := by rw [hx, hu9]
  rw [ev] at hb
  have hb : bsA A (x, u) (x, 1 - u) := hb
  have hxu := (hok.2 _).mp (vAt_mem hv)
  rw [ev] at hxu
  have hxc : x < R.1 := hxu.1
  have hu2 : u < 2 := hxu.2
  have ecx : crs A v = x := hx.symm
  rw [ecx] at e1
  have eF := flA_woA (A := A) (x := x) hu2 hu
  have m0 : ((x, 0) : vT) ∈ A.flatten := (hok.2 _).mpr ⟨hxc, by show 0 < 2; omega⟩
  -- how many crossings are left
  have hlen : RB.1 + 1 = R.1 := by
    obtain ⟨f', j1, -⟩ := iso_rm hR m0
    have ew : wox A x = A' := by
      rw [e1, woA_wox hu x, wox_no (fun p hp => ((wox_mem hu).mp hp).2)]
    rw [ew] at j1
    have l1 := j1.1.2.1
    have l2 := hV.1.2.1
    have l1 : A'.flatten.length = 2 * (R.1 - 1) := l1
    omega
  have memA : ∀ {p : vT}, p ∈ A.flatten → p.1 ≠ x → p ∈ A'.flatten := fun {p} hp hne => by
    rw [e1, woA_fl, List.mem_filter]
    refine ⟨hp, ?_⟩
    rw [decide_eq_true hne]
    rfl
  have memB : ∀ {p : vT}, p ∈ A'.flatten → p.1 ≠ x := fun {p} hp => by
    rw [e1, woA_fl, List.mem_filter] at hp
    exact of_decide_eq_true (Bool.and_eq_true_iff.mp hp.2).1
  obtain ⟨f1, hf1⟩ : ∃ f1 : Nat → Nat, f1 = fun y => if y = x then RB.1 else f y := ⟨_, rfl⟩
  have f1x : f1 x = RB.1 := by rw [hf1]; exact if_pos rfl
  have f1n : ∀ {y : Nat}, y ≠ x → f1 y = f y := fun h => by rw [hf1]; exact if_neg h
  have flt : ∀ {y : Nat}, y < R.1 → y ≠ x → f y < RB.1 := fun {y} h1 h2 => hV.1.2.2.2.1 (y, 0) (memA ((hok.2 _).mpr ⟨h1, by show 0 < 2; omega⟩) h2)
  have finj : ∀ y z, y < RB.1 + 1 → z < RB.1 + 1 → f1 y = f1 z → y = z := by
    intro y z hy hz h9
    by_cases ey : y = x
    · by_cases ez : z = x
      · rw [ey, ez]
      · rw [ey, f1x, f1n ez] at h9
        have := flt (y := z) (by omega) ez
        omega
    · by_cases ez : z = x
      · rw [ez, f1x, f1n ey] at h9
        have := flt (y := y) (by omega) ey
        omega
      · rw [f1n ey, f1n ez] at h9
        exact hV.1.2.2.2.2.1 (y, 0) (z, 0) (memA ((hok.2 _).mpr ⟨by show y < R.1; omega, by show 0 < 2; omega⟩) ey) (memA ((hok.2 _).mpr ⟨by show z < R.1; omega, by show 0 < 2; omega⟩) ez) h9
  have hgin : gin (gl f1) A.flatten := by
    intro p q hp hq e9
    have h1 := (hok.2 p).mp hp
    have h2 := (hok.2 q).mp hq
    have e9 : 2 * f1 p.1 + p.2 = 2 * f1 q.1 + q.2 := e9
    exact Prod.ext (finj _ _ (by omega) (by omega) (by omega)) (by omega)
  have hne : ((x, u) : vT) ≠ (x, 1 - u) := fun h9 => by
    have := congrArg Prod.snd h9
    have this : u = 1 - u := this
    omega
  obtain ⟨ch, hch⟩ : ∃ ch : Nat, ch = u + 2 * (if sg' x then 1 else 0) := ⟨_, rfl⟩
  have ch4 : ch < 4 := by rw [hch]; split <;> omega
  have ch2 : ch % 2 = u := by rw [hch]; omega
  have chs : mv_sg ch < 0 ↔ sg' x = true := by
    rw [hch]
    unfold mv_sg
    rcases (show u = 0 ∨ u = 1 by omega) with e | e <;> rw [e] <;> cases sg' x <;> decide
  have hS0 : ∀ Q : ow_NT, shP (nt_add (nt_copy Q RB) (mv_sg ch)).2.2.1 (gl f1) (flA (x, u) (x, 1 - u) A) := fun Q => by
    rw [eF, ← e1]
    exact shP_gcg hV.1.1.1 (fun p hp => by
      show 2 * f1 p.1 + p.2 = 2 * f p.1 + p.2
      rw [f1n (memB hp)]) (isoV_cpy (Q := Q) hV).2
  have hC0 : cirs (flA (x, u) (x, 1 - u) A) = RB.2.1 := by
    rw [eF, ← e1]
    exact hV.1.2.2.2.2.2.2.2
  have gr : gl f1 (x, u) = 2 * RB.1 + ch % 2 := by
    show 2 * f1 x + u = _
    rw [f1x, ch2]
  have gr' : gl f1 (x, 1 - u) = mt (2 * RB.1 + ch % 2) := by
    show 2 * f1 x + (1 - u) = _
    rw [f1x, ch2]
    unfold mt
    rcases (show u = 0 ∨ u = 1 by omega) with e | e <;> rw [e]
    · rw [if_pos (by omega)]
    · rw [if_neg (by omega)]
      omega
  obtain ⟨af, haf, hput⟩ := rput (g := gl f1) hn hb hne hgin
  have fin : ∀ (Q : ow_NT) (af' : Option Nat) (gap : Nat), mv_af RB gap = af' → mv_b1 RB gap = true → shP (nt_pair (nt_add (nt_copy Q RB) (mv_sg ch)) af' (gl f1 (x, u)) (gl f1 (x, 1 - u))).2.2.1 (gl f1) A → cirs A = (nt_pair (nt_add (nt_copy Q RB) (mv_sg ch)) af' (gl f1 (x, u)) (gl f1 (x, 1 - u))).2.1 → isoV A sg' f1 (mv_t1 Q RB gap ch) := by
    intro Q af' gap g1 g2 g3 g4
    unfold mv_t1
    rw [if_pos g2, g1, ← gr', ← gr]
    have hT1 : (nt_pair (nt_add (nt_copy Q RB) (mv_sg ch)) af' (gl f1 (x, u)) (gl f1 (x, 1 - u))).1 = RB.1 + 1 := by
      cases af' <;> rfl
    have hTG : (nt_pair (nt_add (nt_copy Q RB) (mv_sg ch)) af' (gl f1 (x, u)) (gl f1 (x, 1 - u))).2.2.2 = su (nt_copy Q RB).2.2.2 RB.1 (mv_sg ch) := by
      cases af' <;> rfl
    refine iso_mk (c := RB.1 + 1) (by rw [hlen]; exact hok) (by omega) hT1 (fun y hy => ?_) finj g3 (fun y hy => ?_) g4
    · by_cases ey : y = x
      · rw [ey, f1x]
        omega
      · rw [f1n ey]
        have := flt (y := y) (by omega) ey
        omega
    · rw [hTG, su_at]
      by_cases ey : y = x
      · rw [ey, f1x, if_pos rfl]
        exact chs
      · have := flt (y := y) (by omega) ey
        rw [f1n ey, if_neg (by omega)]
        exact (isoV_cpy (Q := Q) hV).1.2.2.2.2.2.2.1 (y, 0) (memA ((hok.2 _).mpr ⟨by show y < R.1; omega, by show 0 < 2; omega⟩) ey)
  obtain ⟨gap, g1, g2, g3⟩ : ∃ gap, gap < 2 * RB.1 + 1 ∧ mv_af RB gap = af ∧ mv_b1 RB gap = true := by
    rcases haf with ⟨p, hp, -, e9⟩ | ⟨e9, h9⟩
    · rw [eF, ← e1] at hp
      have hl : gl f1 p < 2 * RB.1 := by
        show 2 * f1 p.1 + p.2 < _
        rw [f1n (memB hp)]
        have h1 := hV.1.2.2.2.1 p hp
        have h2 := (hV.1.1.2 p hp).2.1
        omega
      refine ⟨gl f1 p, by omega, ?_, ?_⟩
      · unfold mv_af
        rw [if_neg (by omega), e9]
      · unfold mv_b1
        rw [decide_eq_false (show ¬ gl f1 p = 2 * RB.1 by omega)]
        rfl
    · refine ⟨2 * RB.1, by omega, ?_, ?_⟩
      · unfold mv_af
        rw [if_pos rfl, e9]
      · unfold mv_b1
        rw [decide_eq_false (show ¬ RB.2.1 = 0 by omega), Bool.and_false]
        rfl
  have hcn : mv_cnt RB.1 1 = (2 * RB.1 + 1) * 4 := if_pos (by omega)
  refine ⟨gap * 4 + ch, by rw [hcn]; omega, fun F P Q hmk hQ => ?_⟩
  show mv_b1 RB ((gap * 4 + ch) / 4) = true ∧ ∃ f, isoV A sg' f (mv_t1 Q RB ((gap * 4 + ch) / 4) ((gap * 4 + ch) % 4))
  rw [show (gap * 4 + ch) / 4 = gap by omega, show (gap * 4 + ch) % 4 = ch by omega]
  obtain ⟨s1, s2⟩ := hput (nt_add (nt_copy Q RB) (mv_sg ch)) (hS0 Q) hC0
  exact ⟨g3, f1, fin Q af gap g2 g3 s1 s2⟩
end XTB2
