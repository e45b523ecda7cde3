/-! moves are taken back: kinds 2 and 3 -/
section XTB3
variable {A A' : rn_L} {sg sg' : Nat → Bool} {R RB Q : ow_NT} {f : Nat → Nat} {c g h : Nat} {r r' s s' p q q' : vT} {b : vT → Bool}
theorem bld2 (hn : A.flatten.Nodup) (hg : isG A g) (hh : isG A h) (nB : (bldA A (insG g h [r, r'] [s, s'])).flatten.Nodup) (hr : r ∉ A.flatten) (hr' : r' ∉ A.flatten) (nP : [r, r', s, s'].Nodup) (hb : ∀ q, q ∈ [r, r', s, s'] → b q = false) : bsA (bldA A (insG g h [r, r'] [s, s'])) r r' ∧ bsA (bldA A (insG g h [r, r'] [s, s'])) s s' ∧ (bldA A (insG g h [r, r'] [s, s'])).map (List.filter b) = A.map (List.filter b) := by
  have hb1 : ∀ q, q ∈ [r, r'] → b q = false := fun q hq => hb q (by
    rcases List.mem_cons.mp hq with e | e
    · simp [e]
    · simp [List.mem_singleton.mp e])
  have hb2 : ∀ q, q ∈ [s, s'] → b q = false := fun q hq => hb q (by
    rcases List.mem_cons.mp hq with e | e
    · simp [e]
    · simp [List.mem_singleton.mp e])
  have nr : r ≠ r' := fun e => (List.nodup_cons.mp nP).1 (by rw [e]; simp)
  have n2 : ([] ++ r :: r' :: ([] : List vT)).Nodup := List.Sublist.nodup (show [r, r'].Sublist [r, r', s, s'] from List.Sublist.cons₂ _ (List.Sublist.cons₂ _ (List.nil_sublist _))) nP
  have n3 : ([] ++ s :: s' :: ([] : List vT)).Nodup := List.Sublist.nodup (show [s, s'].Sublist [r, r', s, s'] from List.Sublist.cons _ (List.Sublist.cons _ (List.Sublist.refl _))) nP
  have nA : (A.flatten ++ [r, r']).Nodup := List.nodup_append.mpr ⟨hn, n2, fun a ha b hb e => by
    subst e
    rcases List.mem_cons.mp hb with e | e
    · exact hr (by rw [← e]; exact ha)
    · exact hr' (by rw [← List.mem_singleton.mp e]; exact ha)⟩
  have nv9 : ∀ {v : Nat}, v < A.flatten.length → vAt A v ∉ [r, r'] := fun {v} hv h9 => by
    rcases List.mem_cons.mp h9 with e | e
    · exact hr (by rw [← e]; exact vAt_mem hv)
    · exact hr' (by rw [← List.mem_singleton.mp e]; exact vAt_mem hv)
  rcases isG_c hg with g1 | ⟨i, g1, hi⟩
  · have m1 := vAt_mem g1
    have n1 : (insV A (vAt A g) [r, r']).flatten.Nodup := (insV_pm hn m1).nodup_iff.mpr nA
    rcases isG_c hh with h1 | ⟨j, h1, hj⟩
    · by_cases e : g = h
      · subst e
        rw [b_V2 hn g1] at nB ⊢
        exact ⟨bs_new (P1 := []) (P2 := [s, s']) hn m1 nB, bs_new (P1 := [r, r']) (P2 := []) hn m1 nB, flA_ins (fun q hq => by
          rcases List.mem_append.mp hq with h9 | h9
          · exact hb1 q h9
          · exact hb2 q h9)⟩
      · rw [b_VV hn g1 h1 e (nv9 h1)] at nB ⊢
        have m2 : vAt A h ∈ (insV A (vAt A g) [r, r']).flatten := (insV_pm hn m1).mem_iff.mpr (List.mem_append_left _ (vAt_mem h1))
        exact ⟨bs_ins n1 m2 nB (bs_new (P1 := []) (P2 := []) hn m1 n1) (fun e9 => hr (by rw [e9]; exact vAt_mem h1)), bs_new (P1 := []) (P2 := []) n1 m2 nB, (flA_ins hb2).trans (flA_ins hb1)⟩
    · subst h1
      rw [b_VE hn g1 hj] at nB ⊢
      have hj2 : (insV A (vAt A g) [r, r'])[j]? = some [] := by
        rw [insV_g, hj]
        rfl
      exact ⟨bs_set hj2 (bs_new (P1 := []) (P2 := []) hn m1 n1), bs_setn (P1 := []) (P2 := []) hj2 n3, (flA_set hj2 hb2).trans (flA_ins hb1)⟩
  · subst g1
    have n1 : (A.set i [r, r']).flatten.Nodup := (setE_pm hi).nodup_iff.mpr nA
    rcases isG_c hh with h1 | ⟨j, h1, hj⟩
    · rw [b_EV hn h1 hi (nv9 h1)] at nB ⊢
      have m2 : vAt A h ∈ (A.set i [r, r']).flatten := (setE_pm hi).mem_iff.mpr (List.mem_append_left _ (vAt_mem h1))
      exact ⟨bs_ins n1 m2 nB (bs_setn (P1 := []) (P2 := []) hi n2) (fun e9 => hr (by rw [e9]; exact vAt_mem h1)), bs_new (P1 := []) (P2 := []) n1 m2 nB, (flA_ins hb2).trans (flA_set hi hb1)⟩
    · by_cases e : i = j
      · subst e
        subst h1
        rw [b_E2 hi] at nB ⊢
        exact ⟨bs_setn (P1 := []) (P2 := [s, s']) hi nP, bs_setn (P1 := [r, r']) (P2 := []) hi nP, flA_set hi (fun q hq => by
          rcases List.mem_append.mp hq with h9 | h9
          · exact hb1 q h9
          · exact hb2 q h9)⟩
      · subst h1
        rw [b_EE hi hj e] at nB ⊢
        have hj2 : (A.set i [r, r'])[j]? = some [] := by
          rw [set_g (i_lt hi), if_neg e]
          exact hj
        exact ⟨bs_set hj2 (bs_setn (P1 := []) (P2 := []) hi n2), bs_setn (P1 := []) (P2 := []) hj2 n3, (flA_set hj2 hb2).trans (flA_set hi hb1)⟩
theorem mv_bs_sy {N : Nat → Nat} {v w : Nat} : mv_bs N v w = mv_bs N w v := Bool.or_comm _ _
theorem mv_bs_of {N : Nat → Nat} {v w : Nat} (h : N v = w) : mv_bs N v w = true := by
  unfold mv_bs
  rw [decide_eq_true h]
  rfl
/-- what kind 3 makes, kind 2 takes back -/
theorem tb_32 (hok : okF A.flatten c) (hO : OM A sg c 3 A' sg') (hV : isoV A' sg' f RB) (hp : pm1 RB) : tBk 2 A sg RB := by
  obtain ⟨hc, g, h, k, hg, hh, hk, e1, e2, -⟩ := hO
  have hk8 : k < 8 := by omega
  have hn := hok.1
  have nB := hV.1.1.1
  have hu : ∀ p, p ∈ A'.flatten → p.2 < 2 := fun p hp => (hV.1.1.2 p hp).2.1
  obtain ⟨l, hl⟩ : ∃ l, l = k / 4 := ⟨_, rfl⟩
  have hl2 : l < 2 := by omega
  obtain ⟨a1, ha1⟩ : ∃ a1, a1 = if l = 0 then c + k % 2 else c + k / 2 % 2 := ⟨_, rfl⟩
  obtain ⟨b1, hb1⟩ : ∃ b1, b1 = if l = 0 then c + k / 2 % 2 else c + k % 2 := ⟨_, rfl⟩
  have ea : a1 = c ∨ a1 = c + 1 := by rw [ha1]; split <;> omega
  have eb : b1 = c ∨ b1 = c + 1 := by rw [hb1]; split <;> omega
  have eP : t3P c k = [(a1, l), (2 * c + 1 - a1, l)] := by
    unfold t3P
    rw [← hl, ha1]
    by_cases e : l = 0
    · rw [if_pos e, if_pos e]
    · rw [if_neg e, if_neg e]
  have eQ : t3Q c k = [(b1, 1 - l), (2 * c + 1 - b1, 1 - l)] := by
    unfold t3Q
    rw [← hl, hb1]
    by_cases e : l = 0
    · rw [if_pos e, if_pos e]
    · rw [if_neg e, if_neg e]
  have no : ∀ {x u : Nat}, c ≤ x → ((x, u) : vT) ∉ A.flatten := fun {x u} hx h9 => by
    have := ((hok.2 _).mp h9).1
    have this : x < c := this
    omega
  have eB : A' = bldA A (insG g h [(a1, l), (2 * c + 1 - a1, l)] [(b1, 1 - l), (2 * c + 1 - b1, 1 - l)]) := by
    rw [e1, ← eP, ← eQ]
    rfl
  have nP : [((a1, l) : vT), (2 * c + 1 - a1, l), (b1, 1 - l), (2 * c + 1 - b1, 1 - l)].Nodup := by
    have key : ∀ {x y u w : Nat}, (x ≠ y ∨ u ≠ w) → ((x, u) : vT) ≠ (y, w) := fun h9 e9 => by
      rcases h9 with h9 | h9
      · exact h9 (congrArg Prod.fst e9)
      · exact h9 (congrArg Prod.snd e9)
    simp only [List.nodup_cons, List.mem_cons, List.not_mem_nil, or_false, not_or, not_false_iff, List.nodup_nil, and_true]
    exact ⟨⟨key (Or.inl (by omega)), key (Or.inr (by omega)), key (Or.inr (by omega))⟩, ⟨key (Or.inr (by omega)), key (Or.inr (by omega))⟩, key (Or.inl (by omega))⟩
  have key := bld2 (A := A) (g := g) (h := h) (r := (a1, l)) (r' := (2 * c + 1 - a1, l)) (s := (b1, 1 - l)) (s' := (2 * c + 1 - b1, 1 - l)) (b := fun q => decide (q.1 ≠ c) && decide (q.1 ≠ c + 1)) hn hg hh (by rw [← eB]; exact nB) (no (by omega)) (no (by omega)) nP (fun q hq => by
    have : q.1 = c ∨ q.1 = c + 1 := by
      simp only [List.mem_cons, List.not_mem_nil, or_false] at hq
      rcases hq with e | e | e | e <;> rw [e] <;> show _ = c ∨ _ = c + 1 <;> omega
    rcases this with e | e
    · rw [decide_eq_false (fun h9 => h9 e)]
      rfl
    · rw [decide_eq_false (show ¬ q.1 ≠ c + 1 from fun h9 => h9 e), Bool.and_false])
  rw [← eB] at key
  obtain ⟨k1, k2, k3⟩ := key
  have kw : woA c (c + 1) A' = A := k3.trans (flA_id (fun q hq => by
    have := ((hok.2 q).mp hq).1
    rw [decide_eq_true (show q.1 ≠ c by omega), decide_eq_true (show q.1 ≠ c + 1 by omega)]
    rfl))
  have n1 := bs_nx hV k1
  have n2 := bs_nx hV k2
  have n1 : RB.2.2.1.1 (2 * f a1 + l) = 2 * f (2 * c + 1 - a1) + l := n1
  have n2 : RB.2.2.1.1 (2 * f b1 + (1 - l)) = 2 * f (2 * c + 1 - b1) + (1 - l) := n2
  have bsl : mv_bs RB.2.2.1.1 (2 * f c + l) (2 * f (c + 1) + l) = true := by
    rcases ea with e | e
    · rw [e, show 2 * c + 1 - c = c + 1 by omega] at n1
      exact mv_bs_of n1
    · rw [e, show 2 * c + 1 - (c + 1) = c by omega] at n1
      rw [mv_bs_sy]
      exact mv_bs_of n1
  have bsm : mv_bs RB.2.2.1.1 (2 * f c + (1 - l)) (2 * f (c + 1) + (1 - l)) = true := by
    rcases eb with e | e
    · rw [e, show 2 * c + 1 - c = c + 1 by omega] at n2
      exact mv_bs_of n2
    · rw [e, show 2 * c + 1 - (c + 1) = c by omega] at n2
      rw [mv_bs_sy]
      exact mv_bs_of n2
  have bs01 : mv_bs RB.2.2.1.1 (2 * f c) (2 * f (c + 1)) = true ∧ mv_bs RB.2.2.1.1 (2 * f c + 1) (2 * f (c + 1) + 1) = true := by
    rcases (show l = 0 ∨ l = 1 by omega) with e | e <;> rw [e] at bsl bsm
    · exact ⟨bsl, bsm⟩
    · exact ⟨bsm, bsl⟩
  obtain ⟨w1, w2⟩ := bs_mem nB k1
  obtain ⟨w3, w4⟩ := bs_mem nB k2
  have mem0 : ∀ x, x = c ∨ x = c + 1 → ((x, 0) : vT) ∈ A'.flatten := by
    intro x hx
    rcases (show l = 0 ∨ l = 1 by omega) with e | e
    · rw [e] at w1 w2
      by_cases e9 : x = a1
      · rw [e9]; exact w1
      · rw [show x = 2 * c + 1 - a1 by omega]; exact w2
    · rw [e] at w3 w4
      by_cases e9 : x = b1
      · rw [e9]; exact w3
      · rw [show x = 2 * c + 1 - b1 by omega]; exact w4
  have mc := mem0 c (Or.inl rfl)
  have md := mem0 (c + 1) (Or.inr rfl)
  have lc : f c < RB.1 := hV.1.2.2.2.1 _ mc
  have ld : f (c + 1) < RB.1 := hV.1.2.2.2.1 _ md
  have nfd : f c ≠ f (c + 1) := fun e9 => by
    have := hV.1.2.2.2.2.1 _ _ mc md e9
    have this : c = c + 1 := this
    omega
  have sgn : RB.2.2.2 (f c) ≠ RB.2.2.2 (f (c + 1)) := by
    have q1 := iso_sg1 hV hp mc
    have q2 := iso_sg1 hV hp md
    have q1 : RB.2.2.2 (f c) = if sg' c then -1 else 1 := q1
    have q2 : RB.2.2.2 (f (c + 1)) = if sg' (c + 1) then -1 else 1 := q2
    have t1 : sg' c = false := by rw [e2]; exact if_pos rfl
    have t2 : sg' (c + 1) = true := by
      rw [e2]
      unfold t3S
      rw [if_neg (by omega), if_pos rfl]
    rw [q1, q2, t1, t2]
    decide
  have two : ∀ (x0 y0 : Nat), (x0 = c ∧ y0 = c + 1 ∨ x0 = c + 1 ∧ y0 = c) → f y0 < f x0 → tBk 2 A sg RB := by
    intro x0 y0 hxy hlt
    have hx9 : f x0 < RB.1 := by rcases hxy with ⟨e, -⟩ | ⟨e, -⟩ <;> rw [e] <;> assumption
    have hB : mv_b2 RB (f x0) (f y0) = true := by
      unfold mv_b2 mv_pair
      rw [decide_eq_true hlt]
      rcases hxy with ⟨e, e'⟩ | ⟨e, e'⟩ <;> rw [e, e']
      · rw [bs01.1, bs01.2, decide_eq_true sgn]
        rfl
      · rw [mv_bs_sy, bs01.1, mv_bs_sy, bs01.2, decide_eq_true sgn.symm]
        rfl
    have hj : f x0 * RB.1 + f y0 < RB.1 * RB.1 := by
      have := Nat.mul_le_mul_right RB.1 (show f x0 + 1 ≤ RB.1 from hx9)
      have e9 : (f x0 + 1) * RB.1 = f x0 * RB.1 + RB.1 := Nat.succ_mul _ _
      omega
    have d1 : (f x0 * RB.1 + f y0) / RB.1 = f x0 := by
      rw [Nat.mul_comm, Nat.mul_add_div (by omega), Nat.div_eq_of_lt (by omega), Nat.add_zero]
    have d2 : (f x0 * RB.1 + f y0) % RB.1 = f y0 := by
      rw [Nat.mul_comm, Nat.mul_add_mod, Nat.mod_eq_of_lt (by omega)]
    refine ⟨f x0 * RB.1 + f y0, hj, fun F P Q hmk hQ => ?_⟩
    show mv_b2 RB ((f x0 * RB.1 + f y0) / RB.1) ((f x0 * RB.1 + f y0) % RB.1) = true ∧ ∃ f1, isoV A sg f1 (mv_t2 Q RB ((f x0 * RB.1 + f y0) / RB.1) ((f x0 * RB.1 + f y0) % RB.1))
    rw [d1, d2]
    refine ⟨hB, ?_⟩
    unfold mv_t2
    rw [if_pos hB]
    have mx : ((x0, 0) : vT) ∈ A'.flatten := mem0 x0 (by omega)
    have my : ((y0, 0) : vT) ∈ A'.flatten := mem0 y0 (by omega)
    obtain ⟨f', j1, j2⟩ := iso_rm (isoV_cpy (Q := Q) hV) mx
    have j3 := j2 y0
    have j3 : f' y0 = if f y0 = RB.1 - 1 then f x0 else f y0 := j3
    rw [if_neg (by omega)] at j3
    obtain ⟨f2, i1, -⟩ := iso_rm j1 (x0 := y0) ((wox_mem hu).mpr ⟨my, show y0 ≠ x0 by omega⟩)
    rw [j3, ← woA_wox hu y0] at i1
    have ew : woA x0 y0 A' = A := by
      rcases hxy with ⟨e, e'⟩ | ⟨e, e'⟩ <;> rw [e, e']
      · exact kw
      · rw [woA_sy]
        exact kw
    rw [ew] at i1
    refine ⟨f2, isoV_sg i1 (fun p hp => ?_)⟩
    have := ((hok.2 p).mp hp).1
    rw [e2]
    unfold t3S
    rw [if_neg (by omega), if_neg (by omega)]
  rcases Nat.lt_trichotomy (f c) (f (c + 1)) with q | q | q
  · exact two (c + 1) c (Or.inr ⟨rfl, rfl⟩) q
  · exact absurd q nfd
  · exact two c (c + 1) (Or.inl ⟨rfl, rfl⟩) q
theorem bs_uni (hn : A.flatten.Nodup) (h1 : bsA A p q) (h2 : bsA A p q') : q = q' := by
  obtain ⟨L, l1, l2, l3⟩ := h1
  obtain ⟨M, m1, m2, m3⟩ := h2
  rw [one_L hn l1 m1 l2 m2] at l3
  exact l3.symm.trans m3
theorem bs_fl9 (hn : A.flatten.Nodup) (hb : bsA A r r') (h1 : r ≠ s) (h2 : r ≠ s') (h3 : r' ≠ s) (h4 : r' ≠ s') : bsA (flA s s' A) r r' := by
  obtain ⟨L, hL, hr, e⟩ := hb
  have nL := L_nd hn hL
  refine ⟨flr s s' L, List.mem_map.mpr ⟨L, hL, rfl⟩, ?_, ?_⟩
  · refine List.mem_filter.mpr ⟨hr, ?_⟩
    rw [decide_eq_true h1, decide_eq_true h2]
    rfl
  · have e1 : flr s s' L = (L.filter (fun q => decide (q ≠ s))).filter (fun q => decide (q ≠ s')) := by
      rw [List.filter_filter]
      exact List.filter_congr (fun q _ => Bool.and_comm _ _)
    have q1 := sc_fil (L := L) (r := s) (p := r) nL hr h1
    rw [e, if_neg h3] at q1
    have q2 := sc_fil (L := L.filter (fun q => decide (q ≠ s))) (r := s') (p := r) (List.Sublist.nodup List.filter_sublist nL) (List.mem_filter.mpr ⟨hr, decide_eq_true h1⟩) h2
    rw [q1, if_neg h4] at q2
    rw [e1]
    exact q2
end XTB3
