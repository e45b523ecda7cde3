/-! conway: what the class's unfold stands on -/
def cwC (z : ow_MS) (n : Nat → Int) : Prop := ∀ t, t < 13 → z.2.1 24003 t = iI (n t)
theorem cwC_fr {P : Nat → Prop} {z z1 : ow_MS} {n : Nat → Int} (hf : fr P z z1) (hP : ¬ P 24003) (h : cwC z n) : cwC z1 n := fun t ht => by
  rw [(hf 24003 hP).2.1]
  exact h t ht
theorem cwC_cg {z : ow_MS} {n n' : Nat → Int} (h : cwC z n) (e : ∀ t, t < 13 → n t = n' t) : cwC z n' := fun t ht => by
  rw [← e t ht]
  exact h t ht
theorem gbit0 {g v : Nat} (hg : g < 2 ^ 24) (hv : v < 24) : ((nI g >>> (nI v &&& 31)) &&& 1 = 0) ↔ ¬ o_gn g v := by
  rw [gbit hg hv]
  unfold o_gn
  have h9 : g / 2 ^ v % 2 = 0 ∨ g / 2 ^ v % 2 = 1 := by omega
  rcases h9 with e | e <;> rw [e] <;> decide
theorem gor9 {g v : Nat} (hg : g < 2 ^ 24) (hv : v < 24) : nI g ||| ((1 : Int32) <<< (nI v &&& 31)) = nI (g ||| 2 ^ v) ∧ g ||| 2 ^ v < 2 ^ 24 := by
  have h2 : 2 ^ v < 2 ^ 24 := Nat.pow_lt_pow_right (by omega) hv
  refine ⟨?_, Nat.or_lt_two_pow hg h2⟩
  rw [ow_shlb hv, ow_or (by omega) (by omega)]
theorem gn_z9 (k : Nat) : ¬ o_gn 0 k := by
  unfold o_gn
  rw [Nat.zero_div]
  decide
theorem uf_par : ∀ v : Fin 24, (nI v.val &&& 1) = 1 ↔ v.val % 2 = 1 := by decide +kernel
section XCB
variable {vl : Nat → Nat} {y : ow_MS}
theorem xc_addC {q z : Nat} {φ : Int} {xp : Int32} {n : Nat → Int} (hq : q < 100) (hz : z ≤ 12) (hn : cwC y n) : Te (fun K => ce_X8_addCircles vl K 24000 (nI q) (iI φ) xp (nI z) y) (fun y1 => cwC y1 (fun t => n t + φ * (if q = 1 ∧ t = z then 1 else 0))) := by
  let Q : ow_MS → Prop := fun y1 => cwC y1 (fun t => n t + φ * (if q = 1 ∧ t = z then 1 else 0))
  have c2 : ∀ (d j : Nat) (y1 : ow_MS), j + d = q → Q y1 → Tt (fun K t => c_X8_addCircles vl K t 2 (nI q) (iI φ) xp (nI z) (nI q - 1) (nI j) 0 24000 0 0 0 0 y1) Q := by
    intro d
    induction d with
    | zero =>
      intro j y1 hj hf
      have e : nI q - 1 < nI j := by
        rw [show j = q by omega]
        rcases Nat.eq_zero_or_pos q with h0 | h0
        · rw [h0]
          decide
        · rw [show nI q - 1 = nI (q - 1) from pk_sub (b := 1) h0]
          exact nI_lt (by omega) (by omega)
      refine u_X8_addCircles_2 ?_; unfold cm_X8_addCircles_2
      exact w_ifT e (w_some hf)
    | succ d ih =>
      intro j y1 hj hf
      have e5 : nI q - 1 = nI (q - 1) := pk_sub (b := 1) (by omega)
      have c4 : ∀ (x7 : Int32) (y2 : ow_MS), Q y2 → Tt (fun K t => c_X8_addCircles vl K t 4 (nI q) (iI φ) xp (nI z) (nI q - 1) (nI j) x7 24000 0 0 0 0 y2) Q := by
        intro x7 y2 hf2
        refine u_X8_addCircles_4 ?_; unfold cm_X8_addCircles_4
        rw [nI_1]
        exact ih (j + 1) y2 (by omega) hf2
      refine u_X8_addCircles_2 ?_; unfold cm_X8_addCircles_2
      rw [e5]
      rw [e5] at c4
      refine w_ltF (by omega) (by omega) (w_le (a := 24) (by omega) (by omega) (fun _ => w_some hf) (fun h24 => w_cs1 tc_twoIndex ?_))
      rintro v y2 ⟨h2, e2⟩
      dsimp only at h2 e2
      rw [e2]
      refine w_if (fun _ => c4 _ _ hf) (fun hv => ?_)
      rcases h2 with h2 | ⟨k, hk, rfl⟩
      · exact absurd h2 hv
      · have c3 : ∀ (t0 t1 t2 : Int32), Tt (fun K t => c_X8_addCircles vl K t 3 (nI q) (iI φ) xp (nI z) (nI (q - 1)) (nI j) (nI k) 24000 t0 t1 t2 (nI k) y1) Q := by
          intro t0 t1 t2
          refine u_X8_addCircles_3 ?_; unfold cm_X8_addCircles_3
          exact w_ctI ch_24004 rfl hk (c4 _ _ (cwC_fr (P := fun g => g = 24004) (fr_I rfl) (by decide) hf))
        exact w_crI ch_24004 rfl hk rfl (w_crX rfl (show q - 1 < 24 by omega) (w_crI (ch_choose (show q - 1 < 24 by omega)) rfl (show j < 24 by omega) rfl (w_if (fun _ => c3 _ _ _) (fun _ => c3 _ _ _))))
  have c1 : ∀ (y1 : ow_MS), Q y1 → Tt (fun K t => c_X8_addCircles vl K t 1 (nI q) (iI φ) xp (nI z) (nI q - 1) 0 0 24000 0 0 0 0 y1) Q := by
    intro y1 hf
    refine u_X8_addCircles_1 ?_; unfold cm_X8_addCircles_1
    exact c2 q 0 y1 (by omega) hf
  have n0 : q ≠ 1 → Q y := fun h t ht => by
    show y.2.1 24003 t = iI (n t + φ * (if q = 1 ∧ t = z then 1 else 0))
    rw [if_neg (fun h9 => h h9.1), Int.mul_zero, Int.add_zero]
    exact hn t ht
  refine e_X8_addCircles ?_
  refine u_X8_addCircles_0 ?_; unfold cm_X8_addCircles_0
  rw [show uw_len (cX vl) y (24000 + 3) = 13 from rfl]
  refine w_if (fun h0 => ?_) (fun h0 => c1 y (n0 (fun e => h0 (by rw [e]; rfl))))
  have hq1 : q = 1 := by
    rcases Nat.lt_trichotomy q 1 with h9 | h9 | h9
    · rw [show q = 0 by omega] at h0
      exact absurd h0 (by decide)
    · exact h9
    · rw [show nI q - 1 = nI (q - 1) from pk_sub (b := 1) (by omega)] at h0
      have := nI_inj9 (a := q - 1) (b := 0) (by omega) (by omega) h0
      omega
  refine w_leF (a := 13) (by omega) (by omega) (w_crI ch_24003 rfl (show z < 13 by omega) (hn z (by omega)) (w_ctI ch_24003 rfl (show z < 13 by omega) (c1 _ (fun t ht => ?_))))
  show (usI y (24000 + 3) z (iI (n z) + iI φ)).2.1 24003 t = iI (n t + φ * (if q = 1 ∧ t = z then 1 else 0))
  by_cases e : t = z
  · rw [e, if_pos ⟨hq1, rfl⟩, Int.mul_one, ← iI_add]
    exact po_usI_at
  · rw [if_neg (fun h => e h.2), Int.mul_zero, Int.add_zero]
    exact rd_ne e (hn t ht)
end XCB
/-- a net that shows a list whose first visit is its visit 0 -/
def uL (A : rn_L) (sg : Nat → Bool) (f : Nat → Nat) (R : ow_NT) : Prop := isoV A sg f R ∧ pm1 R ∧ (0 < A.flatten.length → 0 < rn_b A 1 ∧ lbv A f 0 = 0)
section XCC
variable {A : rn_L} {sg : Nat → Bool} {f : Nat → Nat} {R Q : ow_NT} {x a b v : Nat}
theorem uL_N (h : uL A sg f R) : isoN A sg f R := isoS_iff.mp h.1.1
theorem uL_0 (h : uL A sg f R) (hl : 0 < A.flatten.length) : f (crs A 0) = 0 ∧ uns A 0 = 0 := by
  have := (h.2.2 hl).2
  unfold lbv at this
  omega
theorem uL_sg (h : uL A sg f R) (hv : v < A.flatten.length) : R.2.2.2 (f (crs A v)) = iI (if sg (crs A v) then -1 else 1) := by
  have hN := uL_N h
  have h1 := hN.2.2.2.1 v hv
  have h2 := hN.2.2.2.2.2.2.1 v hv
  rcases h.2.1 _ h1 with e | e
  · rw [e] at h2 ⊢
    cases hs : sg (crs A v) with
    | false => rfl
    | true => exact absurd (h2.mpr hs) (by decide)
  · rw [e] at h2 ⊢
    rw [h2.mp (by decide)]
    rfl
theorem sm_b1 (hab : a < b) (hb : b < A.flatten.length) (ha : 0 < a) (h1 : 0 < rn_b A 1) : 0 < rn_b (smV A a b) 1 := by
  obtain ⟨c1, c2, c3⟩ := rn_c_in A a (by omega)
  have one : ∀ (Lx : List vT) (Y : rn_L), rn_b (Lx :: Y) 1 = Lx.length := fun Lx Y => by
    show ([Lx].flatten).length = Lx.length
    rw [List.flatten_cons, List.flatten_nil, List.append_nil]
  rcases Nat.eq_zero_or_pos (rn_c A a) with e | e
  · have hb0 : rn_b A 0 = 0 := rfl
    unfold smV smC
    rw [e, cps_0, hb0]
    by_cases hone : b < rn_b A (0 + 1)
    · rw [if_pos hone]
      show 0 < rn_b (((seg 0 a ++ seg (b + 1) (rn_b A (0 + 1))).map (vAt A)) :: _) 1
      rw [one, List.length_map, List.length_append, seg_len]
      omega
    · rw [if_neg hone]
      show 0 < rn_b ((((seg 0 a ++ seg (b + 1) (rn_b A (rn_c A b + 1))) ++ seg (rn_b A (rn_c A b)) b) ++ seg (a + 1) (rn_b A (0 + 1))).map (vAt A) :: _) 1
      rw [one, List.length_map, List.length_append, List.length_append, List.length_append, seg_len]
      omega
  · have hd0 : ∀ Y : rn_L, ((cps A 0 (rn_c A a)).map (List.map (vAt A)) ++ Y).head? = A.head? := fun Y => by
      rw [cps_cons (show 0 < rn_c A a by omega), List.map_cons, List.cons_append, List.head?_cons, cmp_seg (show 0 < A.length by omega)]
      cases A with
      | nil => exact absurd c1 (by rw [List.length_nil]; omega)
      | cons a A => rfl
    have hh : (smV A a b).head? = A.head? := by
      unfold smV smC
      split
      · rw [List.map_append, List.map_append, List.map_append, List.append_assoc, List.append_assoc]
        exact hd0 _
      · rw [List.map_append, List.map_append, List.map_append, List.append_assoc, List.append_assoc]
        exact hd0 _
    rw [b1_eq hh]
    exact h1
/-- the net that the class smooths -/
theorem uL_sm (h : uL A sg f R) (hs : sm2 A x a b) (h0 : crs A 0 ≠ x) : ∃ f', uL (smV A a b) sg f' (nt_rm (ntS (nt_copy Q R) (np_exchange (nt_copy Q R).2.2.1 (2 * f x) (2 * f x + 1))) (f x)) := by
  obtain ⟨s1, s2, s3, s4⟩ := hs
  have hN := uL_N h
  have hF := hN.1
  have hl : 0 < A.flatten.length := by omega
  obtain ⟨b1, b0⟩ := h.2.2 hl
  obtain ⟨f0, u0⟩ := uL_0 h hl
  have ha : 0 < a := by
    rcases Nat.eq_zero_or_pos a with e | e
    · rw [e] at s3
      exact absurd s3 h0
    · exact e
  have hx : f x < R.1 := by
    rw [← s3]
    exact hN.2.2.2.1 a (by omega)
  have hx0 : f x ≠ 0 := fun e => by
    have := hN.2.2.2.2.1 0 a hl (by omega) (by rw [s3, f0, e])
    exact h0 (this.trans s3)
  rw [← s3] at s4
  obtain ⟨f', k1, k2⟩ := iso_smb (isoV_cpy (Q := Q) h.1) s1 s2 s4
  rw [s3] at k1 k2
  refine ⟨f', k1, pm1_rm (T := ntS (nt_copy Q R) (np_exchange (nt_copy Q R).2.2.1 (2 * f x) (2 * f x + 1))) (pm1_copy h.2.1) hx, fun _ => ⟨sm_b1 s1 s2 ha b1, ?_⟩⟩
  have e1 : vAt (smV A a b) 0 = vAt A 0 := sm_pre hF s1 s2 ha
  unfold lbv
  rw [show crs (smV A a b) 0 = crs A 0 by unfold crs; rw [e1], show uns (smV A a b) 0 = uns A 0 by unfold uns; rw [e1], u0, k2, f0]
  have : ¬ (0 = (nt_copy Q R).1 - 1) := fun e => by
    have e : 0 = R.1 - 1 := e
    omega
  rw [if_neg this]
/-- the net that the class changes -/
theorem uL_ch (h : uL A sg f R) (hv : v < A.flatten.length) (e : crs A v = x) (h0 : crs A 0 ≠ x) : uL (chA A x) (chS sg x) f (ntF R (f x)) := by
  have hN := uL_N h
  have hx : f x < R.1 := by
    rw [← e]
    exact hN.2.2.2.1 v hv
  have inj : ∀ p, p ∈ A.flatten → (f p.1 = f x ↔ p.1 = x) := fun p hp => by
    obtain ⟨u, u1, u2⟩ := mem_vAt hp
    have ep : crs A u = p.1 := by unfold crs; rw [u2]
    refine ⟨fun e9 => ?_, fun e9 => by rw [e9]⟩
    rw [← ep, ← e]
    exact hN.2.2.2.2.1 u v u1 hv (by rw [ep, e, e9])
  have k := iso_flip h.1 h.2.1 hx
  have eA : A.map (List.map (flp (fun y => decide (f y = f x)))) = chA A x := by
    unfold chA
    refine List.map_congr_left (fun L hL => List.map_congr_left (fun p hp => ?_))
    have := inj p (List.mem_flatten.mpr ⟨L, hL, hp⟩)
    unfold flp
    show (if decide (f p.1 = f x) = true then (p.1, 1 - p.2) else p) = if decide (p.1 = x) = true then (p.1, 1 - p.2) else p
    rw [show decide (f p.1 = f x) = decide (p.1 = x) from decide_eq_decide.mpr this]
  rw [eA] at k
  refine ⟨isoV_sg k (fun p hp => ?_), pm1_F h.2.1, fun hl => ?_⟩
  · unfold chA at hp
    rw [fl_map2] at hp
    obtain ⟨q, hq, e9⟩ := List.mem_map.mp hp
    have ep : p.1 = q.1 := by rw [← e9, flp_1]
    have := inj q hq
    unfold chS
    rw [ep]
    by_cases e8 : q.1 = x
    · rw [if_pos e8, if_pos (this.mpr e8)]
    · rw [if_neg e8, if_neg (fun h9 => e8 (this.mp h9))]
  · rw [ch_len] at hl
    obtain ⟨b1, b0⟩ := h.2.2 hl
    refine ⟨by rw [b1_ch]; exact b1, ?_⟩
    unfold lbv
    rw [ch_crs hl, ch_uns hl, if_neg h0]
    exact b0
theorem sm2_bd (h : uL A sg f R) (hb : bdF A v) : sm2 A (crs A v) v (mtf A v) := by
  have hN := uL_N h
  obtain ⟨b1, b2, b3⟩ := bd_lt hN.1 hb
  have h2 := (hN.1.2 _ (vAt_mem hb.1)).2.1
  have hu : uns A v = 1 := by
    have h3 := hb.2.2.1
    unfold uns at h3 ⊢
    omega
  obtain ⟨m1, m2, m3, m4⟩ := lbv_mt hN hb.1
  have e1 : uns A (mtf A v) = 0 := by
    unfold lbv mt at m3
    rw [m2, hu, if_neg (by omega)] at m3
    omega
  refine ⟨b1, b2, rfl, Or.inr ⟨Prod.ext rfl hu, Prod.ext b3 e1⟩⟩
/-- along the first component -/
theorem uL_nx (h : uL A sg f R) (hv : v < rn_b A 1) : R.2.2.1.1 (lbv A f v) = if v + 1 < rn_b A 1 then lbv A f (v + 1) else 0 := by
  have hN := uL_N h
  have hle := rn_b_le A 1
  have hl : 0 < A.flatten.length := by omega
  have hc : rn_c A v = 0 := rn_c_of A 0 v (Nat.zero_le _) hv
  rw [hN.2.2.2.2.2.1 v (by omega)]
  unfold rn_nx
  rw [hc]
  show lbv A f (if v + 1 < rn_b A 1 then v + 1 else 0) = _
  by_cases e : v + 1 < rn_b A 1
  · rw [if_pos e, if_pos e]
  · rw [if_neg e, if_neg e]
    exact (h.2.2 hl).2
theorem cirs_1 (h2 : 2 ≤ A.length) (hl : A.flatten.length ≤ rn_b A 1) : 1 ≤ cirs A := by
  cases A with
  | nil => exact absurd h2 (by decide)
  | cons p A => cases A with
    | nil => exact absurd h2 (by rw [List.length_cons, List.length_nil]; omega)
    | cons q A =>
      have e : rn_b (p :: q :: A) 1 = p.length := by
        show ([p].flatten).length = p.length
        rw [List.flatten_cons, List.flatten_nil, List.append_nil]
      rw [e, List.flatten_cons, List.flatten_cons, List.length_append, List.length_append] at hl
      have hq : q = [] := List.eq_nil_of_length_eq_zero (by omega)
      rw [cirs_cons, cirs_cons, hq, if_pos rfl]
      omega
theorem cirs_0 (h1 : A.length = 1) (hb : 0 < rn_b A 1) : cirs A = 0 := by
  cases A with
  | nil => exact absurd h1 (by decide)
  | cons p A =>
    have hA : A = [] := List.eq_nil_of_length_eq_zero (by rw [List.length_cons] at h1; omega)
    subst hA
    have e : rn_b [p] 1 = p.length := by
      show ([p].flatten).length = p.length
      rw [List.flatten_cons, List.flatten_nil, List.append_nil]
    rw [e] at hb
    rw [cirs_cons, if_neg (List.length_pos_iff.mp hb)]
    rfl
theorem cirs_n (h : A.flatten = []) : cirs A = A.length := by
  induction A with
  | nil => rfl
  | cons p A ih =>
    rw [List.flatten_cons] at h
    obtain ⟨h1, h2⟩ := List.append_eq_nil_iff.mp h
    rw [cirs_cons, if_pos h1, ih h2, List.length_cons]
    omega
end XCC
