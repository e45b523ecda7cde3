/-! summands of the reference, exactly -/
section XTA
variable {X : (Nat → Nat → Int32) → Prop} {z y y1 : ow_MS} {T : ow_NT} {A : rn_L} {sg : Nat → Bool} {D : List ptT} {N M : Nat → Nat} {c : Nat}
/-- the rows that wait, the last one first -/
def wRx (y : ow_MS) : List ptT → Prop
  | [] => True
  | d :: L => vRow y 37 (32 * L.length) d.1 d.2.1 ∧ wRx y L
theorem wRx_eq : ∀ L : List ptT, (∀ i, i < 32 * L.length → y1.2.1 37 i = y.2.1 37 i) → wRx y L → wRx y1 L
  | [], _, _ => trivial
  | d :: L, he, h => by
    have hl : (d :: L).length = L.length + 1 := List.length_cons
    rw [hl] at he
    exact ⟨vRow_eq9 (fun i h1 h2 => he i (by omega)) h.1, wRx_eq L (fun i hi => he i (by omega)) h.2⟩
theorem st_snoc {v w : Nat} : ∀ (n : Nat) (N : Nat → Nat), stN c n N M → prN c M v w → stN c (n + 1) N (exN M v w)
  | 0, N, h, hp => by
    have h : N = M := h
    subst h
    exact ⟨v, w, hp, rfl⟩
  | n + 1, N, ⟨a, b, h1, h2⟩, hp => ⟨a, b, h1, st_snoc n _ h2 hp⟩
theorem row_two {d : ptT} (h : rowO T d) : 2 ≤ d.1.flatten.length := by
  obtain ⟨-, h2, -, ⟨c, h4, -⟩, -⟩ := h
  have := okF_len h4
  have := List.length_pos_iff.mpr h2.1
  omega
theorem prt_lst : ∀ (D : List ptT), (∀ d, d ∈ D → rowO T d) → D.Pairwise (fun d d' => ∀ j, inD d j → ¬ inD d' j) → ∃ ls : List Nat, ls.Nodup ∧ 2 * D.length ≤ ls.length ∧ ∀ j, j ∈ ls → j < 2 * T.1 ∧ ∃ d, d ∈ D ∧ inD d j
  | [], _, _ => ⟨[], List.nodup_nil, Nat.le_refl _, fun j hj => absurd hj List.not_mem_nil⟩
  | d :: D, h, hp => by
    obtain ⟨p1, p2⟩ := List.pairwise_cons.mp hp
    obtain ⟨ls, l1, l2, l3⟩ := prt_lst D (fun d hd => h d (List.mem_cons_of_mem _ hd)) p2
    have hd := h d List.mem_cons_self
    have h2 := row_two hd
    have i0 : inD d (lbv d.1 d.2.2 0) := ⟨0, by omega, rfl⟩
    have i1 : inD d (lbv d.1 d.2.2 1) := ⟨1, by omega, rfl⟩
    have no : ∀ j, inD d j → j ∉ ls := fun j hj hm => by
      obtain ⟨-, d', d1, d2⟩ := l3 j hm
      exact p1 d' d1 j hj d2
    have ne : lbv d.1 d.2.2 0 ≠ lbv d.1 d.2.2 1 := fun e => by
      have := em_inj hd.1 (show 0 < d.1.flatten.length by omega) (show 1 < d.1.flatten.length by omega) e
      omega
    refine ⟨lbv d.1 d.2.2 0 :: lbv d.1 d.2.2 1 :: ls, List.nodup_cons.mpr ⟨fun hm => ?_, List.nodup_cons.mpr ⟨no _ i1, l1⟩⟩, ?_, fun j hj => ?_⟩
    · rcases List.mem_cons.mp hm with e | hm
      · exact ne e
      · exact no _ i0 hm
    · rw [List.length_cons, List.length_cons, List.length_cons]
      omega
    · rcases List.mem_cons.mp hj with e | hj
      · rw [e]
        exact ⟨em_lt hd.1 (by omega), d, List.mem_cons_self, i0⟩
      · rcases List.mem_cons.mp hj with e | hj
        · rw [e]
          exact ⟨em_lt hd.1 (by omega), d, List.mem_cons_self, i1⟩
        · obtain ⟨a1, d', a2, a3⟩ := l3 j hj
          exact ⟨a1, d', List.mem_cons_of_mem _ a2, a3⟩
theorem prt_len (h : ∀ d, d ∈ D → rowO T d) (hp : D.Pairwise (fun d d' => ∀ j, inD d j → ¬ inD d' j)) : D.length ≤ T.1 := by
  obtain ⟨ls, l1, l2, l3⟩ := prt_lst D h hp
  have := nodup_le ls (List.range (2 * T.1)) l1 (fun j hj => List.mem_range.mpr (l3 j hj).1)
  rw [List.length_range] at this
  omega
/-- the done rows are in order -/
def srM (Ms : List (rn_L × (Nat → Bool))) : Prop := Ms.Pairwise (fun a b => lsr (tk b.2 b.1) (tk a.2 a.1) = false)
theorem ins_srM {Ms : List (rn_L × (Nat → Bool))} {k : Nat} (h : srM Ms) (hk : k ≤ Ms.length) (h1 : ∀ i B t, i + 1 = k → Ms[i]? = some (B, t) → lsr (tk sg A) (tk t B) = false) (h2 : ∀ i B t, k ≤ i → Ms[i]? = some (B, t) → lsr (tk sg A) (tk t B) = true) : srM (Ms.take k ++ (A, sg) :: Ms.drop k) := by
  have hsp : (Ms.take k ++ Ms.drop k).Pairwise (fun a b => lsr (tk b.2 b.1) (tk a.2 a.1) = false) := by
    rw [List.take_append_drop]
    exact h
  obtain ⟨p1, p2, p3⟩ := List.pairwise_append.mp hsp
  have lo : ∀ a, a ∈ Ms.take k → lsr (tk sg A) (tk a.2 a.1) = false := fun a ha => by
    obtain ⟨i, hi, e⟩ := List.getElem_of_mem ha
    have hl : (Ms.take k).length = k := by rw [List.length_take]; omega
    rw [hl] at hi
    have ei : Ms[i]? = some a := by
      have := List.getElem?_eq_getElem (l := Ms.take k) (i := i) (by omega)
      rw [e, List.getElem?_take_of_lt hi] at this
      exact this
    by_cases hik : i + 1 = k
    · exact h1 i a.1 a.2 hik ei
    · have hkl : k - 1 < Ms.length := by omega
      have ek : Ms[k - 1]? = some Ms[k - 1] := List.getElem?_eq_getElem hkl
      have q1 := h1 (k - 1) Ms[k - 1].1 Ms[k - 1].2 (by omega) ek
      have hil : i < Ms.length := by omega
      have q2 := List.pairwise_iff_getElem.mp h i (k - 1) hil hkl (by omega)
      have ea : Ms[i] = a := Option.some.inj ((List.getElem?_eq_getElem hil).symm.trans ei)
      rw [ea] at q2
      cases q3 : lsr (tk sg A) (tk a.2 a.1) with
      | false => rfl
      | true =>
        exfalso
        by_cases e9 : tk Ms[k - 1].2 Ms[k - 1].1 = tk sg A
        · rw [e9, q3] at q2
          cases q2
        · rw [lsr_tr (lsr_tri q1 e9) q3] at q2
          cases q2
  have hi : ∀ b, b ∈ Ms.drop k → lsr (tk b.2 b.1) (tk sg A) = false := fun b hb => by
    obtain ⟨i, hi, e⟩ := List.getElem_of_mem hb
    have ei : Ms[k + i]? = some b := by
      have := List.getElem?_eq_getElem (l := Ms.drop k) hi
      rw [e, List.getElem?_drop] at this
      exact this
    have q := h2 (k + i) b.1 b.2 (by omega) ei
    cases q3 : lsr (tk b.2 b.1) (tk sg A) with
    | false => rfl
    | true =>
      have := lsr_tr q q3
      rw [lsr_irr] at this
      cases this
  refine List.pairwise_append.mpr ⟨p1, List.pairwise_cons.mpr ⟨hi, p2⟩, fun a ha b hb => ?_⟩
  rcases List.mem_cons.mp hb with e | hb
  · rw [e]
    exact lo a ha
  · exact p3 a ha b hb
def ptM (d : ptT) : rn_L × (Nat → Bool) := (d.1, d.2.1)
/-- the done ones and how far the net is parted -/
def suJ (T : ow_NT) (y : ow_MS) (L Dn : List ptT) : Prop := y.1 1 = 0 ∧ wRx y L ∧ (∃ Ms, rlR 35 39 36 16 y Ms ∧ srM Ms ∧ (Dn.map ptM).Perm Ms) ∧ (∀ d, d ∈ Dn → irA d.1) ∧ ∃ n S, vn T.1 S ∧ stN T.1 n T.2.2.1.1 S.1 ∧ prtD (ntS T S) (L ++ Dn)
/-- what summands leaves -/
def smE (T : ow_NT) (r : Int32 × ow_MS) : Prop := r.2.1 1 = 0 ∧ ∃ Ms Dn n S, rlR 35 39 36 16 r.2 Ms ∧ r.1 = nI Ms.length ∧ srM Ms ∧ (Dn.map ptM).Perm Ms ∧ (∀ d, d ∈ Dn → irA d.1) ∧ vn T.1 S ∧ stN T.1 n T.2.2.1.1 S.1 ∧ prtD (ntS T S) Dn
theorem xp_sum2 {e : Nat} (hT12 : T.1 ≤ 12) : ∀ (M : Nat) (L Dn : List ptT) (x3 : Int32) (y : ow_MS), 24 + L.length ≤ M + 2 * (L.length + Dn.length) → suJ T y L Dn → Tt (fun K i => q_X13_summands K i 5 (nI e) (nI L.length) x3 0 0 0 0 0 y) (smE T) := by
  intro M
  have fewR : ∀ {y : ow_MS} {L Dn : List ptT}, suJ T y L Dn → L.length + Dn.length ≤ 12 := fun {y L Dn} h => by
    obtain ⟨-, -, -, -, n, S, -, -, h5⟩ := h
    have := prt_len h5.1 h5.2.2
    rw [List.length_append] at this
    have : L.length + Dn.length ≤ T.1 := this
    omega
  have stop : ∀ {y : ow_MS} {Dn : List ptT} {x3 : Int32}, suJ T y [] Dn → Tt (fun K i => q_X13_summands K i 5 (nI e) (nI 0) x3 0 0 0 0 0 y) (smE T) := by
    intro y Dn x3 ⟨j1, j2, ⟨Ms, j3, j4, j5⟩, j6, n, S, j7, j8, j9⟩
    refine u_X13_summands_5 ?_; unfold qm_X13_summands_5
    exact w_leT (b := 0) (by omega) (by omega) (w_rdF j3.2.1 (w_some ⟨j1, Ms, Dn, n, S, j3, rfl, j4, j5, j6, j7, j8, j9⟩))
  induction M with
  | zero =>
    intro L Dn x3 y hM hJ
    have := fewR hJ
    have h0 : L = [] := List.eq_nil_of_length_eq_zero (by omega)
    subst h0
    exact stop hJ
  | succ M ihM =>
    intro L Dn x3 y hM hJ
    cases L with
    | nil => exact stop hJ
    | cons d L =>
      have hsm := fewR hJ
      rw [List.length_cons] at hM hsm ⊢
      obtain ⟨B, sgB, fB⟩ := d
      obtain ⟨j1, ⟨j2, j2'⟩, ⟨Ms, j3, j4, j5⟩, j6, n, S, j7, j8, j9⟩ := hJ
      have hvB : vRow y 37 (32 * L.length) B sgB := j2
      have hMs : Ms.length = Dn.length := by rw [← j5.length_eq, List.length_map]
      have hrow : rowO (ntS T S) (B, sgB, fB) := j9.1 _ (List.mem_append_left _ List.mem_cons_self)
      refine u_X13_summands_5 ?_; unfold qm_X13_summands_5
      rw [pk_m1, show (32 : Int32) * nI L.length = nI (32 * L.length) from pk_mul 32 L.length]
      refine w_leF (b := 0) (by omega) (by omega) (w_cs0 (to_unpack (by omega) ml37 (by omega) (by omega) hvB) (fun y1 ⟨a1, a2, a3⟩ => w_cs0 (to_link hvB a1 a2) (fun y2 ⟨b1, b2⟩ => ?_)))
      have F2 : fr (fun g => 1001 ≤ g ∧ g ≤ 1011) y y2 := fr_tr (fr_mono (fun g hg => by omega) a3) (fr_mono (fun g hg => by omega) b2)
      have hBl := b1.len
      have hBC := b1.2.2.2
      have hdB := wkF_ok b1.wk
      let I : ow_MS → Prop := fun y4 => fr (fun g => g = 38) y2 y4
      have oI : ∀ {y4 : ow_MS}, I y4 → oNet y4 1000 B sgB := fun hI => oNet_fr hI (fun g hg => by omega) b1
      have e37 : ∀ {y4 : ow_MS}, I y4 → y4.2.1 37 = y.2.1 37 := fun hI => by rw [(hI 37 (by omega)).2.1, (F2 37 (by omega)).2.1]
      have e1z : ∀ {y4 : ow_MS}, I y4 → y4.1 1 = 0 := fun hI => by rw [(hI 1 (by omega)).1, (F2 1 (by omega)).1]; exact j1
      have rlI : ∀ {y4 : ow_MS}, I y4 → rlR 35 39 36 16 y4 Ms := fun hI => rlR_k hI ⟨by omega, by omega, by omega⟩ (rlR_k F2 ⟨by omega, by omega, by omega⟩ j3)
      let nP : Nat → Nat → Nat → Prop := fun c g k => ∀ M, gdM B c g k M → ∃ u, u < B.flatten.length ∧ rn_c B u = c ∧ ¬ (g < u ∧ u ≤ k) ∧ M u = M k
      let NB : Nat → Nat → Nat → Prop := fun c g k => ∀ c' g' k', c' < B.length → rn_b B c' ≤ g' → g' < k' → k' < rn_b B (c' + 1) → (c' < c ∨ c' = c ∧ (g' < g ∨ g' = g ∧ k' < k)) → nP c' g' k'
      let PT : ow_MS → Prop := fun y4 => ∃ c g h9, rEa y4 B c g h9 ∧ c < B.length ∧ rn_b B c ≤ g ∧ g < h9 ∧ h9 < rn_b B (c + 1) ∧ (∀ v, v < B.flatten.length → y4.2.1 38 v = 1 → y4.2.1 38 (mtf B v) = 1) ∧ unU y4 B c
      have c11 : ∀ (x3 x4 : Int32) (y4 : ow_MS), I y4 → (x3 = 0 ∧ NB B.length 0 0 ∨ x3 = 1 ∧ PT y4) → Tt (fun K i => q_X13_summands K i 11 (nI e) (nI L.length) x3 x4 0 0 0 0 y4) (smE T) := by
        intro x3 x4 y4 hI hx
        have hvB4 : vRow y4 37 (32 * L.length) B sgB := vRow_eq9 (fun i _ _ => by rw [e37 hI]) hvB
        have wr4 : wRx y4 L := wRx_eq L (fun i _ => by rw [e37 hI]) j2'
        rcases hx with ⟨hx, hno⟩ | ⟨hx, c, g, h9, pE, pc, pg, pgh, ph, pcl, pun⟩
        · subst hx
          have hBne : B ≠ [] := fun e9 => by
            have h2 : cnA B fB (ntS T S) := hrow.2.1
            rw [e9] at h2
            exact h2.1 rfl
          refine u_X13_summands_11 ?_; unfold qm_X13_summands_11
          rw [show (32 : Int32) * nI L.length = nI (32 * L.length) from pk_mul 32 L.length]
          refine w_ifT rfl (w_cs0 (xp_addS (by omega) (by omega) (rlI hI) hBne hvB4) (fun y5 ⟨⟨k, k1, k2, k3, k4⟩, k5⟩ => ?_))
          refine u_X13_summands_12 ?_; unfold qm_X13_summands_12
          refine ihM L ((B, sgB, fB) :: Dn) 0 y5 (show 24 + L.length ≤ M + 2 * (L.length + (Dn.length + 1)) by omega) ⟨by rw [(k5 1 (by omega)).1]; exact e1z hI, wRx_eq L (fun i _ => by rw [(k5 37 (by omega)).2.1]) wr4, ⟨_, k2, ins_srM j4 k1 k3 k4, ?_⟩, fun d hd => ?_, n, S, j7, j8, prtD_perm j9 ?_⟩
          · have hp : (Ms.take k ++ (B, sgB) :: Ms.drop k).Perm ((B, sgB) :: Ms) := by
              have := List.perm_middle (a := (B, sgB)) (l₁ := Ms.take k) (l₂ := Ms.drop k)
              rw [List.take_append_drop] at this
              exact this
            exact (List.Perm.cons (B, sgB) j5).trans hp.symm
          · rcases List.mem_cons.mp hd with e9 | hd
            · rw [e9]
              exact fun c g k hc h1 h2 h3 => hno c g k hc h1 h2 h3 (Or.inl hc)
            · exact j6 d hd
          · exact List.perm_middle.symm
        · subst hx
          have r01 : ∀ v, v < B.flatten.length → y4.2.1 38 v = 0 ∨ y4.2.1 38 v = 1 := fun v hv9 => (pE v hv9).1
          have hbl := rn_b_le B (c + 1)
          have pcl0 : ∀ v, v < B.flatten.length → y4.2.1 38 v = 0 → y4.2.1 38 (mtf B v) = 0 := fun v hv9 hv0 => (r01 _ (mtf_lt hdB hv9)).resolve_right (fun e9 => by
            have := pcl _ (mtf_lt hdB hv9) e9
            rw [mtf_mtf hdB hv9, hv0] at this
            exact absurd this (by decide))
          have hs : prS B c g h9 (fun v => decide (y4.2.1 38 v = bZ true)) := by
            refine ⟨Or.inl (fun v v1 v2 => ?_), fun a b ha hb e1 e2 => ?_, fun v hv9 e9 => decide_eq_true (pcl v hv9 (of_decide_eq_true e9))⟩
            · rw [decide_eq_true_iff]
              exact (pE v (by omega)).2 (rn_c_of B c v v1 v2)
            · show decide (y4.2.1 38 a = bZ true) = decide (y4.2.1 38 b = bZ true)
              rw [pun a b ha hb e1 e2]
          refine u_X13_summands_11 ?_; unfold qm_X13_summands_11
          rw [nI_1, show nI L.length + 2 = nI (L.length + 2) from nI_add L.length 2]
          refine w_ifF (by decide) (w_cs0 (xp_waits (b := true) pn1 (by omega) (by omega) (oI hI) pcl) (fun y5 ⟨⟨m5, P5, k5, r5⟩, f5, i5⟩ => ?_))
          have e38 : y5.2.1 38 = y4.2.1 38 := (f5 38 (by omega)).2.1
          have o5 : oNet y5 1000 B sgB := oNet_fr f5 (fun g hg => by omega) (oI hI)
          refine w_cs0 (xp_waits (b := false) (at9 := L.length + 1) pn1 (by omega) (by omega) o5 (by rw [e38]; exact pcl0)) (fun y6 ⟨⟨m6, P6, k6, r6⟩, f6, i6⟩ => ?_)
          have ew : wfW B (fun v => decide (y5.2.1 38 v = bZ false)) B.length = wfW B (fun v => !decide (y4.2.1 38 v = bZ true)) B.length := wfW_cg (fun v hv9 => by
            show decide (y5.2.1 38 v = bZ false) = !decide (y4.2.1 38 v = bZ true)
            rw [e38]
            rcases r01 v hv9 with e9 | e9 <;> rw [e9] <;> decide) _
          rw [ew] at k6 r6
          obtain ⟨q1, d1, d2, q2, q3, q4⟩ := prt_step (T := ntS T S) (D := L ++ Dn) j9 j7 pc pg pgh ph hs k5 k6
          rw [q2] at r5
          rw [q3] at r6
          have w1 := q4.1 d1 List.mem_cons_self
          have w2 := q4.1 d2 (List.mem_cons_of_mem _ List.mem_cons_self)
          have gl' : g < B.flatten.length := by omega
          have kl : h9 < B.flatten.length := by omega
          have hem : emN B sgB fB (ntS T S) := hrow.1
          have lg9 : lbv B fB g < 2 * T.1 := em_lt (T := ntS T S) hem gl'
          have lk9 : lbv B fB h9 < 2 * T.1 := em_lt (T := ntS T S) hem kl
          refine u_X13_summands_12 ?_; unfold qm_X13_summands_12
          refine ihM (d2 :: d1 :: L) Dn 1 y6 (by rw [List.length_cons, List.length_cons]; omega) ⟨?_, ⟨?_, ?_, ?_⟩, ⟨Ms, ?_, j4, j5⟩, j6, n + 1, np_exchange S (lbv B fB g) (lbv B fB h9), vn_exchange j7 lg9 lk9, st_snoc n _ j8 q1, prtD_perm q4 ?_⟩
          · rw [(f6 1 (by omega)).1, (f5 1 (by omega)).1]
            exact e1z hI
          · exact ⟨r6, w2.2.2.2⟩
          · exact ⟨rc_eq (fun i h1 h2 => i6 i (by omega)) r5, w1.2.2.2⟩
          · exact wRx_eq L (fun i hi => by rw [i6 i (by omega), i5 i (by omega)]) wr4
          · exact rlR_k f6 ⟨by omega, by omega, by omega⟩ (rlR_k f5 ⟨by omega, by omega, by omega⟩ (rlI hI))
          · exact List.Perm.swap d2 d1 (L ++ Dn)
      have l6 : ∀ (dd c : Nat) (x3 : Int32) (y4 : ow_MS), c + dd = B.length → I y4 → (x3 = 0 ∧ NB c 0 0 ∨ x3 = 1 ∧ PT y4) → Tt (fun K i => q_X13_summands K i 6 (nI e) (nI L.length) x3 (nI c) 0 0 0 0 y4) (smE T) := by
        intro dd
        induction dd with
        | zero =>
          intro c x3 y4 hc hI hx
          have hcB : c = B.length := by omega
          rw [hcB] at hx ⊢
          refine u_X13_summands_6 ?_; unfold qm_X13_summands_6
          exact w_rdF (lk_C (oI hI).1) (w_leT (by omega) (by omega) (c11 x3 _ y4 hI hx))
        | succ dd ih6 =>
          intro c x3 y4 hc hI hx
          have m1 := rn_b_mono B c
          have m2 := rn_b_le B (c + 1)
          have c10 : ∀ (x5 x3 : Int32) (y4 : ow_MS), I y4 → (x3 = 0 ∧ NB (c + 1) 0 0 ∨ x3 = 1 ∧ PT y4) → Tt (fun K i => q_X13_summands K i 10 (nI e) (nI L.length) x3 (nI c) x5 0 0 0 y4) (smE T) := by
            intro x5 x3 y4 hI hx
            refine u_X13_summands_10 ?_; unfold qm_X13_summands_10
            rw [nI_1]
            exact ih6 (c + 1) x3 y4 (by omega) hI hx
          have l7 : ∀ (dg g : Nat) (x3 : Int32) (y4 : ow_MS), g + dg = rn_b B (c + 1) → rn_b B c ≤ g → I y4 → (x3 = 0 ∧ NB c g 0 ∨ x3 = 1 ∧ PT y4) → Tt (fun K i => q_X13_summands K i 7 (nI e) (nI L.length) x3 (nI c) (nI g) 0 0 0 y4) (smE T) := by
            intro dg
            induction dg with
            | zero =>
              intro g x3 y4 hg hlo hI hx
              refine u_X13_summands_7 ?_; unfold qm_X13_summands_7
              rw [nI_1]
              refine w_rdI (pl3 pn1) rfl (by omega) (lk_b (oI hI).1 (by omega)) (w_leT (by omega) (by omega) (c10 _ x3 y4 hI (hx.imp (fun ⟨q1, q2⟩ => ⟨q1, fun c' g' k' h1 h2 h3 h4 h5 => q2 c' g' k' h1 h2 h3 h4 ?_⟩) id)))
              by_cases ec : c' = c
              · subst ec
                exact Or.inr ⟨rfl, Or.inl (by omega)⟩
              · exact Or.inl (by omega)
            | succ dg ih7 =>
              intro g x3 y4 hg hlo hI hx
              have c9 : ∀ (x6 x3 : Int32) (y4 : ow_MS), I y4 → (x3 = 0 ∧ NB c (g + 1) 0 ∨ x3 = 1 ∧ PT y4) → Tt (fun K i => q_X13_summands K i 9 (nI e) (nI L.length) x3 (nI c) (nI g) x6 0 0 y4) (smE T) := by
                intro x6 x3 y4 hI hx
                refine u_X13_summands_9 ?_; unfold qm_X13_summands_9
                rw [nI_1]
                exact ih7 (g + 1) x3 y4 (by omega) (by omega) hI hx
              have l8 : ∀ (dh h9 : Nat) (x3 : Int32) (y4 : ow_MS), h9 + dh = rn_b B (c + 1) → g < h9 → I y4 → (x3 = 0 ∧ NB c g h9 ∨ x3 = 1 ∧ PT y4) → Tt (fun K i => q_X13_summands K i 8 (nI e) (nI L.length) x3 (nI c) (nI g) (nI h9) 0 0 y4) (smE T) := by
                intro dh
                induction dh with
                | zero =>
                  intro h9 x3 y4 hh hlo8 hI hx
                  refine u_X13_summands_8 ?_; unfold qm_X13_summands_8
                  rw [nI_1]
                  refine w_rdI (pl3 pn1) rfl (by omega) (lk_b (oI hI).1 (by omega)) (w_leT (by omega) (by omega) (c9 _ x3 y4 hI (hx.imp (fun ⟨q1, q2⟩ => ⟨q1, fun c' g' k' h1 h2 h3 h4 h5 => q2 c' g' k' h1 h2 h3 h4 ?_⟩) id)))
                  by_cases ec : c' = c
                  · subst ec
                    exact Or.inr ⟨rfl, by omega⟩
                  · exact Or.inl (by omega)
                | succ dh ih8 =>
                  intro h9 x3 y4 hh hlo8 hI hx
                  refine u_X13_summands_8 ?_; unfold qm_X13_summands_8
                  rw [nI_1, nI_1]
                  refine w_rdI (pl3 pn1) rfl (by omega) (lk_b (oI hI).1 (by omega)) (w_leF (by omega) (by omega) (w_if (fun hx0 => w_cs1 (xp_parted (oI hI) (by omega) hlo hlo8 (by omega)) (fun a y5 ⟨r1, r2, r3, r4⟩ => ?_)) (fun hx0 => c9 _ x3 y4 hI (hx.imp (fun q => absurd q.1 hx0) id))))
                  have r1 : fr (fun i => i = 38) y4 y5 := r1
                  have r2 : a = 0 ∨ a = 1 := r2
                  have r3 : a = 1 → rEa y5 B c g h9 ∧ (∀ v, v < B.flatten.length → y5.2.1 38 v = 1 → y5.2.1 38 (mtf B v) = 1) ∧ unU y5 B c := r3
                  have r4 : a = 0 → nP c g h9 := r4
                  refine ih8 (h9 + 1) a y5 (by omega) (by omega) (fr_tr hI r1) (r2.imp (fun e9 => ⟨e9, fun c' g' k' h1 h2 h3 h4 h5 => ?_⟩) (fun e9 => ⟨e9, c, g, h9, (r3 e9).1, by omega, hlo, hlo8, by omega, (r3 e9).2⟩))
                  rcases hx with ⟨-, q2⟩ | ⟨q1, -⟩
                  · by_cases ec : c' = c ∧ g' = g ∧ k' = h9
                    · obtain ⟨rfl, rfl, rfl⟩ := ec
                      exact r4 e9
                    · exact q2 c' g' k' h1 h2 h3 h4 (by omega)
                  · rw [hx0] at q1
                    exact absurd q1 (by decide)
              refine u_X13_summands_7 ?_; unfold qm_X13_summands_7
              rw [nI_1, nI_1]
              refine w_rdI (pl3 pn1) rfl (by omega) (lk_b (oI hI).1 (by omega)) (w_leF (by omega) (by omega) (w_if (fun hx0 => l8 (rn_b B (c + 1) - (g + 1)) (g + 1) x3 y4 (by omega) (by omega) hI (hx.imp (fun ⟨q1, q2⟩ => ⟨q1, fun c' g' k' h1 h2 h3 h4 h5 => q2 c' g' k' h1 h2 h3 h4 (by omega)⟩) id)) (fun hx0 => c10 _ x3 y4 hI (hx.imp (fun q => absurd q.1 hx0) id))))
          refine u_X13_summands_6 ?_; unfold qm_X13_summands_6
          refine w_rdF (lk_C (oI hI).1) (w_leF (by omega) (by omega) (w_if (fun hx0 => w_rdI (pl3 pn1) rfl (by omega) (lk_b (oI hI).1 (by omega)) (l7 (rn_b B (c + 1) - rn_b B c) (rn_b B c) x3 y4 (by omega) (Nat.le_refl _) hI (hx.imp (fun ⟨q1, q2⟩ => ⟨q1, fun c' g' k' h1 h2 h3 h4 h5 => q2 c' g' k' h1 h2 h3 h4 ?_⟩) id))) (fun hx0 => c11 x3 _ y4 hI (hx.imp (fun q => absurd q.1 hx0) id))))
          by_cases ec : c' = c
          · subst ec
            omega
          · omega
      exact l6 B.length 0 0 y2 (by omega) fr_rf (Or.inl ⟨rfl, fun c' g' k' h1 h2 h3 h4 h5 => by omega⟩)
end XTA
