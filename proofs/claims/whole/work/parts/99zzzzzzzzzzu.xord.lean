/-! the order of codes on both sides; collect, each code once -/
def sts (Cs : List cdT) (os : List Nat) : Prop := ∀ i j, i < j → j < os.length → cmpC (atC Cs os i) (atC Cs os j) < 0
theorem sts_ins {Cs : List cdT} {os : List Nat} {B : cdT} {k : Nat} (hk : k ≤ os.length) (hl : Cs.length = os.length) (hos : ∀ (j s : Nat), os[j]? = some s → s < Cs.length) (hs : sts Cs os) (h1 : ∀ i, i < k → cmpC (atC Cs os i) B < 0) (h2 : ∀ i, k ≤ i → i < os.length → cmpC B (atC Cs os i) < 0) : sts (Cs ++ [B]) (insO os k os.length) := by
  intro i j hij hj
  rw [insO_len hk] at hj
  rw [atC_ins hk hl hos (by omega), atC_ins hk hl hos (by omega)]
  by_cases a1 : j < k
  · rw [if_pos a1, if_pos (by omega)]
    exact hs i j hij (by omega)
  · rw [if_neg a1]
    by_cases a2 : j = k
    · rw [if_pos a2, if_pos (by omega)]
      exact h1 i (by omega)
    · rw [if_neg a2]
      by_cases a3 : i < k
      · rw [if_pos a3]
        exact hs i (j - 1) (by omega) (by omega)
      · rw [if_neg a3]
        by_cases a4 : i = k
        · rw [if_pos a4]
          exact h2 (j - 1) (by omega) (by omega)
        · rw [if_neg a4]
          exact hs (i - 1) (j - 1) (by omega) (by omega)
/-- the signs of a net that was loaded -/
def sgR (c : Nat) (sg : Nat → Bool) (R : ow_NT) : Prop := R.1 = c ∧ ∀ x, x < c → R.2.2.2 x = if sg x then -1 else 1
theorem lex_in {sg sg' : Nat → Bool} {b : Nat} {RA RB UA UB : List Nat} : ∀ (L L' : List vT), (∀ p, p ∈ L → b ≤ p.1 ∧ p.2 < 2) → (∀ p, p ∈ L' → b ≤ p.1 ∧ p.2 < 2) → (L = L' → (lexD RA RB < 0 ↔ lexD UA UB < 0)) → (lexD (L.map (tkv sg) ++ 0 :: RA) (L'.map (tkv sg') ++ 0 :: RB) < 0 ↔ lexD (L.map (clc sg b) ++ 0 :: UA) (L'.map (clc sg' b) ++ 0 :: UB) < 0)
  | [], [], _, _, h => by
    show (if (0 : Nat) = 0 then lexD RA RB else ((0 : Nat) : Int) - ((0 : Nat) : Int)) < 0 ↔ (if (0 : Nat) = 0 then lexD UA UB else ((0 : Nat) : Int) - ((0 : Nat) : Int)) < 0
    rw [if_pos rfl, if_pos rfl]
    exact h rfl
  | [], q :: L', _, h2, _ => by
    have hq := h2 q List.mem_cons_self
    have e1 : 0 < tkv sg' q := by unfold tkv; omega
    have e2 : 0 < clc sg' b q := by unfold clc; omega
    show (if (0 : Nat) = tkv sg' q then lexD RA _ else ((0 : Nat) : Int) - (tkv sg' q : Int)) < 0 ↔ (if (0 : Nat) = clc sg' b q then lexD UA _ else ((0 : Nat) : Int) - (clc sg' b q : Int)) < 0
    rw [if_neg (by omega), if_neg (by omega)]
    omega
  | p :: L, [], h1, _, _ => by
    have hp := h1 p List.mem_cons_self
    have e1 : 0 < tkv sg p := by unfold tkv; omega
    have e2 : 0 < clc sg b p := by unfold clc; omega
    show (if tkv sg p = 0 then lexD _ RB else (tkv sg p : Int) - ((0 : Nat) : Int)) < 0 ↔ (if clc sg b p = 0 then lexD _ UB else (clc sg b p : Int) - ((0 : Nat) : Int)) < 0
    rw [if_neg (by omega), if_neg (by omega)]
    omega
  | p :: L, q :: L', h1, h2, h => by
    have hp := h1 p List.mem_cons_self
    have hq := h2 q List.mem_cons_self
    have ih := lex_in (sg := sg) (sg' := sg') (b := b) (RA := RA) (RB := RB) (UA := UA) (UB := UB) L L' (fun r hr => h1 r (List.mem_cons_of_mem _ hr)) (fun r hr => h2 r (List.mem_cons_of_mem _ hr))
    show (if tkv sg p = tkv sg' q then lexD (L.map (tkv sg) ++ 0 :: RA) (L'.map (tkv sg') ++ 0 :: RB) else (tkv sg p : Int) - (tkv sg' q : Int)) < 0 ↔ (if clc sg b p = clc sg' b q then lexD (L.map (clc sg b) ++ 0 :: UA) (L'.map (clc sg' b) ++ 0 :: UB) else (clc sg b p : Int) - (clc sg' b q : Int)) < 0
    have d1 : tkv sg p = clc sg b p + 4 * b := by unfold tkv clc; omega
    have d2 : tkv sg' q = clc sg' b q + 4 * b := by unfold tkv clc; omega
    by_cases e : tkv sg p = tkv sg' q
    · rw [if_pos e, if_pos (by omega)]
      refine ih (fun eL => h ?_)
      have : p = q := by
        unfold tkv at e
        have s1 : (if sg p.1 = true then 1 else 0) < 2 := by split <;> omega
        have s2 : (if sg' q.1 = true then 1 else 0) < 2 := by split <;> omega
        exact Prod.ext (by omega) (by omega)
      rw [this, eL]
    · rw [if_neg e, if_neg (by omega)]
      omega
theorem lex_tu {sg sg' : Nat → Bool} : ∀ (A B : rn_L) (b : Nat) (D : rn_L), bsO b D A → bsO b D B → (∀ p, p ∈ A.flatten → p.2 < 2) → (∀ p, p ∈ B.flatten → p.2 < 2) → (lexD (tk sg A) (tk sg' B) < 0 ↔ lexD (ucd sg b D A) (ucd sg' b D B) < 0)
  | [], B, b, D, _, _, _, _ => by
    show -(((tk sg' B).length : Nat) : Int) < 0 ↔ -(((ucd sg' b D B).length : Nat) : Int) < 0
    rw [tk_len, ucd_len]
  | L :: A, [], b, D, _, _, _, _ => by
    have e1 : tk sg (L :: A) ≠ [] := fun e => by
      have := congrArg List.length e
      rw [tk_len] at this
      exact absurd this (by simp)
    have e2 : ucd sg b D (L :: A) ≠ [] := fun e => by
      have := congrArg List.length e
      rw [ucd_len] at this
      exact absurd this (by simp)
    obtain ⟨x, X, ex⟩ := List.exists_cons_of_ne_nil e1
    obtain ⟨u, U, eu⟩ := List.exists_cons_of_ne_nil e2
    rw [ex, eu]
    show (((x :: X).length : Nat) : Int) < 0 ↔ (((u :: U).length : Nat) : Int) < 0
    omega
  | L :: A, L' :: B, b, D, h1, h2, h3, h4 => by
    obtain ⟨a1, a2⟩ := h1
    obtain ⟨b1, b2⟩ := h2
    have t1 : tk sg (L :: A) = L.map (tkv sg) ++ 0 :: tk sg A := by
      show (L.map (tkv sg) ++ [0]) ++ tk sg A = _
      rw [List.append_assoc]
      rfl
    have t2 : tk sg' (L' :: B) = L'.map (tkv sg') ++ 0 :: tk sg' B := by
      show (L'.map (tkv sg') ++ [0]) ++ tk sg' B = _
      rw [List.append_assoc]
      rfl
    rw [t1, t2]
    show _ ↔ lexD (L.map (clc sg b) ++ 0 :: ucd sg (nxb b (D ++ [L])) (D ++ [L]) A) (L'.map (clc sg' b) ++ 0 :: ucd sg' (nxb b (D ++ [L'])) (D ++ [L']) B) < 0
    refine lex_in L L' (fun p hp => ⟨a1 p hp, h3 p (List.mem_append_left _ hp)⟩) (fun p hp => ⟨b1 p hp, h4 p (List.mem_append_left _ hp)⟩) (fun e => ?_)
    subst e
    exact lex_tu A B _ _ a2 b2 (fun p hp => h3 p (List.mem_append_right _ hp)) (fun p hp => h4 p (List.mem_append_right _ hp))
theorem vOf_tk {sg : Nat → Bool} : ∀ A : rn_L, vOf (tk sg A) = A.flatten.length
  | [] => rfl
  | L :: A => by
    have h1 := vOf_tk (sg := sg) A
    have t1 : tk sg (L :: A) = L.map (tkv sg) ++ 0 :: tk sg A := by
      show (L.map (tkv sg) ++ [0]) ++ tk sg A = _
      rw [List.append_assoc]
      rfl
    have h2 : (L.map (tkv sg)).countP (fun t => decide (0 < t)) = L.length := by
      rw [List.countP_eq_length.mpr, List.length_map]
      intro t ht
      obtain ⟨p, -, rfl⟩ := List.mem_map.mp ht
      refine decide_eq_true ?_
      unfold tkv
      omega
    unfold vOf at h1 ⊢
    rw [t1, List.countP_append, h2, List.countP_cons, h1, List.flatten_cons, List.length_append]
    simp
/-- the lesser diagram on both sides -/
theorem lsr_cmp {sg sg' : Nat → Bool} {A B : rn_L} {c c' : Nat} (hA : okL A c) (hB : okL B c') : lsr (tk sg A) (tk sg' B) = true ↔ cmpC (clC sg A) (clC sg' B) < 0 := by
  have l1 := okF_len hA.1
  have l2 := okF_len hB.1
  unfold lsr cmpC
  rw [vOf_tk, vOf_tk]
  show (if A.flatten.length = B.flatten.length then lxb (tk sg A) (tk sg' B) else decide (A.flatten.length < B.flatten.length)) = true ↔ (if A.flatten.length / 2 = B.flatten.length / 2 then lexD (ucd sg 0 [] A) (ucd sg' 0 [] B) else ((A.flatten.length / 2 : Nat) : Int) - ((B.flatten.length / 2 : Nat) : Int)) < 0
  by_cases e : A.flatten.length = B.flatten.length
  · rw [if_pos e, if_pos (by omega), lxb_lex]
    exact lex_tu A B 0 [] hA.2.2.1 hB.2.2.1 (fun p hp => ((hA.1.2 p).mp hp).2) (fun p hp => ((hB.1.2 p).mp hp).2)
  · rw [if_neg e, if_neg (by omega), decide_eq_true_iff]
    omega
/-- a code and a row of one diagram -/
def crR (C : cdT) (r : List Nat) : Prop := ∃ A sg c, okL A c ∧ C = clC sg A ∧ r = tk sg A
theorem crR_r {C : cdT} {r r' : List Nat} (h : crR C r) (h' : crR C r') : r = r' := by
  obtain ⟨A, sg, c, h1, h2, h3⟩ := h
  obtain ⟨B, sg', c', k1, k2, k3⟩ := h'
  rw [h3, k3]
  exact (clC_tk h1 k1).mp (h2.symm.trans k2)
theorem crR_c {C C' : cdT} {r : List Nat} (h : crR C r) (h' : crR C' r) : C = C' := by
  obtain ⟨A, sg, c, h1, h2, h3⟩ := h
  obtain ⟨B, sg', c', k1, k2, k3⟩ := h'
  rw [h2, k2]
  exact (clC_tk h1 k1).mpr (h3.symm.trans k3)
theorem crR_lt {C C' : cdT} {r r' : List Nat} (h : crR C r) (h' : crR C' r') : lsr r r' = true ↔ cmpC C C' < 0 := by
  obtain ⟨A, sg, c, h1, h2, h3⟩ := h
  obtain ⟨B, sg', c', k1, k2, k3⟩ := h'
  rw [h2, h3, k2, k3]
  exact lsr_cmp h1 k1
section XCL
variable {vl : Nat → Nat} {y : ow_MS} {g g' p p' s : Nat} {Cs : List cdT} {os : List Nat} {A : rn_L} {sg : Nat → Bool} {c kd : Nat}
theorem xc_collect (hg : tH g p) (hs : s < p) (hg16 : g + 6 ≤ 16000) (hC : slC y g s (clC sg A)) (hA : okL A c) (hg' : tH g' p') (h16 : g' + 6 ≤ 16000) (hg2 : 2000 ≤ g') (hgk : ∀ q, cV g' q → q ≠ 8001 ∧ q ≠ 9001 ∧ q ≠ 10001 ∧ (q < 4001 ∨ 5011 < q)) (hk : kd < 5) (hN : gN y) (hT : tbO y g' p' Cs os) (hst : sts Cs os) : Te (fun K => ce_X6_collect vl K 12000 g (nI s) (nI kd) g' y) (fun y1 => gN y1 ∧ fr (coP g') y y1 ∧ ∃ R X os', nv R ∧ isoN A sg (fun x => x) R ∧ sgR c sg R ∧ tbO y1 g' p' (Cs ++ X) os' ∧ sts (Cs ++ X) os' ∧ (∀ C, C ∈ X → ∃ j, j < mv_cnt R.1 kd ∧ mvD kd R j C) ∧ ∀ j, j < mv_cnt R.1 kd → mvN kd R j ∨ ∃ C, mvD kd R j C ∧ (C ∈ Cs ++ X ∨ os'.length = p')) := by
  let Q0 : ow_MS → Prop := fun y1 => gN y1 ∧ fr (coP g') y y1 ∧ ∃ R X os', nv R ∧ isoN A sg (fun x => x) R ∧ sgR c sg R ∧ tbO y1 g' p' (Cs ++ X) os' ∧ sts (Cs ++ X) os' ∧ (∀ C, C ∈ X → ∃ j, j < mv_cnt R.1 kd ∧ mvD kd R j C) ∧ ∀ j, j < mv_cnt R.1 kd → mvN kd R j ∨ ∃ C, mvD kd R j C ∧ (C ∈ Cs ++ X ∨ os'.length = p')
  have hpp := tH_p hg'
  obtain ⟨T0, t01, t02⟩ := hN.2.1 16000 nH16
  have hk2 : kH 20000 := Or.inr rfl
  -- the loop over the numbers
  have main : ∀ (R : ow_NT) (F P : Nat → Int32) (z0 : ow_MS), nv R → isoN A sg (fun x => x) R → sgR c sg R → mv_mk kd R F P → cAt z0 16000 R → (∀ k, z0.2.1 18001 k = F k) → (∀ k, z0.2.1 16006 k = P k) → fr (coP g') y z0 → (∃ Q, cAt z0 17000 Q ∧ ow_b24 Q.2.2.1) → tbO z0 g' p' Cs os → (byR z0 21001 ∧ byR z0 22001 ∧ byR z0 23001) → Tt (fun K t => c_X6_collect vl K t 1 (nI s) (nI kd) 0 0 12000 g g' z0) Q0 := by
    intro R F P z0 hR hiso hsR hmk r0 r1 r2 r3 r4 r5 r6
    have hR6 : R.2.1 ≤ 6 := by have := hR.2.2.2; omega
    have c2 : ∀ (d j : Nat) (z : ow_MS) (X : List cdT) (os1 : List Nat), j + d = mv_cnt R.1 kd → cAt z 16000 R → (∀ k, z.2.1 18001 k = F k) → (∀ k, z.2.1 16006 k = P k) → fr (coP g') y z → (∃ Q, cAt z 17000 Q ∧ ow_b24 Q.2.2.1) → tbO z g' p' (Cs ++ X) os1 → sts (Cs ++ X) os1 → (byR z 21001 ∧ byR z 22001 ∧ byR z 23001) → (∀ C, C ∈ X → ∃ i, i < mv_cnt R.1 kd ∧ mvD kd R i C) → (∀ i, i < j → mvN kd R i ∨ ∃ C, mvD kd R i C ∧ (C ∈ Cs ++ X ∨ os1.length = p')) → Tt (fun K t => c_X6_collect vl K t 2 (nI s) (nI kd) (nI (mv_cnt R.1 kd)) (nI j) 12000 g g' z) Q0 := by
      intro d
      have hcb := cnt_b (c := R.1) hR.2.1 hk
      induction d with
      | zero =>
        intro j z X os1 hj q0 q1 q2 q3 q4 q5 q5s q6 q7 q8
        have ej : j = mv_cnt R.1 kd := by omega
        refine u_X6_collect_2 ?_; unfold cm_X6_collect_2
        refine w_leT (by omega) (by omega) (w_some ⟨gN_co h16 hg2 hgk q3 hN ⟨⟨R, q0, hR.2.2.1⟩, q4⟩ q6, q3, R, X, os1, hR, hiso, hsR, q5, q5s, q7, fun i hi => q8 i (by omega)⟩)
      | succ d ih =>
        intro j z X os1 hj q0 q1 q2 q3 q4 q5 q5s q6 q7 q8
        obtain ⟨Q, Q1, Q2⟩ := q4
        have hjl : j < mv_cnt R.1 kd := by omega
        have hS : mvS z R Q := ⟨q0, Q1, hR.2.2.1, Q2, hR.2.1, hR6⟩
        obtain ⟨hb9, hnv⟩ := mv_nv hR hk F P Q j hmk Q2 hjl
        refine u_X6_collect_2 ?_; unfold cm_X6_collect_2
        refine w_leF (by omega) (by omega) (w_cs1 (tc_make hS hR.1 hk hjl q1 q2) ?_)
        rintro r z1 ⟨e1, e2, e3⟩
        dsimp only at e1 e2 e3
        rw [e1]
        have k16 : cAt z1 16000 R := cAt_fr e3 (fun q hq h9 => by unfold cP at hq; unfold mvP at h9; omega) q0
        have k18 : ∀ k, z1.2.1 18001 k = F k := fun k => by rw [(e3 18001 (by unfold mvP; omega)).2.1]; exact q1 k
        have k66 : ∀ k, z1.2.1 16006 k = P k := fun k => by rw [(e3 16006 (by unfold mvP; omega)).2.1]; exact q2 k
        have kf : fr (coP g') y z1 := fr_tr q3 (fr_mono (fun q hq => by unfold mvP at hq; unfold coP; omega) e3)
        have kt : tbO z1 g' p' (Cs ++ X) os1 := tbO_fr e3 (fun q hq h9 => by unfold cV at hq; unfold mvP at h9; omega) q5
        have kb : byR z1 21001 ∧ byR z1 22001 ∧ byR z1 23001 := ⟨byR_fr e3 (by unfold mvP; omega) q6.1, byR_fr e3 (by unfold mvP; omega) q6.2.1, byR_fr e3 (by unfold mvP; omega) q6.2.2⟩
        have c3 : ∀ (z2 : ow_MS) (X2 : List cdT) (os2 : List Nat), cAt z2 16000 R → (∀ k, z2.2.1 18001 k = F k) → (∀ k, z2.2.1 16006 k = P k) → fr (coP g') y z2 → (∃ Q, cAt z2 17000 Q ∧ ow_b24 Q.2.2.1) → tbO z2 g' p' (Cs ++ X2) os2 → sts (Cs ++ X2) os2 → (byR z2 21001 ∧ byR z2 22001 ∧ byR z2 23001) → (∀ C, C ∈ X2 → ∃ i, i < mv_cnt R.1 kd ∧ mvD kd R i C) → (∀ i, i < j + 1 → mvN kd R i ∨ ∃ C, mvD kd R i C ∧ (C ∈ Cs ++ X2 ∨ os2.length = p')) → Tt (fun K t => c_X6_collect vl K t 3 (nI s) (nI kd) (nI (mv_cnt R.1 kd)) (nI j) 12000 g g' z2) Q0 := by
          intro z2 X2 os2 p0 p1 p2 p3 p4 p5 p5s p6 p7 p8
          refine u_X6_collect_3 ?_; unfold cm_X6_collect_3
          rw [nI_1]
          exact ih (j + 1) z2 X2 os2 (by omega) p0 p1 p2 p3 p4 p5 p5s p6 p7 p8
        refine w_if (fun e0 => ?_) (fun e0 => ?_)
        · refine c3 z1 X os1 k16 k18 k66 kf ⟨_, e2, hb9⟩ kt q5s kb q7 (fun i hi => ?_)
          by_cases ei : i = j
          · rw [ei]
            exact Or.inl ⟨F, P, Q, hmk, Q2, zI_e e0⟩
          · exact q8 i (by omega)
        · have hB := zI_ne e0
          have hv := hnv hB
          refine w_cs0 (tc_encode hk2 nH17 e2 hv kb.1 kb.2.1 kb.2.2) ?_
          rintro z2 ⟨⟨Ds, qs, d1, d2, d3⟩, b1, b2, b3, hy2, f2⟩
          have n2 : ∀ q, enP 20000 17000 q → 17001 ≤ q ∧ q ≤ 17011 ∨ 20004 ≤ q ∧ q ≤ 23005 := fun q hq => by
            unfold enP cpP epP cV cQ at hq
            omega
          have hD : mvD kd R j (enC (mv_T kd j Q R F P) Ds qs) := ⟨F, P, Q, Ds, qs, hmk, Q2, hB, d1, rfl⟩
          have hokC : okC (enC (mv_T kd j Q R F P) Ds qs) := by
            obtain ⟨A', sg', o1, o2, -⟩ := enc_ok hv d1
            exact ⟨A', sg', _, o1, o2⟩
          have kt2 : tbO z2 g' p' (Cs ++ X) os1 := tbO_fr f2 (fun q hq h9 => by have := n2 q h9; unfold cV at hq; omega) kt
          refine w_cs0 (tc_addNew hg' (kH_out hk2) (by omega) Nat.one_pos kt2.1 kt2.2.2.2.1 d2 d3 b1) ?_
          rintro z3 ⟨a1, a2, a3⟩
          have m16 : cAt z3 16000 R := cAt_fr a3 (fun q hq h9 => by unfold cP at hq; unfold cV at h9; omega) (cAt_fr f2 (fun q hq h9 => by have := n2 q h9; unfold cP at hq; omega) k16)
          have m17 : cAt z3 17000 (mv_T kd j Q R F P) := cAt_fr a3 (fun q hq h9 => by unfold cP at hq; unfold cV at h9; omega) hy2
          have m18 : ∀ k, z3.2.1 18001 k = F k := fun k => by
            rw [(a3 18001 (by unfold cV; omega)).2.1, (f2 18001 (fun h9 => by have := n2 _ h9; omega)).2.1]
            exact k18 k
          have m66 : ∀ k, z3.2.1 16006 k = P k := fun k => by
            rw [(a3 16006 (by unfold cV; omega)).2.1, (f2 16006 (fun h9 => by have := n2 _ h9; omega)).2.1]
            exact k66 k
          have mf : fr (coP g') y z3 := fr_tr kf (fr_tr (fr_mono (fun q hq => by have := n2 q hq; unfold coP; omega) f2) (fr_mono (fun q hq => Or.inr (Or.inr hq)) a3))
          have mb : byR z3 21001 ∧ byR z3 22001 ∧ byR z3 23001 := ⟨byR_fr a3 (by unfold cV; omega) b1, byR_fr a3 (by unfold cV; omega) b2, byR_fr a3 (by unfold cV; omega) b3⟩
          have mby : byR z3 (g' + 1) := a2 kt2.2.2.2.2
          rcases a1 with ⟨⟨k, k1, k2⟩, rfl⟩ | ⟨k, k1, k2, k3⟩
          · refine c3 z3 X os1 m16 m18 m66 mf ⟨_, m17, hb9⟩ kt2 q5s mb q7 (fun i hi => ?_)
            by_cases ei : i = j
            · rw [ei]
              refine Or.inr ⟨_, hD, Or.inl ?_⟩
              rw [← k2]
              obtain ⟨s9, s91, s92, s93, s94⟩ := tab_at kt2.1 k1
              unfold atC
              have hk9 : (Cs ++ X).length = os1.length := kt2.1.2.1
              have hso : os1.getD k 0 < (Cs ++ X).length := by
                rw [List.getD_eq_getElem?_getD, List.getElem?_eq_getElem k1]
                exact (kt2.1.2.2.2 k _ (List.getElem?_eq_getElem k1)).2
              rw [List.getD_eq_getElem?_getD (l := Cs ++ X), List.getElem?_eq_getElem hso]
              exact List.getElem_mem hso
            · exact q8 i (by omega)
          · by_cases hl : os1.length < p'
            · rw [if_pos hl] at k3
              have hmo := k2 (srt_mo kt2.2.1 _)
              have hT3 : tbO z3 g' p' (Cs ++ (X ++ [enC (mv_T kd j Q R F P) Ds qs])) (insO os1 k os1.length) := by
                rw [← List.append_assoc]
                refine ⟨k3, srt_ins k1 kt2.1.2.1 (tabC_os kt2.1) kt2.2.1 (fun i hi => Int.le_of_lt (hmo.1 i hi)) (fun i h1 h2 => ?_), fun C hC => ?_, by rw [insO_len k1]; omega, mby⟩
                · have := hmo.2 i h1 h2
                  have := cmpC_sym (A := enC (mv_T kd j Q R F P) Ds qs) (B := atC (Cs ++ X) os1 i)
                  omega
                · rcases List.mem_append.mp hC with h9 | h9
                  · exact kt2.2.2.1 C h9
                  · rw [List.mem_singleton.mp h9]
                    exact hokC
              have hT3s : sts (Cs ++ (X ++ [enC (mv_T kd j Q R F P) Ds qs])) (insO os1 k os1.length) := by
                rw [← List.append_assoc]
                refine sts_ins k1 kt2.1.2.1 (tabC_os kt2.1) q5s hmo.1 (fun i h1 h2 => ?_)
                have := hmo.2 i h1 h2
                have := cmpC_sym (A := enC (mv_T kd j Q R F P) Ds qs) (B := atC (Cs ++ X) os1 i)
                omega
              refine c3 z3 _ _ m16 m18 m66 mf ⟨_, m17, hb9⟩ hT3 hT3s mb (fun C hC => ?_) (fun i hi => ?_)
              · rcases List.mem_append.mp hC with h9 | h9
                · exact q7 C h9
                · rw [List.mem_singleton.mp h9]
                  exact ⟨j, hjl, hD⟩
              · by_cases ei : i = j
                · rw [ei]
                  exact Or.inr ⟨_, hD, Or.inl (List.mem_append_right _ (List.mem_append_right _ (List.mem_singleton.mpr rfl)))⟩
                · rcases q8 i (by omega) with h9 | ⟨C, h9, h8 | h8⟩
                  · exact Or.inl h9
                  · refine Or.inr ⟨C, h9, Or.inl ?_⟩
                    rw [← List.append_assoc]
                    exact List.mem_append_left _ h8
                  · omega
            · rw [if_neg hl] at k3
              have hfull : os1.length = p' := by
                have := kt2.2.2.2.1
                omega
              refine c3 z3 X os1 m16 m18 m66 mf ⟨_, m17, hb9⟩ ⟨k3, kt2.2.1, kt2.2.2.1, kt2.2.2.2.1, mby⟩ q5s mb q7 (fun i hi => ?_)
              by_cases ei : i = j
              · rw [ei]
                exact Or.inr ⟨_, hD, Or.inr hfull⟩
              · exact q8 i (by omega)
    refine u_X6_collect_1 ?_; unfold cm_X6_collect_1
    refine w_cs1 (tc_countNumbers r0.1 hR.2.1 hk) ?_
    rintro v z1 ⟨e1, e2⟩
    dsimp only at e1 e2
    rw [e1, e2]
    exact c2 (mv_cnt R.1 kd) 0 z0 [] os (by omega) r0 r1 r2 r3 r4 (by rw [List.append_nil]; exact r5) (by rw [List.append_nil]; exact hst) r6 (fun C hC => by cases hC) (fun i hi => absurd hi (Nat.not_lt_zero _))
  have hbk := hN.2.2 20000 hk2
  refine e_X6_collect ?_
  refine u_X6_collect_0 ?_; unfold cm_X6_collect_0
  refine w_cs0 (tc_load3 nH16 hg (by omega) hs hA hC t01 t02) ?_
  rintro y1 ⟨⟨R, hR, hR1, hR2, hR3⟩, f1⟩
  have hsR : sgR c sg R := ⟨hR1, hR3⟩
  have n1 : ∀ q, cL 16000 q → 16001 ≤ q ∧ q ≤ 16010 := fun q hq => by unfold cL at hq; omega
  have f1c : fr (coP g') y y1 := fr_mono (fun q hq => by have := n1 q hq; unfold coP; omega) f1
  have hT1 : tbO y1 g' p' Cs os := tbO_fr f1 (fun q hq h9 => by have := n1 q h9; unfold cV at hq; omega) hT
  have hQ1 : ∃ Q, cAt y1 17000 Q ∧ ow_b24 Q.2.2.1 := by
    obtain ⟨Q, a1, a2⟩ := hN.2.1 17000 nH17
    exact ⟨Q, cAt_fr f1 (fun q hq h9 => by have := n1 q h9; unfold cP at hq; omega) a1, a2⟩
  have hb1 : byR y1 21001 ∧ byR y1 22001 ∧ byR y1 23001 := ⟨byR_fr f1 (fun h9 => by have := n1 _ h9; omega) hbk.1, byR_fr f1 (fun h9 => by have := n1 _ h9; omega) hbk.2.1, byR_fr f1 (fun h9 => by have := n1 _ h9; omega) hbk.2.2⟩
  have hv := hR.2.2.1
  by_cases e3 : kd = 3
  · refine w_ifT (by rw [e3]; rfl) (w_cs0 (tc_markParts nH16 hR.1 (fun a ha => (hv.1 a ha).1) hv.2.1) ?_)
    rintro y2 ⟨m1, m2, m3⟩
    have hy2 : cAt y2 16000 R := cAt_fr m3 (fun q hq h9 => by unfold cP at hq; unfold cQ at h9; omega) hR.1
    refine w_cs0 (tc_faces (f := 18000) nH16 (Or.inr (Or.inl rfl)) (by omega) hy2 hv.2.2.1 hv.1 hv.2.1) ?_
    rintro y3 ⟨g1, g2, g3⟩
    have hof := np_parts_of (N := R.2.2.1.1) (c := R.1) (fun a ha => (hv.1 a ha).1) hv.2.1 (y1.2.1 (16000 + 6))
    have hfa := mr_out_rl (fun a ha => fc_on_vn hv.1 R.2.2.2 ha) (rl_fill (4 * R.1) (y2.2.1 (18000 + 1)) (-1)) (4 * R.1) (Nat.le_refl _)
    have u2 : ∀ q, cQ 16000 q → 16001 ≤ q ∧ q ≤ 16011 := fun q hq => by unfold cQ at hq; omega
    have u3 : ∀ q, cF 18000 q → q = 18001 ∨ q = 18002 := fun q hq => by unfold cF at hq; omega
    refine main R (y3.2.1 18001) (y3.2.1 16006) y3 hv hR.2.1 hsR (fun _ => ⟨fun k hk9 => ?_, fun k hk9 => ?_⟩) (cAt_fr g3 (fun q hq h9 => by have := u3 q h9; unfold cP at hq; omega) hy2) (fun _ => rfl) (fun _ => rfl) (fr_tr f1c (fr_tr (fr_mono (fun q hq => by have := u2 q hq; unfold coP; omega) m3) (fr_mono (fun q hq => by have := u3 q hq; unfold coP; omega) g3))) ?_ (tbO_fr g3 (fun q hq h9 => by have := u3 q h9; unfold cV at hq; omega) (tbO_fr m3 (fun q hq h9 => by have := u2 q h9; unfold cV at hq; omega) hT1)) ⟨byR_fr g3 (fun h9 => by have := u3 _ h9; omega) (byR_fr m3 (fun h9 => by have := u2 _ h9; omega) hb1.1), byR_fr g3 (fun h9 => by have := u3 _ h9; omega) (byR_fr m3 (fun h9 => by have := u2 _ h9; omega) hb1.2.1), byR_fr g3 (fun h9 => by have := u3 _ h9; omega) (byR_fr m3 (fun h9 => by have := u2 _ h9; omega) hb1.2.2)⟩
    · rw [(g3 16006 (fun h9 => by have := u3 _ h9; omega)).2.1]
      exact (m1 k).trans (hof.1 k hk9)
    · exact (g1 k).trans (hfa.1 k hk9)
    · obtain ⟨Q, a1, a2⟩ := hQ1
      exact ⟨Q, cAt_fr g3 (fun q hq h9 => by have := u3 q h9; unfold cP at hq; omega) (cAt_fr m3 (fun q hq h9 => by have := u2 q h9; unfold cP at hq; omega) a1), a2⟩
  · refine w_ifF (fun h9 => e3 (nI_inj9 (a := kd) (b := 3) (by omega) (by omega) h9)) ?_
    exact main R (y1.2.1 18001) (y1.2.1 16006) y1 hv hR.2.1 hsR (fun h9 => absurd h9 e3) hR.1 (fun _ => rfl) (fun _ => rfl) f1c hQ1 hT1 hb1
end XCL
