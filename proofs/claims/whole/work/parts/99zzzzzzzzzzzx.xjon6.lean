/-! jones: both sides answer the same -/
def wG9 (sg : Nat → Bool) (p : vT) : Int32 := if p.2 = 0 then (if sg p.1 then -1 else 1) else 0
theorem wr_sL9 {A : rn_L} {sg : Nat → Bool} : ∀ v, v ≤ A.flatten.length → iI (wrN A sg v) = sL (wG9 sg) (A.flatten.take v)
  | 0, _ => rfl
  | v + 1, h => by
    have ih := wr_sL9 (A := A) (sg := sg) v (by omega)
    have hv : v < A.flatten.length := by omega
    rw [take_s (vAt_of hv), sL_s, ← ih]
    show iI (wrN A sg v + if uns A v = 0 then (if sg (crs A v) then -1 else 1) else 0) = iI (wrN A sg v) + (if (vAt A v).2 = 0 then (if sg (vAt A v).1 then -1 else 1) else 0)
    rw [← iI_add]
    congr 1
    show iI (if (vAt A v).2 = 0 then (if sg (vAt A v).1 then -1 else 1) else 0) = _
    by_cases e0 : (vAt A v).2 = 0
    · rw [if_pos e0, if_pos e0]
      cases sg (vAt A v).1 <;> rfl
    · rw [if_neg e0, if_neg e0]
      rfl
theorem wr_np {A : rn_L} {sg : Nat → Bool} {c : Nat} {G : Nat → Int32} (hA : okF A.flatten c) (hG : ∀ x, x < c → G x = if sg x then -1 else 1) : np_sum G c = iI (wrN A sg A.flatten.length) := by
  rw [wr_sL9 _ (Nat.le_refl _), List.take_length, sL_pm (okF_pairs hA)]
  have key : ∀ n, n ≤ c → np_sum G n = sL (wG9 sg) (pairs n) := by
    intro n
    induction n with
    | zero => exact fun _ => rfl
    | succ n ih =>
      intro hn
      rw [pairs_s, show pairs n ++ [(n, 0), (n, 1)] = (pairs n ++ [(n, 0)]) ++ [(n, 1)] by simp, sL_s, sL_s, ← ih (by omega)]
      show np_sum G n + G n = np_sum G n + (if sg n then -1 else 1) + 0
      rw [hG n (by omega), Int32.add_zero]
  exact key c (Nat.le_refl _)
/-- the number that the reference answers -/
def jRv (A : rn_L) (sg : Nat → Bool) (c : Nat) (x : Int32) : Int32 := if x.toInt < -100 ∨ 100 < x.toInt then 0 else (jX c (wrN A sg A.flatten.length) (jN A sg c (2 ^ c)) (x.toInt + 100).toNat 23).toInt32
/-- the class's binomials -/
def bnC (y : ow_MS) : Prop := ∀ m i, m < 23 → i ≤ m → y.2.1 (39001 + m) i = nI (binN m i)
theorem jn_same {y : ow_MS} {A : rn_L} {sg : Nat → Bool} {c : Nat} {x v : Int32} (hb : bnC y) (h : jnV y A sg c x v) : v = jRv A sg c x := by
  obtain ⟨⟨S, G, hj, h8, h9, h6⟩, hv⟩ := h
  obtain ⟨hA, hi, hvn, hG⟩ := id hj
  have hc : c ≤ 12 := hA.2.2.2.1
  have hw := wrN_le (A := A) (sg := sg) A.flatten.length
  have hov := ovs_le hA.1
  have eW : y.1 24009 = iI (wrN A sg A.flatten.length) := by rw [h9, wr_np hA.1 hG]
  generalize hwn : wrN A sg A.flatten.length = w at hw eW
  have hw1 : -12 ≤ w := by omega
  have hw2 : w ≤ 12 := by omega
  have e1 := jAt_E (x := x) hc hw1 hw2 eW h6 hb
  unfold jRv
  rw [hv, e1, eW, hwn]
  by_cases hx : x.toInt < -100 ∨ 100 < x.toInt
  · rw [if_pos hx, jE_far hc hw1 hw2 hx, Int32.neg_zero, ite_self]
  · rw [if_neg hx]
    exact (jX_E hc hw1 hw2 (by omega) (fun o l ho hl => tb_jN hj ho hl)).symm
/-- the reference's row of numbers belongs to its row of a diagram -/
def jnR (z : ow_MS) : Prop := ∀ T1, rc_At z 50 0 T1 → T1 = [] ∨ ∃ A sg c, okL A c ∧ T1 = tk sg A ∧ ∀ k, k < 201 → z.2.2 48 k = jX c (wrN A sg A.flatten.length) (jN A sg c (2 ^ c)) k 23
def jnZ (g : Nat) : Prop := rPs g ∨ g = 47 ∨ g = 48 ∨ g = 50 ∨ g = 51
theorem jnR_fr {P : Nat → Prop} {z z1 : ow_MS} (hf : fr P z z1) (h1 : ¬ P 48) (h2 : ¬ P 50) (h : jnR z) : jnR z1 := by
  intro T1 hT
  have hT' : rc_At z 50 0 T1 := by
    obtain ⟨a1, a2, a3, a4⟩ := hT
    rw [(hf 50 h2).2.1] at a3
    exact ⟨a1, a2, a3, fun k t hk => by rw [← (hf 50 h2).2.1]; exact a4 k t hk⟩
  rcases h T1 hT' with e | ⟨A, sg, c, q1, q2, q3⟩
  · exact Or.inl e
  · exact Or.inr ⟨A, sg, c, q1, q2, fun k hk => by rw [(hf 48 h1).2.2]; exact q3 k hk⟩
section XJ6
variable {X : (Nat → Nat → Int32) → Prop} {z : ow_MS} {St : plT}
theorem xq_jones {d x : Int32} (h : gI X z) (hR : relR z St) (hS : okS St) (hJ : jnR z) : Te (fun K => qe_X13_jones K d x z) (fun r => jnR r.2 ∧ (rFl X z 1 r ∧ (∀ e, e < 40 → d = nI e → St e = none) ∨ ∃ e A sg, e < 40 ∧ d = nI e ∧ St e = some (A, sg) ∧ gI X r.2 ∧ r.2.1 1 = 0 ∧ fr jnZ z r.2 ∧ ∃ sg9 c, tk sg9 A = tk sg A ∧ okL A c ∧ r.1 = jRv A sg9 c x)) := by
  let Q : Int32 × ow_MS → Prop := fun r => jnR r.2 ∧ (rFl X z 1 r ∧ (∀ e, e < 40 → d = nI e → St e = none) ∨ ∃ e A sg, e < 40 ∧ d = nI e ∧ St e = some (A, sg) ∧ gI X r.2 ∧ r.2.1 1 = 0 ∧ fr jnZ z r.2 ∧ ∃ sg9 c, tk sg9 A = tk sg A ∧ okL A c ∧ r.1 = jRv A sg9 c x)
  have h1 := gI_1 (c := 0) h
  have hR1 := relR_1 (c := 0) hR
  have f01 : fr rPs z (usF z 1 0) := fr_1
  refine e_X13_jones ?_
  refine u_X13_jones_0 ?_; unfold qm_X13_jones_0
  refine w_wrF (w_hasX hR1 (fun h0 => w_ifT rfl (w_mono (w_failX h1 fr_1) (fun r hr => ⟨jnR_fr hr.2.2 (by unfold rPs rSc; omega) (by unfold rPs rSc; omega) hJ, Or.inl ⟨hr, h0⟩⟩))) (fun e A sg he hx hs hv hne => w_ifF (by decide) ?_))
  subst hx
  have c3 : ∀ {x1 : Int32} {y : ow_MS} {sg9 : Nat → Bool} {c : Nat}, (x.toInt < -100 ∨ 100 < x.toInt) → gI X y → y.1 1 = 0 → fr jnZ z y → jnR y → tk sg9 A = tk sg A → okL A c → Tt (fun K i => q_X13_jones K i 3 x1 x 0 y) Q := by
    intro x1 y sg9 c hx g1 g2 g3 g4 g5 g6
    refine u_X13_jones_3 ?_; unfold qm_X13_jones_3
    refine w_some ⟨g4, Or.inr ⟨e, A, sg, he, rfl, hs, g1, g2, g3, sg9, c, g5, g6, ?_⟩⟩
    unfold jRv
    rw [if_pos hx]
  have c2 : ∀ {x1 : Int32} {y : ow_MS} {sg9 : Nat → Bool} {c : Nat}, gI X y → y.1 1 = 0 → fr jnZ z y → jnR y → tk sg9 A = tk sg A → okL A c → (∀ k, k < 201 → y.2.2 48 k = jX c (wrN A sg9 A.flatten.length) (jN A sg9 c (2 ^ c)) k 23) → Tt (fun K i => q_X13_jones K i 2 x1 x 0 y) Q := by
    intro x1 y sg9 c g1 g2 g3 g4 g5 g6 g7
    refine u_X13_jones_2 ?_; unfold qm_X13_jones_2
    refine w_if (fun h0 => c3 (Or.inl ?_) g1 g2 g3 g4 g5 g6) (fun h0 => w_if (fun h9 => ?_) (fun h9 => c3 (Or.inr ?_) g1 g2 g3 g4 g5 g6))
    · exact Int32.lt_iff_toInt_lt.mp h0
    · have b1 : -100 ≤ x.toInt := by
        rw [Int32.lt_iff_toInt_lt] at h0
        exact Int.not_lt.mp h0
      have b2 : x.toInt ≤ 100 := Int32.le_iff_toInt_le.mp h9
      have ek : x + 100 = nI (x.toInt + 100).toNat := by
        have ex : x = iI x.toInt := (Int32.ofInt_toInt x).symm
        have : iI x.toInt + iI 100 = nI (x.toInt + 100).toNat := by
          rw [iI_add]
          exact iI_nI (by omega)
        rw [← ex] at this
        exact this
      refine w_rdJ ml48 ek (by omega) (g7 _ (by omega)) (w_some ⟨g4, Or.inr ⟨e, A, sg, he, rfl, hs, g1, g2, g3, sg9, c, g5, g6, ?_⟩⟩)
      unfold jRv
      rw [if_neg (by omega)]
    · rw [Int32.le_iff_toInt_le] at h9
      exact Int.not_le.mp h9
  obtain ⟨_, _, ⟨T1, k1⟩, kC⟩ := h1.2.2.2.2.1
  have hTl := hv.1.1
  obtain ⟨-, -, c, hA⟩ := hS e A sg he hs
  rw [show (32 : Int32) * nI e = nI (32 * e) from pk_mul 32 e]
  refine w_cs1 (tr_same (o := 32 * e) (p := 0) ml12 ml50 (by omega) (by omega) (by omega) (by omega) hv.1 k1) (fun a y e9 => ?_)
  cases e9
  have hJ1 : jnR (usF z 1 0) := jnR_fr f01 (by unfold rPs rSc; omega) (by unfold rPs rSc; omega) hJ
  refine w_if (fun _ => ?_) (fun h8 => ?_)
  rotate_left
  · have eS : tk sg A = T1 := by
      by_cases q : tk sg A = T1
      · exact q
      · exact absurd (by rw [decide_eq_false q]; rfl) h8
    rcases hJ1 T1 k1 with q | ⟨A9, sg9, c9, q1, q2, q3⟩
    · have := tk_pos (sg := sg) hne
      rw [eS, q] at this
      exact absurd this (by decide)
    · obtain ⟨u1, u2⟩ := tk_inj A A9 (okL_u hA) (okL_u q1) (eS.trans q2)
      subst u1
      exact c2 h1 po_usF_at (fr_mono (fun g hg => Or.inl hg) f01) hJ1 (q2.symm.trans eS.symm) q1 q3
  have lp2 : ∀ (dd i : Nat) (y1 y : ow_MS), i + dd = 32 → gI X y1 → y1.2.1 12 = (usF z 1 0).2.1 12 → y1.1 1 = 0 → fr jnZ z y1 → (∀ k, k < 201 → y1.2.2 48 k = jX c (wrN A sg A.flatten.length) (jN A sg c (2 ^ c)) k 23) → fr (fun g => g = 50) y1 y → (∀ t, t < i → y.2.1 50 t = y1.2.1 12 (32 * e + t)) → Tt (fun K t => q_X13_jones K t 1 (nI e) x (nI i) y) Q := by
    intro dd
    induction dd with
    | zero =>
      intro i y1 y hi g1 e12 e1 fz h48 hf ht
      have hrow : rc_At y1 12 (32 * e) (tk sg A) := by
        obtain ⟨a1, a2, a3, a4⟩ := hv.1
        exact ⟨a1, a2, by rw [e12]; exact a3, fun k t hk => by rw [e12]; exact a4 k t hk⟩
      have hr50 : rc_At y 50 0 (tk sg A) := rc_cpy hrow (fun t h9 => ht t (by omega))
      have h48' : ∀ k, k < 201 → y.2.2 48 k = jX c (wrN A sg A.flatten.length) (jN A sg c (2 ^ c)) k 23 := fun k hk => by rw [(hf 48 (by decide)).2.2]; exact h48 k hk
      have gy : gI X y := by
        refine gI_cash hf (fun g hg => Or.inl (Or.inr (Or.inr (Or.inl hg)))) ?_ g1
        obtain ⟨⟨T2, k2⟩, ⟨T3, k3⟩, -, ⟨T4, k4⟩, cc, k5, k6⟩ := g1.2.2.2.2.1
        exact ⟨⟨T2, rc_fr hf (by decide) k2⟩, ⟨T3, rc_fr hf (by decide) k3⟩, ⟨_, hr50⟩, ⟨T4, rc_fr hf (by decide) k4⟩, cc, k5, by rw [(hf 67 (by decide)).1]; exact k6⟩
      refine u_X13_jones_1 ?_; unfold qm_X13_jones_1
      exact w_leT (a := 32) (by omega) (by omega) (c2 gy (by rw [(hf 1 (by decide)).1]; exact e1) (fr_tr fz (fr_mono (fun g hg => by unfold jnZ; omega) hf)) (fun T9 hT9 => Or.inr ⟨A, sg, c, hA, rc_uni hT9 hr50, h48'⟩) rfl hA h48')
    | succ dd ih =>
      intro i y1 y hi g1 e12 e1 fz h48 hf ht
      refine u_X13_jones_1 ?_; unfold qm_X13_jones_1
      rw [show (32 : Int32) * nI e = nI (32 * e) from pk_mul 32 e, nI_add, nI_1]
      refine w_leF (a := 32) (by omega) (by omega) (w_rdI ml12 rfl (by omega) rfl (w_wrI ml50 rfl (by omega) (ih (i + 1) y1 _ (by omega) g1 e12 e1 fz h48 (fr_I2 hf rfl) (fun t h9 => ?_))))
      by_cases hti : t = i
      · rw [hti, po_usI_at, (hf 12 (by decide)).2.1]
      · exact rd_ne hti (ht t (by omega))
  refine w_cs0 (to_open pn1 he hv) (fun z2 ⟨o2, f2⟩ => w_cs0 (xm_makeJones pn1 o2 hA.1 hA.2.2.2.1) (fun z3 ⟨f3, h48⟩ => ?_))
  have hf3 : fr (fun g => 1000 ≤ g ∨ g = 47 ∨ g = 48 ∨ g = 51) (usF z 1 0) z3 := fr_tr (fr_mono (fun g hg => by omega) f2) (fr_mono (fun g hg => by omega) f3)
  exact lp2 32 0 z3 z3 (by omega) (gI_fr hf3 (fun g hg => by unfold per; omega) h1) (hf3 12 (by omega)).2.1 (by rw [(hf3 1 (by omega)).1]; exact po_usF_at) (fr_tr (fr_mono (fun g hg => Or.inl hg) f01) (fr_mono (fun g hg => by unfold jnZ rPs rSc; omega) hf3)) h48 fr_rf (fun t ht => absurd ht (by omega))
end XJ6
section XJ7
variable {X : (Nat → Nat → Int32) → Prop} {vl : Nat → Nat} {z y : ow_MS} {x x' : Int32}
/-- what jones needs besides: the class's binomials, both sides' last table -/
def relJ (z y : ow_MS) : Prop := jnR z ∧ jnC y ∧ bnC y
theorem bnC_fr {P : Nat → Prop} {y1 : ow_MS} (hf : fr P y y1) (hP : ∀ m, m < 23 → ¬ P (39001 + m)) (h : bnC y) : bnC y1 := fun m i hm hi => by
  rw [(hf _ (hP m hm)).2.1]
  exact h m i hm hi
theorem c_jones (h : rel3 X z y) (hJ : relJ z y) : Te (fun K => qe_X13_jones K x x' z) (fun rr => Te (fun K => ce_X11_jones vl K 0 x x' y) (fun rc => (rel3 X rr.2 rc.2.2 ∧ ansI [(1, 1)] rr rc) ∧ relJ rr.2 rc.2.2 ∧ fr jnZ z rr.2 ∧ fr jnP y rc.2.2)) := by
  obtain ⟨⟨St, k⟩, hM, h2⟩ := id h
  obtain ⟨j1, j2, j3⟩ := hJ
  refine te_two (xq_jones k.1 k.2.2.1 k.2.2.2.2 j1) (tc_jones (x := x) (x' := x') hM j2) (fun rr rc ⟨jr, hr⟩ ⟨hG, jc, _, _, hf, hc⟩ => ?_)
  have jb : bnC rc.2.2 := bnC_fr hf (fun m hm h9 => by unfold jnP at h9; omega) j3
  have hC : relC rc.2.2 St := relC_fr hf (fun q hq h9 => by unfold cW at hq; unfold jnP at h9; omega) k.2.2.2.1
  have fin : ∀ {P : Nat → Prop}, fr P z rr.2 → (∀ g, P g → jnZ g) → gI X rr.2 → ansI [(1, 1)] rr rc → ((rel3 X rr.2 rc.2.2 ∧ ansI [(1, 1)] rr rc) ∧ relJ rr.2 rc.2.2 ∧ fr jnZ z rr.2 ∧ fr jnP y rc.2.2) := fun hz hP hI ha => ⟨⟨⟨⟨St, hI, hG.1, relR_fr hz (fun h9 => by have := hP _ h9; unfold jnZ rPs rSc at this; omega) k.2.2.1, hC, k.2.2.2.2⟩, hG, rel2_h hz hf (fun g hg h9 => by have := hP _ hg; unfold jnZ rPs rSc at this; unfold r2Z at h9; omega) (fun g hg h9 => by unfold jnP at hg; unfold r2Y at h9; omega) h2⟩, ha⟩, ⟨jr, jc, jb⟩, fr_mono hP hz, hf⟩
  have got : ∀ {d c : Nat} {A : rn_L} {sg : Nat → Bool}, d < 40 → slC y 1000 d (clC sg A) → okL A c → A ≠ [] → ∃ sg2, St d = some (A, sg2) ∧ ∀ q, q < c → sg2 q = sg q := by
    intro d c A sg hd hs hA hne
    have ok := (okL_c (sg := sg) hA).2
    have hl : 0 < (clC sg A).2.length := by
      show 0 < (ucd sg 0 [] A).length
      rw [ucd_len]
      have := List.length_pos_iff.mpr hne
      omega
    cases e : St d with
    | none =>
      have h9 := (k.2.2.2.1 d hd).1 e
      have h8 : y.2.1 1002 d = nI (clC sg A).2.length := hs.2.1
      rw [h8] at h9
      have := nI_inj9 (a := (clC sg A).2.length) (b := 0) (by have := ok.2.1; omega) (by omega) h9
      omega
    | some P =>
      obtain ⟨k1, k2, c', k3⟩ := k.2.2.2.2 d P.1 P.2 hd e
      obtain ⟨q1, q2, q3⟩ := clC_inj hA k3 (slC_uni ok (okL_c k3).2 hs ((k.2.2.2.1 d hd).2 P.1 P.2 e))
      exact ⟨P.2, by rw [q1], fun q hq => (q3 q hq).symm⟩
  rcases hr with ⟨r1, r2⟩ | ⟨e, A, sg, he, rfl, hSt, r1, r2, r3, sg9, c, r4, r5, r6⟩
  · rcases hc with ⟨-, d, A, sg, c, hd, hx, hs, hA, hne, -⟩ | ⟨c1, -⟩
    · obtain ⟨sg2, q, -⟩ := got hd hs hA hne
      rw [r2 d hd hx] at q
      cases q
    · exact fin r1.2.2 (fun g hg => Or.inl hg) r1.1 (Or.inr ⟨1, 1, by simp, r1.2.1, c1⟩)
  · rcases hc with ⟨c1, d, A', sg', c', hd, hx, hs, hA', hne', hv⟩ | ⟨-, c2⟩
    · have ed := nI_inj9 (a := e) (b := d) (by omega) (by omega) hx
      subst ed
      obtain ⟨sg2, q, q2⟩ := got he hs hA' hne'
      rw [hSt] at q
      cases q
      obtain ⟨-, u2⟩ := tk_inj A A (okL_u hA') (okL_u hA') r4
      have ec : c' = c := by
        have l1 := okF_len hA'.1
        have l2 := okF_len r5.1
        omega
      subst ec
      have hv9 : jnV rc.2.2 A sg9 c' x' rc.2.1 := ⟨jnT_sg hv.1 (fun q hq => (u2 (q, 0) ((hA'.1.2 _).mpr ⟨hq, by show 0 < 2; omega⟩)).trans (q2 q hq)), hv.2⟩
      exact fin r3 (fun g hg => hg) r1 (Or.inl ⟨r2, c1, by rw [r6, jn_same jb hv9]⟩)
    · exfalso
      obtain ⟨k1, -, c9, k3⟩ := k.2.2.2.2 e A sg he hSt
      have hs2 := (k.2.2.2.1 e he).2 A sg hSt
      have h9 := c2 e he rfl
      have ok := (okL_c (sg := sg) k3).2
      have hl : 0 < (clC sg A).2.length := by
        show 0 < (ucd sg 0 [] A).length
        rw [ucd_len]
        have := List.length_pos_iff.mpr k1
        omega
      have h8 : y.2.1 1002 e = nI (clC sg A).2.length := hs2.2.1
      rw [h8] at h9
      have := nI_inj9 (a := (clC sg A).2.length) (b := 0) (by have := ok.2.1; omega) (by omega) h9
      omega
end XJ7
