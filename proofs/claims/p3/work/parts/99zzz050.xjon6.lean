section
/-! 99zzzzzzzzzzzx.xjon6 -/
/-! jones: both sides answer the same -/
def wG9 (sg : Nat → Bool) (p : vT) : Int32 := if p.2 = 0 then (if sg p.1 then -1 else 1) else 0
theorem wr_sL9 {A : rn_L} {sg : Nat → Bool} : ∀ v, v ≤ A.flatten.length → iI (wrN A sg v) = sL (wG9 sg) (A.flatten.take v)
  | 0, _ => rfl
  | v + 1, h => by
    have ih := wr_sL9 (A := A) (sg := sg) v (by omega)
    have hv : v < A.flatten.length := by omega
    rw [take_s (vAt_of hv), sL_s, ← ih]
    show iI (wrN A sg v + if uns A v = 0 then (if sg (crs A v) then -1 else 1) else 0) = iI (wrN A sg v) + (if (vAt A v).2 = 0 then (if sg (vAt A v).1 then -1 else 1) else 0)
    rw [← iI_add]
    congr 1
    show iI (if (vAt A v).2 = 0 then (if sg (vAt A v).1 then -1 else 1) else 0) = _
    by_cases e0 : (vAt A v).2 = 0
    · rw [if_pos e0, if_pos e0]
      cases sg (vAt A v).1 <;> rfl
    · rw [if_neg e0, if_neg e0]
      rfl
theorem wr_np {A : rn_L} {sg : Nat → Bool} {c : Nat} {G : Nat → Int32} (hA : okF A.flatten c) (hG : ∀ x, x < c → G x = if sg x then -1 else 1) : np_sum G c = iI (wrN A sg A.flatten.length) := by
  rw [wr_sL9 _ (Nat.le_refl _), List.take_length, sL_pm (okF_pairs hA)]
  have key : ∀ n, n ≤ c → np_sum G n = sL (wG9 sg) (pairs n) := by
    intro n
    induction n with
    | zero => exact fun _ => rfl
    | succ n ih =>
      intro hn
      rw [pairs_s, show pairs n ++ [(n, 0), (n, 1)] = (pairs n ++ [(n, 0)]) ++ [(n, 1)] by simp, sL_s, sL_s, ← ih (by omega)]
      show np_sum G n + G n = np_sum G n + (if sg n then -1 else 1) + 0
      rw [hG n (by omega), Int32.add_zero]
  exact key c (Nat.le_refl _)
/-- the number that the reference answers -/
def jRv (A : rn_L) (sg : Nat → Bool) (c : Nat) (x : Int32) : Int32 := if x.toInt < -100 ∨ 100 < x.toInt then 0 else (jX c (wrN A sg A.flatten.length) (jN A sg c (2 ^ c)) (x.toInt + 100).toNat 23).toInt32
/-- the class's binomials -/
def bnC (y : ow_MS) : Prop := ∀ m i, m < 23 → i ≤ m → y.2.1 (39001 + m) i = nI (binN m i)
theorem jn_same {y : ow_MS} {A : rn_L} {sg : Nat → Bool} {c : Nat} {x v : Int32} (hb : bnC y) (h : jnV y A sg c x v) : v = jRv A sg c x := by
  obtain ⟨⟨S, G, hj, h8, h9, h6⟩, hv⟩ := h
  obtain ⟨hA, hi, hvn, hG⟩ := id hj
  have hc : c ≤ 12 := hA.2.2.2.1
  have hw := wrN_le (A := A) (sg := sg) A.flatten.length
  have hov := ovs_le hA.1
  have eW : y.1 24009 = iI (wrN A sg A.flatten.length) := by rw [h9, wr_np hA.1 hG]
  generalize hwn : wrN A sg A.flatten.length = w at hw eW
  have hw1 : -12 ≤ w := by omega
  have hw2 : w ≤ 12 := by omega
  have e1 := jAt_E (x := x) hc hw1 hw2 eW h6 hb
  unfold jRv
  rw [hv, e1, eW, hwn]
  by_cases hx : x.toInt < -100 ∨ 100 < x.toInt
  · rw [if_pos hx, jE_far hc hw1 hw2 hx, Int32.neg_zero, ite_self]
  · rw [if_neg hx]
    exact (jX_E hc hw1 hw2 (by omega) (fun o l ho hl => tb_jN hj ho hl)).symm
/-- the reference's row of numbers belongs to its row of a diagram -/
def jnR (z : ow_MS) : Prop := ∀ T1, rc_At z 50 0 T1 → T1 = [] ∨ ∃ A sg c, okL A c ∧ T1 = tk sg A ∧ ∀ k, k < 201 → z.2.2 48 k = jX c (wrN A sg A.flatten.length) (jN A sg c (2 ^ c)) k 23
def jnZ (g : Nat) : Prop := rPs g ∨ g = 47 ∨ g = 48 ∨ g = 50 ∨ g = 51
theorem jnR_fr {P : Nat → Prop} {z z1 : ow_MS} (hf : fr P z z1) (h1 : ¬ P 48) (h2 : ¬ P 50) (h : jnR z) : jnR z1 := by
  intro T1 hT
  have hT' : rc_At z 50 0 T1 := by
    obtain ⟨a1, a2, a3, a4⟩ := hT
    rw [(hf 50 h2).2.1] at a3
    exact ⟨a1, a2, a3, fun k t hk => by rw [← (hf 50 h2).2.1]; exact a4 k t hk⟩
  rcases h T1 hT' with e | ⟨A, sg, c, q1, q2, q3⟩
  · exact Or.inl e
  · exact Or.inr ⟨A, sg, c, q1, q2, fun k hk => by rw [(hf 48 h1).2.2]; exact q3 k hk⟩
section XJ6
variable {X : (Nat → Nat → Int32) → Prop} {z : ow_MS} {St : plT}
theorem xq_jones {d x : Int32} (h : gI X z) (hR : relR z St) (hS : okS St) (hJ : jnR z) : Te (fun K => qe_X13_jones K d x z) (fun r => jnR r.2 ∧ (rFl X z 1 r ∧ (∀ e, e < 40 → d = nI e → St e = none) ∨ ∃ e A sg, e < 40 ∧ d = nI e ∧ St e = some (A, sg) ∧ gI X r.2 ∧ r.2.1 1 = 0 ∧ fr jnZ z r.2 ∧ ∃ sg9 c, tk sg9 A = tk sg A ∧ okL A c ∧ r.1 = jRv A sg9 c x)) := by
  let Q : Int32 × ow_MS → Prop := fun r => jnR r.2 ∧ (rFl X z 1 r ∧ (∀ e, e < 40 → d = nI e → St e = none) ∨ ∃ e A sg, e < 40 ∧ d = nI e ∧ St e = some (A, sg) ∧ gI X r.2 ∧ r.2.1 1 = 0 ∧ fr jnZ z r.2 ∧ ∃ sg9 c, tk sg9 A = tk sg A ∧ okL A c ∧ r.1 = jRv A sg9 c x)
  have h1 := gI_1 (c := 0) h
  have hR1 := relR_1 (c := 0) hR
  have f01 : fr rPs z (usF z 1 0) := fr_1
  refine e_X13_jones ?_
  refine u_X13_jones_0 ?_; unfold qm_X13_jones_0
  refine w_wrF (w_hasX hR1 (fun h0 => w_ifT rfl (w_mono (w_failX h1 fr_1) (fun r hr => ⟨jnR_fr hr.2.2 (by unfold rPs rSc; omega) (by unfold rPs rSc; omega) hJ, Or.inl ⟨hr, h0⟩⟩))) (fun e A sg he hx hs hv hne => w_ifF (by decide) ?_))
  subst hx
  have c3 : ∀ {x1 : Int32} {y : ow_MS} {sg9 : Nat → Bool} {c : Nat}, (x.toInt < -100 ∨ 100 < x.toInt) → gI X y → y.1 1 = 0 → fr jnZ z y → jnR y → tk sg9 A = tk sg A → okL A c → Tt (fun K i => q_X13_jones K i 3 x1 x 0 y) Q := by
    intro x1 y sg9 c hx g1 g2 g3 g4 g5 g6
    refine u_X13_jones_3 ?_; unfold qm_X13_jones_3
    refine w_some ⟨g4, Or.inr ⟨e, A, sg, he, rfl, hs, g1, g2, g3, sg9, c, g5, g6, ?_⟩⟩
    unfold jRv
    rw [if_pos hx]
  have c2 : ∀ {x1 : Int32} {y : ow_MS} {sg9 : Nat → Bool} {c : Nat}, gI X y → y.1 1 = 0 → fr jnZ z y → jnR y → tk sg9 A = tk sg A → okL A c → (∀ k, k < 201 → y.2.2 48 k = jX c (wrN A sg9 A.flatten.length) (jN A sg9 c (2 ^ c)) k 23) → Tt (fun K i => q_X13_jones K i 2 x1 x 0 y) Q := by
    intro x1 y sg9 c g1 g2 g3 g4 g5 g6 g7
    refine u_X13_jones_2 ?_; unfold qm_X13_jones_2
    refine w_if (fun h0 => c3 (Or.inl ?_) g1 g2 g3 g4 g5 g6) (fun h0 => w_if (fun h9 => ?_) (fun h9 => c3 (Or.inr ?_) g1 g2 g3 g4 g5 g6))
    · exact Int32.lt_iff_toInt_lt.mp h0
    · have b1 : -100 ≤ x.toInt := by
        rw [Int32.lt_iff_toInt_lt] at h0
        exact Int.not_lt.mp h0
      have b2 : x.toInt ≤ 100 := Int32.le_iff_toInt_le.mp h9
      have ek : x + 100 = nI (x.toInt + 100).toNat := by
        have ex : x = iI x.toInt := (Int32.ofInt_toInt x).symm
        have : iI x.toInt + iI 100 = nI (x.toInt + 100).toNat := by
          rw [iI_add]
          exact iI_nI (by omega)
        rw [← ex] at this
        exact this
      refine w_rdJ ml48 ek (by omega) (g7 _ (by omega)) (w_some ⟨g4, Or.inr ⟨e, A, sg, he, rfl, hs, g1, g2, g3, sg9, c, g5, g6, ?_⟩⟩)
      unfold jRv
      rw [if_neg (by omega)]
    · rw [Int32.le_iff_toInt_le] at h9
      exact Int.not_le.mp h9
  obtain ⟨_, _, ⟨T1, k1⟩, kC⟩ := h1.2.2.2.2.1
  have hTl := hv.1.1
  obtain ⟨-, -, c, hA⟩ := hS e A sg he hs
  rw [show (32 : Int32) * nI e = nI (32 * e) from pk_mul 32 e]
  refine w_cs1 (tr_same (o := 32 * e) (p := 0) ml12 ml50 (by omega) (by omega) (by omega) (by omega) hv.1 k1) (fun a y e9 => ?_)
  cases e9
  have hJ1 : jnR (usF z 1 0) := jnR_fr f01 (by unfold rPs rSc; omega) (by unfold rPs rSc; omega) hJ
  refine w_if (fun _ => ?_) (fun h8 => ?_)
  rotate_left
  · have eS : tk sg A = T1 := by
      by_cases q : tk sg A = T1
      · exact q
      · exact absurd (by rw [decide_eq_false q]; rfl) h8
    rcases hJ1 T1 k1 with q | ⟨A9, sg9, c9, q1, q2, q3⟩
    · have := tk_pos (sg := sg) hne
      rw [eS, q] at this
      exact absurd this (by decide)
    · obtain ⟨u1, u2⟩ := tk_inj A A9 (okL_u hA) (okL_u q1) (eS.trans q2)
      subst u1
      exact c2 h1 po_usF_at (fr_mono (fun g hg => Or.inl hg) f01) hJ1 (q2.symm.trans eS.symm) q1 q3
  have lp2 : ∀ (dd i : Nat) (y1 y : ow_MS), i + dd = 32 → gI X y1 → y1.2.1 12 = (usF z 1 0).2.1 12 → y1.1 1 = 0 → fr jnZ z y1 → (∀ k, k < 201 → y1.2.2 48 k = jX c (wrN A sg A.flatten.length) (jN A sg c (2 ^ c)) k 23) → fr (fun g => g = 50) y1 y → (∀ t, t < i → y.2.1 50 t = y1.2.1 12 (32 * e + t)) → Tt (fun K t => q_X13_jones K t 1 (nI e) x (nI i) y) Q := by
    intro dd
    induction dd with
    | zero =>
      intro i y1 y hi g1 e12 e1 fz h48 hf ht
      have hrow : rc_At y1 12 (32 * e) (tk sg A) := by
        obtain ⟨a1, a2, a3, a4⟩ := hv.1
        exact ⟨a1, a2, by rw [e12]; exact a3, fun k t hk => by rw [e12]; exact a4 k t hk⟩
      have hr50 : rc_At y 50 0 (tk sg A) := rc_cpy hrow (fun t h9 => ht t (by omega))
      have h48' : ∀ k, k < 201 → y.2.2 48 k = jX c (wrN A sg A.flatten.length) (jN A sg c (2 ^ c)) k 23 := fun k hk => by rw [(hf 48 (by decide)).2.2]; exact h48 k hk
      have gy : gI X y := by
        refine gI_cash hf (fun g hg => Or.inl (Or.inr (Or.inr (Or.inl hg)))) ?_ g1
        obtain ⟨⟨T2, k2⟩, ⟨T3, k3⟩, -, ⟨T4, k4⟩, cc, k5, k6⟩ := g1.2.2.2.2.1
        exact ⟨⟨T2, rc_fr hf (by decide) k2⟩, ⟨T3, rc_fr hf (by decide) k3⟩, ⟨_, hr50⟩, ⟨T4, rc_fr hf (by decide) k4⟩, cc, k5, by rw [(hf 67 (by decide)).1]; exact k6⟩
      refine u_X13_jones_1 ?_; unfold qm_X13_jones_1
      exact w_leT (a := 32) (by omega) (by omega) (c2 gy (by rw [(hf 1 (by decide)).1]; exact e1) (fr_tr fz (fr_mono (fun g hg => by unfold jnZ; omega) hf)) (fun T9 hT9 => Or.inr ⟨A, sg, c, hA, rc_uni hT9 hr50, h48'⟩) rfl hA h48')
    | succ dd ih =>
      intro i y1 y hi g1 e12 e1 fz h48 hf ht
      refine u_X13_jones_1 ?_; unfold qm_X13_jones_1
      rw [show (32 : Int32) * nI e = nI (32 * e) from pk_mul 32 e, nI_add, nI_1]
      refine w_leF (a := 32) (by omega) (by omega) (w_rdI ml12 rfl (by omega) rfl (w_wrI ml50 rfl (by omega) (ih (i + 1) y1 _ (by omega) g1 e12 e1 fz h48 (fr_I2 hf rfl) (fun t h9 => ?_))))
      by_cases hti : t = i
      · rw [hti, po_usI_at, (hf 12 (by decide)).2.1]
      · exact rd_ne hti (ht t (by omega))
  refine w_cs0 (to_open pn1 he hv) (fun z2 ⟨o2, f2⟩ => w_cs0 (xm_makeJones pn1 o2 hA.1 hA.2.2.2.1) (fun z3 ⟨f3, h48⟩ => ?_))
  have hf3 : fr (fun g => 1000 ≤ g ∨ g = 47 ∨ g = 48 ∨ g = 51) (usF z 1 0) z3 := fr_tr (fr_mono (fun g hg => by omega) f2) (fr_mono (fun g hg => by omega) f3)
  exact lp2 32 0 z3 z3 (by omega) (gI_fr hf3 (fun g hg => by unfold per; omega) h1) (hf3 12 (by omega)).2.1 (by rw [(hf3 1 (by omega)).1]; exact po_usF_at) (fr_tr (fr_mono (fun g hg => Or.inl hg) f01) (fr_mono (fun g hg => by unfold jnZ rPs rSc; omega) hf3)) h48 fr_rf (fun t ht => absurd ht (by omega))
end XJ6
section XJ7
variable {X : (Nat → Nat → Int32) → Prop} {vl : Nat → Nat} {z y : ow_MS} {x x' : Int32}
/-- what jones needs besides: the class's binomials, both sides' last table -/
def relJ (z y : ow_MS) : Prop := jnR z ∧ jnC y ∧ bnC y
theorem bnC_fr {P : Nat → Prop} {y1 : ow_MS} (hf : fr P y y1) (hP : ∀ m, m < 23 → ¬ P (39001 + m)) (h : bnC y) : bnC y1 := fun m i hm hi => by
  rw [(hf _ (hP m hm)).2.1]
  exact h m i hm hi
theorem c_jones (h : rel3 X z y) (hJ : relJ z y) : Te (fun K => qe_X13_jones K x x' z) (fun rr => Te (fun K => ce_X11_jones vl K 0 x x' y) (fun rc => (rel3 X rr.2 rc.2.2 ∧ ansI [(1, 1)] rr rc) ∧ relJ rr.2 rc.2.2 ∧ fr jnZ z rr.2 ∧ fr jnP y rc.2.2)) := by
  obtain ⟨⟨St, k⟩, hM, h2⟩ := id h
  obtain ⟨j1, j2, j3⟩ := hJ
  refine te_two (xq_jones k.1 k.2.2.1 k.2.2.2.2 j1) (tc_jones (x := x) (x' := x') hM j2) (fun rr rc ⟨jr, hr⟩ ⟨hG, jc, _, _, hf, hc⟩ => ?_)
  have jb : bnC rc.2.2 := bnC_fr hf (fun m hm h9 => by unfold jnP at h9; omega) j3
  have hC : relC rc.2.2 St := relC_fr hf (fun q hq h9 => by unfold cW at hq; unfold jnP at h9; omega) k.2.2.2.1
  have fin : ∀ {P : Nat → Prop}, fr P z rr.2 → (∀ g, P g → jnZ g) → gI X rr.2 → ansI [(1, 1)] rr rc → ((rel3 X rr.2 rc.2.2 ∧ ansI [(1, 1)] rr rc) ∧ relJ rr.2 rc.2.2 ∧ fr jnZ z rr.2 ∧ fr jnP y rc.2.2) := fun hz hP hI ha => ⟨⟨⟨⟨St, hI, hG.1, relR_fr hz (fun h9 => by have := hP _ h9; unfold jnZ rPs rSc at this; omega) k.2.2.1, hC, k.2.2.2.2⟩, hG, rel2_h hz hf (fun g hg h9 => by have := hP _ hg; unfold jnZ rPs rSc at this; unfold r2Z at h9; omega) (fun g hg h9 => by unfold jnP at hg; unfold r2Y at h9; omega) h2⟩, ha⟩, ⟨jr, jc, jb⟩, fr_mono hP hz, hf⟩
  have got : ∀ {d c : Nat} {A : rn_L} {sg : Nat → Bool}, d < 40 → slC y 1000 d (clC sg A) → okL A c → A ≠ [] → ∃ sg2, St d = some (A, sg2) ∧ ∀ q, q < c → sg2 q = sg q := by
    intro d c A sg hd hs hA hne
    have ok := (okL_c (sg := sg) hA).2
    have hl : 0 < (clC sg A).2.length := by
      show 0 < (ucd sg 0 [] A).length
      rw [ucd_len]
      have := List.length_pos_iff.mpr hne
      omega
    cases e : St d with
    | none =>
      have h9 := (k.2.2.2.1 d hd).1 e
      have h8 : y.2.1 1002 d = nI (clC sg A).2.length := hs.2.1
      rw [h8] at h9
      have := nI_inj9 (a := (clC sg A).2.length) (b := 0) (by have := ok.2.1; omega) (by omega) h9
      omega
    | some P =>
      obtain ⟨k1, k2, c', k3⟩ := k.2.2.2.2 d P.1 P.2 hd e
      obtain ⟨q1, q2, q3⟩ := clC_inj hA k3 (slC_uni ok (okL_c k3).2 hs ((k.2.2.2.1 d hd).2 P.1 P.2 e))
      exact ⟨P.2, by rw [q1], fun q hq => (q3 q hq).symm⟩
  rcases hr with ⟨r1, r2⟩ | ⟨e, A, sg, he, rfl, hSt, r1, r2, r3, sg9, c, r4, r5, r6⟩
  · rcases hc with ⟨-, d, A, sg, c, hd, hx, hs, hA, hne, -⟩ | ⟨c1, -⟩
    · obtain ⟨sg2, q, -⟩ := got hd hs hA hne
      rw [r2 d hd hx] at q
      cases q
    · exact fin r1.2.2 (fun g hg => Or.inl hg) r1.1 (Or.inr ⟨1, 1, by simp, r1.2.1, c1⟩)
  · rcases hc with ⟨c1, d, A', sg', c', hd, hx, hs, hA', hne', hv⟩ | ⟨-, c2⟩
    · have ed := nI_inj9 (a := e) (b := d) (by omega) (by omega) hx
      subst ed
      obtain ⟨sg2, q, q2⟩ := got he hs hA' hne'
      rw [hSt] at q
      cases q
      obtain ⟨-, u2⟩ := tk_inj A A (okL_u hA') (okL_u hA') r4
      have ec : c' = c := by
        have l1 := okF_len hA'.1
        have l2 := okF_len r5.1
        omega
      subst ec
      have hv9 : jnV rc.2.2 A sg9 c' x' rc.2.1 := ⟨jnT_sg hv.1 (fun q hq => (u2 (q, 0) ((hA'.1.2 _).mpr ⟨hq, by show 0 < 2; omega⟩)).trans (q2 q hq)), hv.2⟩
      exact fin r3 (fun g hg => hg) r1 (Or.inl ⟨r2, c1, by rw [r6, jn_same jb hv9]⟩)
    · exfalso
      obtain ⟨k1, -, c9, k3⟩ := k.2.2.2.2 e A sg he hSt
      have hs2 := (k.2.2.2.1 e he).2 A sg hSt
      have h9 := c2 e he rfl
      have ok := (okL_c (sg := sg) k3).2
      have hl : 0 < (clC sg A).2.length := by
        show 0 < (ucd sg 0 [] A).length
        rw [ucd_len]
        have := List.length_pos_iff.mpr k1
        omega
      have h8 : y.2.1 1002 e = nI (clC sg A).2.length := hs2.2.1
      rw [h8] at h9
      have := nI_inj9 (a := (clC sg A).2.length) (b := 0) (by have := ok.2.1; omega) (by omega) h9
      omega
end XJ7
end
section
/-! 99zzzzzzzzzzzy.xtb1 -/
/-! moves are taken back: two visits beside one another, out and in again -/
def flr (r r' : vT) (L : List vT) : List vT := L.filter (fun q => decide (q ≠ r) && decide (q ≠ r'))
def flA (r r' : vT) (A : rn_L) : rn_L := A.map (flr r r')
/-- one visit stands behind the other -/
def bsA (A : rn_L) (r r' : vT) : Prop := ∃ L, L ∈ A ∧ r ∈ L ∧ sc L r = r'
section XTB
variable {A Pre Post : rn_L} {p q r r' s s' : vT} {P X Y U V L : List vT} {g : vT → Nat} {S : ow_NP} {i : Nat} {b : vT → Bool}
theorem shP_rot (hn : (Pre ++ (U ++ V) :: Post).flatten.Nodup) (h : shP S g (Pre ++ (V ++ U) :: Post)) : shP S g (Pre ++ (U ++ V) :: Post) := by
  have nC : (U ++ V).Nodup := L_nd hn (by simp)
  intro L hL
  rcases List.mem_append.mp hL with h9 | h9
  · exact h L (List.mem_append_left _ h9)
  · rcases List.mem_cons.mp h9 with h9 | h9
    · rw [h9]
      intro p hp
      have hp' : p ∈ V ++ U := by
        rcases List.mem_append.mp hp with h8 | h8
        · exact List.mem_append_right _ h8
        · exact List.mem_append_left _ h8
      rw [← sc_rot nC hp]
      exact h (V ++ U) (by simp) p hp'
    · exact h L (List.mem_append_right _ (List.mem_cons_of_mem _ h9))
theorem beside (hn : L.Nodup) (hr : r ∈ L) (hne : r ≠ r') (e : sc L r = r') : (∃ X Y, L = X ++ r :: r' :: Y) ∨ ∃ Z, L = r' :: (Z ++ [r]) := by
  obtain ⟨X, Y, rfl⟩ := List.append_of_mem hr
  have h1 := nd_mid hn
  rw [sc_hd h1.1] at e
  cases Y with
  | cons q Y =>
    have e : q = r' := e
    subst e
    exact Or.inl ⟨X, Y, rfl⟩
  | nil =>
    cases X with
    | nil => exact absurd e hne
    | cons a X =>
      have e : a = r' := e
      subst e
      exact Or.inr ⟨X, rfl⟩
theorem flr_no (h1 : r ∉ L) (h2 : r' ∉ L) : flr r r' L = L := by
  refine List.filter_eq_self.mpr (fun a ha => ?_)
  rw [decide_eq_true (show a ≠ r from fun e => h1 (by rw [← e]; exact ha)), decide_eq_true (show a ≠ r' from fun e => h2 (by rw [← e]; exact ha))]
  rfl
theorem flr_app : flr r r' (U ++ V) = flr r r' U ++ flr r r' V := List.filter_append ..
theorem flr_1 : flr r r' (r :: L) = flr r r' L := by
  unfold flr
  rw [List.filter_cons_of_neg]
  simp
theorem flr_2 : flr r r' (r' :: L) = flr r r' L := by
  unfold flr
  rw [List.filter_cons_of_neg]
  simp
theorem put2 (hn1 : (Pre ++ (X ++ p :: r :: r' :: Y) :: Post).flatten.Nodup) (hg : gin g (Pre ++ (X ++ p :: r :: r' :: Y) :: Post).flatten) (h : shP S g (Pre ++ (X ++ p :: Y) :: Post)) : shP (np_putBehind (np_putBehind S (g p) (g r)) (g r) (g r')) g (Pre ++ (X ++ p :: r :: r' :: Y) :: Post) := by
  have sl : (Pre ++ (X ++ p :: r :: Y) :: Post).flatten.Sublist (Pre ++ (X ++ p :: r :: r' :: Y) :: Post).flatten := by
    rw [List.flatten_append, List.flatten_cons, List.flatten_append, List.flatten_cons]
    refine List.Sublist.append (List.Sublist.refl _) (List.Sublist.append (List.Sublist.append (List.Sublist.refl _) ?_) (List.Sublist.refl _))
    exact List.Sublist.cons₂ _ (List.Sublist.cons₂ _ (List.sublist_cons_self _ _))
  have h1 := shP_put1 (List.Sublist.nodup sl hn1) (gin_sub hg (fun a ha => sl.subset ha)) h
  have e1 : X ++ p :: r :: Y = (X ++ [p]) ++ r :: Y := by simp
  have e2 : X ++ p :: r :: r' :: Y = (X ++ [p]) ++ r :: r' :: Y := by simp
  rw [e1] at h1
  rw [e2] at hn1 hg ⊢
  exact shP_put1 hn1 hg h1
theorem putE (hn1 : (Pre ++ [r, r'] :: Post).flatten.Nodup) (hg : gin g (Pre ++ [r, r'] :: Post).flatten) (h : shP S g (Pre ++ [] :: Post)) : shP (np_putBehind (nl S (g r) (g r)) (g r) (g r')) g (Pre ++ [r, r'] :: Post) := by
  have sl : (Pre ++ [r] :: Post).flatten.Sublist (Pre ++ [r, r'] :: Post).flatten := by
    rw [List.flatten_append, List.flatten_cons, List.flatten_append, List.flatten_cons]
    refine List.Sublist.append (List.Sublist.refl _) (List.Sublist.append ?_ (List.Sublist.refl _))
    exact List.Sublist.cons₂ _ (List.sublist_cons_self _ _)
  have h1 := shP_nil (List.Sublist.nodup sl hn1) (gin_sub hg (fun a ha => sl.subset ha)) h
  exact shP_put1 (X := []) (Y := []) hn1 hg h1
/-- a pair that was taken out comes back -/
theorem rput (hn : A.flatten.Nodup) (hb : bsA A r r') (hne : r ≠ r') (hg : gin g A.flatten) : ∃ af, ((∃ p, p ∈ (flA r r' A).flatten ∧ bsA A p r ∧ af = some (g p)) ∨ af = none ∧ 0 < cirs (flA r r' A)) ∧ ∀ T : ow_NT, shP T.2.2.1 g (flA r r' A) → cirs (flA r r' A) = T.2.1 → shP (nt_pair T af (g r) (g r')).2.2.1 g A ∧ cirs A = (nt_pair T af (g r) (g r')).2.1 := by
  obtain ⟨L, hL, hr, e⟩ := hb
  have nL := L_nd hn hL
  have hr' : r' ∈ L := by rw [← e]; exact sc_in hr nL
  obtain ⟨Pre, Post, rfl⟩ := List.append_of_mem hL
  have rest : ∀ B : rn_L, (∀ K, K ∈ B → K ∈ Pre ∨ K ∈ Post) → B.map (flr r r') = B := fun B hB => (List.map_congr_left (fun K hK => flr_no (fun h9 => dj_L hn (hB K hK) h9 hr rfl) (fun h9 => dj_L hn (hB K hK) h9 hr' rfl))).trans (List.map_id _)
  have eF : flA r r' (Pre ++ L :: Post) = Pre ++ flr r r' L :: Post := by
    unfold flA
    rw [List.map_append, List.map_cons, rest Pre (fun K h => Or.inl h), rest Post (fun K h => Or.inr h)]
  rw [eF]
  have pm : ∀ {U V : List vT}, L = U ++ V → (Pre ++ (V ++ U) :: Post).flatten.Perm (Pre ++ L :: Post).flatten := by
    intro U V e9
    rw [e9, List.flatten_append, List.flatten_append, List.flatten_cons, List.flatten_cons]
    exact List.Perm.append_left _ (List.Perm.append_right _ List.perm_append_comm)
  have ne : L ≠ [] := fun h9 => by rw [h9] at hr; cases hr
  have main1 : ∀ (U V X Y : List vT) (p : vT), L = U ++ V → V ++ U = X ++ p :: r :: r' :: Y → flr r r' L = X ++ p :: Y → ∃ af, ((∃ p, p ∈ (Pre ++ flr r r' L :: Post).flatten ∧ bsA (Pre ++ L :: Post) p r ∧ af = some (g p)) ∨ af = none ∧ 0 < cirs (Pre ++ flr r r' L :: Post)) ∧ ∀ T : ow_NT, shP T.2.2.1 g (Pre ++ flr r r' L :: Post) → cirs (Pre ++ flr r r' L :: Post) = T.2.1 → shP (nt_pair T af (g r) (g r')).2.2.1 g (Pre ++ L :: Post) ∧ cirs (Pre ++ L :: Post) = (nt_pair T af (g r) (g r')).2.1 := by
    intro U V X Y p e1 e2 e3
    have q := pm e1
    have n1 := q.nodup_iff.mpr hn
    have g1 : gin g (Pre ++ (V ++ U) :: Post).flatten := gin_sub hg (fun a ha => q.mem_iff.mp ha)
    have nVU : (V ++ U).Nodup := L_nd n1 (by simp)
    rw [e2] at n1 g1
    have hp : p ∈ V ++ U := by rw [e2]; simp
    refine ⟨some (g p), Or.inl ⟨p, ?_, ⟨L, by simp, ?_, ?_⟩, rfl⟩, fun T hS hC => ⟨?_, ?_⟩⟩
    · rw [e3]
      exact List.mem_flatten.mpr ⟨X ++ p :: Y, by simp, by simp⟩
    · rw [e1]
      rcases List.mem_append.mp hp with h8 | h8
      · exact List.mem_append_right _ h8
      · exact List.mem_append_left _ h8
    · rw [e1, sc_rot nVU hp, e2]
      rw [e2] at nVU
      exact sc_mid (nd_mid nVU).1
    · rw [e3] at hS
      have hs := put2 n1 g1 hS
      rw [← e2] at hs
      have := shP_rot (S := (nt_pair T (some (g p)) (g r) (g r')).2.2.1) (by rw [← e1]; exact hn) hs
      rw [← e1] at this
      exact this
    · show _ = T.2.1
      rw [← hC, cirs_app2, cirs_app2, cirs_ne ne, cirs_ne (by rw [e3]; simp)]
  have main2 : ∀ (U V : List vT), L = U ++ V → V ++ U = [r, r'] → flr r r' L = [] → ∃ af, ((∃ p, p ∈ (Pre ++ flr r r' L :: Post).flatten ∧ bsA (Pre ++ L :: Post) p r ∧ af = some (g p)) ∨ af = none ∧ 0 < cirs (Pre ++ flr r r' L :: Post)) ∧ ∀ T : ow_NT, shP T.2.2.1 g (Pre ++ flr r r' L :: Post) → cirs (Pre ++ flr r r' L :: Post) = T.2.1 → shP (nt_pair T af (g r) (g r')).2.2.1 g (Pre ++ L :: Post) ∧ cirs (Pre ++ L :: Post) = (nt_pair T af (g r) (g r')).2.1 := by
    intro U V e1 e2 e3
    have q := pm e1
    have n1 := q.nodup_iff.mpr hn
    have g1 : gin g (Pre ++ (V ++ U) :: Post).flatten := gin_sub hg (fun a ha => q.mem_iff.mp ha)
    rw [e3]
    rw [e2] at n1 g1
    have hc1 : cirs (Pre ++ [] :: Post) = cirs (Pre ++ L :: Post) + 1 := by
      rw [cirs_app2, cirs_app2, cirs_ne ne, cirs_cons, if_pos rfl]
      omega
    refine ⟨none, Or.inr ⟨rfl, by omega⟩, fun T hS hC => ⟨?_, ?_⟩⟩
    · have hs := putE n1 g1 hS
      rw [← e2] at hs
      have := shP_rot (S := (nt_pair T none (g r) (g r')).2.2.1) (by rw [← e1]; exact hn) hs
      rw [← e1] at this
      exact this
    · show _ = T.2.1 - 1
      omega
  rcases beside nL hr hne e with ⟨X, Y, hXY⟩ | ⟨Z, hZ⟩
  · have nx : (X ++ r :: r' :: Y).Nodup := by rw [← hXY]; exact nL
    have m1 := nd_mid nx
    have m2 := nd_mid (X := X ++ [r]) (Y := Y) (p := r') (by simpa using nx)
    have eL : flr r r' L = X ++ Y := by
      rw [hXY, flr_app, flr_1, flr_2, flr_no m1.1 (fun h9 => m2.1 (List.mem_append_left _ h9)), flr_no (fun h9 => m1.2 (List.mem_cons_of_mem _ h9)) m2.2]
    rcases List.eq_nil_or_concat X with h9 | ⟨X', p, h9⟩
    · rcases List.eq_nil_or_concat Y with h8 | ⟨Y', p, h8⟩
      · rw [h9, h8] at hXY eL
        exact main2 [] [r, r'] hXY rfl eL
      · rw [h9, h8, List.concat_eq_append] at hXY eL
        exact main1 [r, r'] (Y' ++ [p]) Y' [] p hXY (by simp) eL
    · rw [h9, List.concat_eq_append] at hXY eL
      exact main1 [] L X' Y p rfl (by rw [hXY]; simp) (by rw [eL]; simp)
  · have nx : (r' :: (Z ++ [r])).Nodup := by rw [← hZ]; exact nL
    have n2 := List.nodup_cons.mp nx
    have m1 := nd_mid n2.2
    have eL : flr r r' L = Z := by
      rw [hZ, flr_2, flr_app, flr_1, flr_no m1.1 (fun h9 => n2.1 (List.mem_append_left _ h9))]
      exact List.append_nil _
    rcases List.eq_nil_or_concat Z with h9 | ⟨Z', p, h9⟩
    · rw [h9] at hZ eL
      exact main2 [r'] [r] hZ rfl eL
    · rw [h9, List.concat_eq_append] at hZ eL
      exact main1 [r'] ((Z' ++ [p]) ++ [r]) Z' [] p hZ (by simp) eL
/-! what was put in is taken out -/
theorem fl_ins (hP : ∀ q, q ∈ P → b q = false) : ∀ L : List vT, (insL p P L).filter b = L.filter b
  | [] => rfl
  | a :: L => by
    have ih := fl_ins hP L
    have e : insL p P (a :: L) = (if a = p then a :: P else [a]) ++ insL p P L := rfl
    rw [e, List.filter_append, ih]
    by_cases q : a = p
    · rw [if_pos q]
      have hN : P.filter b = [] := List.filter_eq_nil_iff.mpr (fun x hx => by rw [hP x hx]; decide)
      by_cases h9 : b a = true
      · rw [List.filter_cons_of_pos h9, List.filter_cons_of_pos h9, hN]
        rfl
      · rw [List.filter_cons_of_neg h9, List.filter_cons_of_neg h9, hN]
        rfl
    · rw [if_neg q]
      by_cases h9 : b a = true
      · rw [List.filter_cons_of_pos h9, List.filter_cons_of_pos h9]
        rfl
      · rw [List.filter_cons_of_neg h9, List.filter_cons_of_neg h9]
        rfl
theorem flA_ins (hP : ∀ q, q ∈ P → b q = false) : (insV A p P).map (List.filter b) = A.map (List.filter b) := by
  unfold insV
  rw [List.map_map]
  exact List.map_congr_left (fun L _ => fl_ins hP L)
theorem flA_set (hi : A[i]? = some []) (hP : ∀ q, q ∈ P → b q = false) : (A.set i P).map (List.filter b) = A.map (List.filter b) := by
  obtain ⟨Pre, Post, e1, e2⟩ := set_at hi
  rw [e2, e1, List.map_append, List.map_append, List.map_cons, List.map_cons]
  have hN : P.filter b = [] := List.filter_eq_nil_iff.mpr (fun x hx => by rw [hP x hx]; decide)
  rw [hN]
  rfl
theorem flA_id (h : ∀ q, q ∈ A.flatten → b q = true) : A.map (List.filter b) = A := (List.map_congr_left (fun L hL => List.filter_eq_self.mpr (fun q hq => h q (List.mem_flatten.mpr ⟨L, hL, hq⟩)))).trans (List.map_id _)
/-! who stands beside whom -/
theorem bs_ins (hn : A.flatten.Nodup) (hp : p ∈ A.flatten) (hn1 : (insV A p [s, s']).flatten.Nodup) (hb : bsA A r r') (hne : r ≠ p) : bsA (insV A p [s, s']) r r' := by
  obtain ⟨L, hL, hr, e⟩ := hb
  obtain ⟨Pre, X, Y, Post, rfl, e9⟩ := insV_at hn hp
  rw [e9] at hn1 ⊢
  rcases List.mem_append.mp hL with h9 | h9
  · exact ⟨L, List.mem_append_left _ h9, hr, e⟩
  · rcases List.mem_cons.mp h9 with h9 | h9
    · rw [h9] at hr e
      have n1 : (X ++ p :: ([s, s'] ++ Y)).Nodup := L_nd hn1 (by simp)
      have n1 : ((X ++ [p]) ++ s :: s' :: Y).Nodup := by simpa using n1
      have hs : s ∉ X ++ p :: Y ∧ s' ∉ X ++ p :: Y := by
        have m1 := nd_mid n1
        have m2 := nd_mid (X := X ++ [p] ++ [s]) (Y := Y) (p := s') (by simpa using n1)
        constructor
        · intro h8
          rcases List.mem_append.mp h8 with h7 | h7
          · exact m1.1 (List.mem_append_left _ h7)
          · rcases List.mem_cons.mp h7 with h7 | h7
            · exact m1.1 (by rw [h7]; simp)
            · exact m1.2 (List.mem_cons_of_mem _ h7)
        · intro h8
          rcases List.mem_append.mp h8 with h7 | h7
          · exact m2.1 (by simp [h7])
          · rcases List.mem_cons.mp h7 with h7 | h7
            · exact m2.1 (by simp [h7])
            · exact m2.2 h7
      have r1 : r ≠ s := fun h8 => hs.1 (by rw [← h8]; exact hr)
      have r2 : r ≠ s' := fun h8 => hs.2 (by rw [← h8]; exact hr)
      have hr2 : r ∈ X ++ p :: s :: Y := by
        rcases List.mem_append.mp hr with h7 | h7
        · exact List.mem_append_left _ h7
        · rcases List.mem_cons.mp h7 with h7 | h7
          · exact absurd h7 hne
          · exact List.mem_append_right _ (List.mem_cons_of_mem _ (List.mem_cons_of_mem _ h7))
      have hr3 : r ∈ (X ++ [p]) ++ s :: s' :: Y := by
        rcases List.mem_append.mp hr with h7 | h7
        · exact List.mem_append_left _ (List.mem_append_left _ h7)
        · rcases List.mem_cons.mp h7 with h7 | h7
          · exact absurd h7 hne
          · exact List.mem_append_right _ (List.mem_cons_of_mem _ (List.mem_cons_of_mem _ h7))
      have n2 : (X ++ p :: s :: Y).Nodup := by
        have : (X ++ p :: s :: Y).Sublist ((X ++ [p]) ++ s :: s' :: Y) := by
          rw [List.append_assoc]
          exact List.Sublist.append (List.Sublist.refl _) (List.Sublist.cons₂ _ (List.Sublist.cons₂ _ (List.sublist_cons_self _ _)))
        exact this.nodup n1
      refine ⟨X ++ p :: ([s, s'] ++ Y), by simp, by simpa using hr3, ?_⟩
      have q1 := sc_put (X := X ++ [p]) (p := s) (r := s') (Y := Y) (q := r) n1 hr3
      rw [if_neg r1, if_neg r2] at q1
      have q2 := sc_put (X := X) (p := p) (r := s) (Y := Y) (q := r) n2 hr2
      rw [if_neg hne, if_neg r1] at q2
      have e7 : (X ++ [p]) ++ s :: Y = X ++ p :: s :: Y := by simp
      have e8 : X ++ p :: ([s, s'] ++ Y) = (X ++ [p]) ++ s :: s' :: Y := by simp
      rw [e8, q1, e7, q2, e]
    · exact ⟨L, List.mem_append_right _ (List.mem_cons_of_mem _ h9), hr, e⟩
theorem bs_new {P1 P2 : List vT} (hn : A.flatten.Nodup) (hp : p ∈ A.flatten) (hn1 : (insV A p (P1 ++ s :: s' :: P2)).flatten.Nodup) : bsA (insV A p (P1 ++ s :: s' :: P2)) s s' := by
  obtain ⟨Pre, X, Y, Post, rfl, e9⟩ := insV_at hn hp
  rw [e9] at hn1 ⊢
  have n1 : (X ++ p :: (P1 ++ s :: s' :: P2 ++ Y)).Nodup := L_nd hn1 (by simp)
  have e8 : X ++ p :: (P1 ++ s :: s' :: P2 ++ Y) = (X ++ p :: P1) ++ s :: s' :: (P2 ++ Y) := by simp
  refine ⟨_, List.mem_append_right _ List.mem_cons_self, by simp, ?_⟩
  rw [e8] at n1 ⊢
  exact sc_mid (nd_mid n1).1
theorem bs_set (hi : A[i]? = some []) (hb : bsA A r r') : bsA (A.set i P) r r' := by
  obtain ⟨L, hL, hr, e⟩ := hb
  obtain ⟨Pre, Post, e1, e2⟩ := set_at hi
  rw [e2]
  rw [e1] at hL
  rcases List.mem_append.mp hL with h9 | h9
  · exact ⟨L, List.mem_append_left _ h9, hr, e⟩
  · rcases List.mem_cons.mp h9 with h9 | h9
    · rw [h9] at hr
      cases hr
    · exact ⟨L, List.mem_append_right _ (List.mem_cons_of_mem _ h9), hr, e⟩
theorem bs_setn {P1 P2 : List vT} (hi : A[i]? = some []) (hn : (P1 ++ s :: s' :: P2).Nodup) : bsA (A.set i (P1 ++ s :: s' :: P2)) s s' := by
  obtain ⟨Pre, Post, e1, e2⟩ := set_at hi
  rw [e2]
  exact ⟨_, List.mem_append_right _ List.mem_cons_self, by simp, sc_mid (nd_mid hn).1⟩
end XTB
end
section
/-! 99zzzzzzzzzzzz.xtb2 -/
/-! moves are taken back: kinds 0 and 1 -/
/-- a move of the kind leads from the net back to the list -/
def tBk (kd : Nat) (A : rn_L) (sg : Nat → Bool) (R : ow_NT) : Prop := ∃ j, j < mv_cnt R.1 kd ∧ ∀ (F P : Nat → Int32) (Q : ow_NT), mv_mk kd R F P → ow_b24 Q.2.2.1 → mv_B kd j Q R F P = true ∧ ∃ f, isoV A sg f (mv_T kd j Q R F P)
section XTB2
variable {A A' : rn_L} {sg sg' : Nat → Bool} {R RB Q : ow_NT} {f : Nat → Nat} {c g : Nat} {r r' : vT} {P : List vT}
theorem bs_nx (h : isoV A sg f R) (hb : bsA A r r') : R.2.2.1.1 (gl f r) = gl f r' := by
  obtain ⟨L, hL, hr, e⟩ := hb
  rw [(h.2 L hL r hr).1, e]
theorem bs_mem (hn : A.flatten.Nodup) (hb : bsA A r r') : r ∈ A.flatten ∧ r' ∈ A.flatten := by
  obtain ⟨L, hL, hr, e⟩ := hb
  refine ⟨List.mem_flatten.mpr ⟨L, hL, hr⟩, List.mem_flatten.mpr ⟨L, hL, ?_⟩⟩
  rw [← e]
  exact sc_in hr (L_nd hn hL)
theorem bs_v (hn : A.flatten.Nodup) {v : Nat} (hv : v < A.flatten.length) : bsA A (vAt A v) (vAt A (rn_nx A v)) := by
  obtain ⟨L, h1, h2, h3⟩ := nx_sc A hn v hv
  exact ⟨L, h1, h2, h3.symm⟩
theorem bld1 (hn : A.flatten.Nodup) (hg : isG A g) : (∃ p, p ∈ A.flatten ∧ bldA A (insG g 1000 P []) = insV A p P) ∨ ∃ i : Nat, A[i]? = some [] ∧ bldA A (insG g 1000 P []) = A.set i P := by
  rw [insG_1]
  rcases isG_c hg with h | ⟨i, rfl, hi⟩
  · exact Or.inl ⟨vAt A g, vAt_mem h, by rw [b_V2 hn h, List.append_nil]⟩
  · exact Or.inr ⟨i, hi, by rw [b_E2 hi, List.append_nil]⟩
/-- what kind 1 makes, kind 0 takes back -/
theorem tb_10 (hok : okF A.flatten c) (hO : OM A sg c 1 A' sg') (hV : isoV A' sg' f RB) : tBk 0 A sg RB := by
  obtain ⟨hc, g, k, hg, hk, e1, e2⟩ := hO
  have hn := hok.1
  have nB := hV.1.1.1
  have hu : ∀ p, p ∈ A'.flatten → p.2 < 2 := fun p hp => (hV.1.1.2 p hp).2.1
  have k2 : k % 2 < 2 := by omega
  have nP : (([] : List vT) ++ ((c, k % 2) : vT) :: (c, 1 - k % 2) :: []).Nodup := by
    refine List.nodup_cons.mpr ⟨fun h => ?_, List.nodup_cons.mpr ⟨List.not_mem_nil, List.nodup_nil⟩⟩
    have := congrArg Prod.snd (List.mem_singleton.mp h)
    have this : k % 2 = 1 - k % 2 := this
    omega
  have hfalse : ∀ q, q ∈ [((c, k % 2) : vT), (c, 1 - k % 2)] → (decide (q.1 ≠ c) && decide (q.1 ≠ c)) = false := by
    intro q hq
    have : q.1 = c := by
      rcases List.mem_cons.mp hq with h | h
      · rw [h]
      · rw [List.mem_singleton.mp h]
    rw [decide_eq_false (fun h => h this)]
    rfl
  have hid : A.map (List.filter (fun q : vT => decide (q.1 ≠ c) && decide (q.1 ≠ c))) = A := flA_id (fun q hq => by
    have := ((hok.2 q).mp hq).1
    rw [decide_eq_true (show q.1 ≠ c by omega)]
    rfl)
  have key : bsA A' (c, k % 2) (c, 1 - k % 2) ∧ woA c c A' = A := by
    rcases bld1 (P := [(c, k % 2), (c, 1 - k % 2)]) hn hg with ⟨p, hp, e9⟩ | ⟨i, hi, e9⟩
    · rw [e9] at e1
      rw [e1] at nB ⊢
      exact ⟨bs_new (P1 := []) (P2 := []) hn hp nB, (flA_ins hfalse).trans hid⟩
    · rw [e9] at e1
      rw [e1]
      exact ⟨bs_setn (P1 := []) (P2 := []) hi nP, (flA_set hi hfalse).trans hid⟩
  obtain ⟨kb, kw⟩ := key
  obtain ⟨m1, m2⟩ := bs_mem nB kb
  have m0 : ((c, 0) : vT) ∈ A'.flatten := by
    rcases (show k % 2 = 0 ∨ k % 2 = 1 by omega) with e | e
    · rw [e] at m1
      exact m1
    · rw [e] at m2
      exact m2
  have nx := bs_nx hV kb
  have hx : f c < RB.1 := hV.1.2.2.2.1 _ m0
  have nx : RB.2.2.1.1 (2 * f c + k % 2) = 2 * f c + (1 - k % 2) := nx
  have hB : mv_bs RB.2.2.1.1 (2 * f c) (2 * f c + 1) = true := by
    unfold mv_bs
    rw [Bool.or_eq_true, decide_eq_true_iff, decide_eq_true_iff]
    rcases (show k % 2 = 0 ∨ k % 2 = 1 by omega) with e | e <;> rw [e] at nx
    · exact Or.inl nx
    · exact Or.inr nx
  refine ⟨f c, hx, fun F P Q hmk hQ => ⟨hB, ?_⟩⟩
  obtain ⟨f', j1, -⟩ := iso_rm (isoV_cpy (Q := Q) hV) m0
  refine ⟨f', ?_⟩
  show isoV A sg f' (mv_t0 Q RB (f c))
  unfold mv_t0
  rw [if_pos hB]
  have ew : wox A' c = A := by
    rw [← kw, woA_wox hu c, wox_no (fun p hp => ((wox_mem hu).mp hp).2)]
  rw [ew] at j1
  refine isoV_sg j1 (fun p hp => ?_)
  have := ((hok.2 p).mp hp).1
  rw [e2]
  exact (if_neg (by omega)).symm
theorem flA_woA {x u : Nat} (hu2 : u < 2) (hu : ∀ p, p ∈ A.flatten → p.2 < 2) : flA (x, u) (x, 1 - u) A = woA x x A := by
  unfold flA woA
  refine List.map_congr_left (fun L hL => List.filter_congr (fun p hp => ?_))
  have h2 := hu p (List.mem_flatten.mpr ⟨L, hL, hp⟩)
  rw [Bool.eq_iff_iff]
  simp only [Bool.and_eq_true, decide_eq_true_iff]
  constructor
  · rintro ⟨g1, g2⟩
    have : p.1 ≠ x := fun e => by
      rcases (show p.2 = u ∨ p.2 = 1 - u by omega) with e2 | e2
      · exact g1 (Prod.ext e e2)
      · exact g2 (Prod.ext e e2)
    exact ⟨this, this⟩
  · rintro ⟨g1, -⟩
    exact ⟨fun e => g1 (by rw [e]), fun e => g1 (by rw [e])⟩
/-- what kind 0 takes away, kind 1 puts back -/
theorem tb_01 (hR : isoV A sg idN R) (hO : OM A sg R.1 0 A' sg') (hV : isoV A' sg' f RB) : tBk 1 A sg RB := by
  obtain ⟨rfl, v, hv, e, e1⟩ := hO
  have hok := isoV_ok hR
  have hn := hok.1
  have hc0 := hR.1.2.2.1
  have hu : ∀ p, p ∈ A.flatten → p.2 < 2 := fun p hp => ((hok.2 p).mp hp).2
  have hb := bs_v hn hv
  rw [e, vAt_mtf hR.1.1 hv] at hb
  obtain ⟨x, hx⟩ : ∃ x, x = (vAt A v).1 := ⟨_, rfl⟩
  obtain ⟨u, hu9⟩ : ∃ u, u = (vAt A v).2 := ⟨_, rfl⟩
  have ev : vAt A v = (x, u) := by rw [hx, hu9]
  rw [ev] at hb
  have hb : bsA A (x, u) (x, 1 - u) := hb
  have hxu := (hok.2 _).mp (vAt_mem hv)
  rw [ev] at hxu
  have hxc : x < R.1 := hxu.1
  have hu2 : u < 2 := hxu.2
  have ecx : crs A v = x := hx.symm
  rw [ecx] at e1
  have eF := flA_woA (A := A) (x := x) hu2 hu
  have m0 : ((x, 0) : vT) ∈ A.flatten := (hok.2 _).mpr ⟨hxc, by show 0 < 2; omega⟩
  -- how many crossings are left
  have hlen : RB.1 + 1 = R.1 := by
    obtain ⟨f', j1, -⟩ := iso_rm hR m0
    have ew : wox A x = A' := by
      rw [e1, woA_wox hu x, wox_no (fun p hp => ((wox_mem hu).mp hp).2)]
    rw [ew] at j1
    have l1 := j1.1.2.1
    have l2 := hV.1.2.1
    have l1 : A'.flatten.length = 2 * (R.1 - 1) := l1
    omega
  have memA : ∀ {p : vT}, p ∈ A.flatten → p.1 ≠ x → p ∈ A'.flatten := fun {p} hp hne => by
    rw [e1, woA_fl, List.mem_filter]
    refine ⟨hp, ?_⟩
    rw [decide_eq_true hne]
    rfl
  have memB : ∀ {p : vT}, p ∈ A'.flatten → p.1 ≠ x := fun {p} hp => by
    rw [e1, woA_fl, List.mem_filter] at hp
    exact of_decide_eq_true (Bool.and_eq_true_iff.mp hp.2).1
  obtain ⟨f1, hf1⟩ : ∃ f1 : Nat → Nat, f1 = fun y => if y = x then RB.1 else f y := ⟨_, rfl⟩
  have f1x : f1 x = RB.1 := by rw [hf1]; exact if_pos rfl
  have f1n : ∀ {y : Nat}, y ≠ x → f1 y = f y := fun h => by rw [hf1]; exact if_neg h
  have flt : ∀ {y : Nat}, y < R.1 → y ≠ x → f y < RB.1 := fun {y} h1 h2 => hV.1.2.2.2.1 (y, 0) (memA ((hok.2 _).mpr ⟨h1, by show 0 < 2; omega⟩) h2)
  have finj : ∀ y z, y < RB.1 + 1 → z < RB.1 + 1 → f1 y = f1 z → y = z := by
    intro y z hy hz h9
    by_cases ey : y = x
    · by_cases ez : z = x
      · rw [ey, ez]
      · rw [ey, f1x, f1n ez] at h9
        have := flt (y := z) (by omega) ez
        omega
    · by_cases ez : z = x
      · rw [ez, f1x, f1n ey] at h9
        have := flt (y := y) (by omega) ey
        omega
      · rw [f1n ey, f1n ez] at h9
        exact hV.1.2.2.2.2.1 (y, 0) (z, 0) (memA ((hok.2 _).mpr ⟨by show y < R.1; omega, by show 0 < 2; omega⟩) ey) (memA ((hok.2 _).mpr ⟨by show z < R.1; omega, by show 0 < 2; omega⟩) ez) h9
  have hgin : gin (gl f1) A.flatten := by
    intro p q hp hq e9
    have h1 := (hok.2 p).mp hp
    have h2 := (hok.2 q).mp hq
    have e9 : 2 * f1 p.1 + p.2 = 2 * f1 q.1 + q.2 := e9
    exact Prod.ext (finj _ _ (by omega) (by omega) (by omega)) (by omega)
  have hne : ((x, u) : vT) ≠ (x, 1 - u) := fun h9 => by
    have := congrArg Prod.snd h9
    have this : u = 1 - u := this
    omega
  obtain ⟨ch, hch⟩ : ∃ ch : Nat, ch = u + 2 * (if sg' x then 1 else 0) := ⟨_, rfl⟩
  have ch4 : ch < 4 := by rw [hch]; split <;> omega
  have ch2 : ch % 2 = u := by rw [hch]; omega
  have chs : mv_sg ch < 0 ↔ sg' x = true := by
    rw [hch]
    unfold mv_sg
    rcases (show u = 0 ∨ u = 1 by omega) with e | e <;> rw [e] <;> cases sg' x <;> decide
  have hS0 : ∀ Q : ow_NT, shP (nt_add (nt_copy Q RB) (mv_sg ch)).2.2.1 (gl f1) (flA (x, u) (x, 1 - u) A) := fun Q => by
    rw [eF, ← e1]
    exact shP_gcg hV.1.1.1 (fun p hp => by
      show 2 * f1 p.1 + p.2 = 2 * f p.1 + p.2
      rw [f1n (memB hp)]) (isoV_cpy (Q := Q) hV).2
  have hC0 : cirs (flA (x, u) (x, 1 - u) A) = RB.2.1 := by
    rw [eF, ← e1]
    exact hV.1.2.2.2.2.2.2.2
  have gr : gl f1 (x, u) = 2 * RB.1 + ch % 2 := by
    show 2 * f1 x + u = _
    rw [f1x, ch2]
  have gr' : gl f1 (x, 1 - u) = mt (2 * RB.1 + ch % 2) := by
    show 2 * f1 x + (1 - u) = _
    rw [f1x, ch2]
    unfold mt
    rcases (show u = 0 ∨ u = 1 by omega) with e | e <;> rw [e]
    · rw [if_pos (by omega)]
    · rw [if_neg (by omega)]
      omega
  obtain ⟨af, haf, hput⟩ := rput (g := gl f1) hn hb hne hgin
  have fin : ∀ (Q : ow_NT) (af' : Option Nat) (gap : Nat), mv_af RB gap = af' → mv_b1 RB gap = true → shP (nt_pair (nt_add (nt_copy Q RB) (mv_sg ch)) af' (gl f1 (x, u)) (gl f1 (x, 1 - u))).2.2.1 (gl f1) A → cirs A = (nt_pair (nt_add (nt_copy Q RB) (mv_sg ch)) af' (gl f1 (x, u)) (gl f1 (x, 1 - u))).2.1 → isoV A sg' f1 (mv_t1 Q RB gap ch) := by
    intro Q af' gap g1 g2 g3 g4
    unfold mv_t1
    rw [if_pos g2, g1, ← gr', ← gr]
    have hT1 : (nt_pair (nt_add (nt_copy Q RB) (mv_sg ch)) af' (gl f1 (x, u)) (gl f1 (x, 1 - u))).1 = RB.1 + 1 := by
      cases af' <;> rfl
    have hTG : (nt_pair (nt_add (nt_copy Q RB) (mv_sg ch)) af' (gl f1 (x, u)) (gl f1 (x, 1 - u))).2.2.2 = su (nt_copy Q RB).2.2.2 RB.1 (mv_sg ch) := by
      cases af' <;> rfl
    refine iso_mk (c := RB.1 + 1) (by rw [hlen]; exact hok) (by omega) hT1 (fun y hy => ?_) finj g3 (fun y hy => ?_) g4
    · by_cases ey : y = x
      · rw [ey, f1x]
        omega
      · rw [f1n ey]
        have := flt (y := y) (by omega) ey
        omega
    · rw [hTG, su_at]
      by_cases ey : y = x
      · rw [ey, f1x, if_pos rfl]
        exact chs
      · have := flt (y := y) (by omega) ey
        rw [f1n ey, if_neg (by omega)]
        exact (isoV_cpy (Q := Q) hV).1.2.2.2.2.2.2.1 (y, 0) (memA ((hok.2 _).mpr ⟨by show y < R.1; omega, by show 0 < 2; omega⟩) ey)
  obtain ⟨gap, g1, g2, g3⟩ : ∃ gap, gap < 2 * RB.1 + 1 ∧ mv_af RB gap = af ∧ mv_b1 RB gap = true := by
    rcases haf with ⟨p, hp, -, e9⟩ | ⟨e9, h9⟩
    · rw [eF, ← e1] at hp
      have hl : gl f1 p < 2 * RB.1 := by
        show 2 * f1 p.1 + p.2 < _
        rw [f1n (memB hp)]
        have h1 := hV.1.2.2.2.1 p hp
        have h2 := (hV.1.1.2 p hp).2.1
        omega
      refine ⟨gl f1 p, by omega, ?_, ?_⟩
      · unfold mv_af
        rw [if_neg (by omega), e9]
      · unfold mv_b1
        rw [decide_eq_false (show ¬ gl f1 p = 2 * RB.1 by omega)]
        rfl
    · refine ⟨2 * RB.1, by omega, ?_, ?_⟩
      · unfold mv_af
        rw [if_pos rfl, e9]
      · unfold mv_b1
        rw [decide_eq_false (show ¬ RB.2.1 = 0 by omega), Bool.and_false]
        rfl
  have hcn : mv_cnt RB.1 1 = (2 * RB.1 + 1) * 4 := if_pos (by omega)
  refine ⟨gap * 4 + ch, by rw [hcn]; omega, fun F P Q hmk hQ => ?_⟩
  show mv_b1 RB ((gap * 4 + ch) / 4) = true ∧ ∃ f, isoV A sg' f (mv_t1 Q RB ((gap * 4 + ch) / 4) ((gap * 4 + ch) % 4))
  rw [show (gap * 4 + ch) / 4 = gap by omega, show (gap * 4 + ch) % 4 = ch by omega]
  obtain ⟨s1, s2⟩ := hput (nt_add (nt_copy Q RB) (mv_sg ch)) (hS0 Q) hC0
  exact ⟨g3, f1, fin Q af gap g2 g3 s1 s2⟩
end XTB2
end
section
/-! 99zzzzzzzzzzzza.xtb3 -/
/-! moves are taken back: kinds 2 and 3 -/
section XTB3
variable {A A' : rn_L} {sg sg' : Nat → Bool} {R RB Q : ow_NT} {f : Nat → Nat} {c g h : Nat} {r r' s s' p q q' : vT} {b : vT → Bool}
theorem bld2 (hn : A.flatten.Nodup) (hg : isG A g) (hh : isG A h) (nB : (bldA A (insG g h [r, r'] [s, s'])).flatten.Nodup) (hr : r ∉ A.flatten) (hr' : r' ∉ A.flatten) (nP : [r, r', s, s'].Nodup) (hb : ∀ q, q ∈ [r, r', s, s'] → b q = false) : bsA (bldA A (insG g h [r, r'] [s, s'])) r r' ∧ bsA (bldA A (insG g h [r, r'] [s, s'])) s s' ∧ (bldA A (insG g h [r, r'] [s, s'])).map (List.filter b) = A.map (List.filter b) := by
  have hb1 : ∀ q, q ∈ [r, r'] → b q = false := fun q hq => hb q (by
    rcases List.mem_cons.mp hq with e | e
    · simp [e]
    · simp [List.mem_singleton.mp e])
  have hb2 : ∀ q, q ∈ [s, s'] → b q = false := fun q hq => hb q (by
    rcases List.mem_cons.mp hq with e | e
    · simp [e]
    · simp [List.mem_singleton.mp e])
  have nr : r ≠ r' := fun e => (List.nodup_cons.mp nP).1 (by rw [e]; simp)
  have n2 : ([] ++ r :: r' :: ([] : List vT)).Nodup := List.Sublist.nodup (show [r, r'].Sublist [r, r', s, s'] from List.Sublist.cons₂ _ (List.Sublist.cons₂ _ (List.nil_sublist _))) nP
  have n3 : ([] ++ s :: s' :: ([] : List vT)).Nodup := List.Sublist.nodup (show [s, s'].Sublist [r, r', s, s'] from List.Sublist.cons _ (List.Sublist.cons _ (List.Sublist.refl _))) nP
  have nA : (A.flatten ++ [r, r']).Nodup := List.nodup_append.mpr ⟨hn, n2, fun a ha b hb e => by
    subst e
    rcases List.mem_cons.mp hb with e | e
    · exact hr (by rw [← e]; exact ha)
    · exact hr' (by rw [← List.mem_singleton.mp e]; exact ha)⟩
  have nv9 : ∀ {v : Nat}, v < A.flatten.length → vAt A v ∉ [r, r'] := fun {v} hv h9 => by
    rcases List.mem_cons.mp h9 with e | e
    · exact hr (by rw [← e]; exact vAt_mem hv)
    · exact hr' (by rw [← List.mem_singleton.mp e]; exact vAt_mem hv)
  rcases isG_c hg with g1 | ⟨i, g1, hi⟩
  · have m1 := vAt_mem g1
    have n1 : (insV A (vAt A g) [r, r']).flatten.Nodup := (insV_pm hn m1).nodup_iff.mpr nA
    rcases isG_c hh with h1 | ⟨j, h1, hj⟩
    · by_cases e : g = h
      · subst e
        rw [b_V2 hn g1] at nB ⊢
        exact ⟨bs_new (P1 := []) (P2 := [s, s']) hn m1 nB, bs_new (P1 := [r, r']) (P2 := []) hn m1 nB, flA_ins (fun q hq => by
          rcases List.mem_append.mp hq with h9 | h9
          · exact hb1 q h9
          · exact hb2 q h9)⟩
      · rw [b_VV hn g1 h1 e (nv9 h1)] at nB ⊢
        have m2 : vAt A h ∈ (insV A (vAt A g) [r, r']).flatten := (insV_pm hn m1).mem_iff.mpr (List.mem_append_left _ (vAt_mem h1))
        exact ⟨bs_ins n1 m2 nB (bs_new (P1 := []) (P2 := []) hn m1 n1) (fun e9 => hr (by rw [e9]; exact vAt_mem h1)), bs_new (P1 := []) (P2 := []) n1 m2 nB, (flA_ins hb2).trans (flA_ins hb1)⟩
    · subst h1
      rw [b_VE hn g1 hj] at nB ⊢
      have hj2 : (insV A (vAt A g) [r, r'])[j]? = some [] := by
        rw [insV_g, hj]
        rfl
      exact ⟨bs_set hj2 (bs_new (P1 := []) (P2 := []) hn m1 n1), bs_setn (P1 := []) (P2 := []) hj2 n3, (flA_set hj2 hb2).trans (flA_ins hb1)⟩
  · subst g1
    have n1 : (A.set i [r, r']).flatten.Nodup := (setE_pm hi).nodup_iff.mpr nA
    rcases isG_c hh with h1 | ⟨j, h1, hj⟩
    · rw [b_EV hn h1 hi (nv9 h1)] at nB ⊢
      have m2 : vAt A h ∈ (A.set i [r, r']).flatten := (setE_pm hi).mem_iff.mpr (List.mem_append_left _ (vAt_mem h1))
      exact ⟨bs_ins n1 m2 nB (bs_setn (P1 := []) (P2 := []) hi n2) (fun e9 => hr (by rw [e9]; exact vAt_mem h1)), bs_new (P1 := []) (P2 := []) n1 m2 nB, (flA_ins hb2).trans (flA_set hi hb1)⟩
    · by_cases e : i = j
      · subst e
        subst h1
        rw [b_E2 hi] at nB ⊢
        exact ⟨bs_setn (P1 := []) (P2 := [s, s']) hi nP, bs_setn (P1 := [r, r']) (P2 := []) hi nP, flA_set hi (fun q hq => by
          rcases List.mem_append.mp hq with h9 | h9
          · exact hb1 q h9
          · exact hb2 q h9)⟩
      · subst h1
        rw [b_EE hi hj e] at nB ⊢
        have hj2 : (A.set i [r, r'])[j]? = some [] := by
          rw [set_g (i_lt hi), if_neg e]
          exact hj
        exact ⟨bs_set hj2 (bs_setn (P1 := []) (P2 := []) hi n2), bs_setn (P1 := []) (P2 := []) hj2 n3, (flA_set hj2 hb2).trans (flA_set hi hb1)⟩
theorem mv_bs_sy {N : Nat → Nat} {v w : Nat} : mv_bs N v w = mv_bs N w v := Bool.or_comm _ _
theorem mv_bs_of {N : Nat → Nat} {v w : Nat} (h : N v = w) : mv_bs N v w = true := by
  unfold mv_bs
  rw [decide_eq_true h]
  rfl
/-- what kind 3 makes, kind 2 takes back -/
theorem tb_32 (hok : okF A.flatten c) (hO : OM A sg c 3 A' sg') (hV : isoV A' sg' f RB) (hp : pm1 RB) : tBk 2 A sg RB := by
  obtain ⟨hc, g, h, k, hg, hh, hk, e1, e2, -⟩ := hO
  have hk8 : k < 8 := by omega
  have hn := hok.1
  have nB := hV.1.1.1
  have hu : ∀ p, p ∈ A'.flatten → p.2 < 2 := fun p hp => (hV.1.1.2 p hp).2.1
  obtain ⟨l, hl⟩ : ∃ l, l = k / 4 := ⟨_, rfl⟩
  have hl2 : l < 2 := by omega
  obtain ⟨a1, ha1⟩ : ∃ a1, a1 = if l = 0 then c + k % 2 else c + k / 2 % 2 := ⟨_, rfl⟩
  obtain ⟨b1, hb1⟩ : ∃ b1, b1 = if l = 0 then c + k / 2 % 2 else c + k % 2 := ⟨_, rfl⟩
  have ea : a1 = c ∨ a1 = c + 1 := by rw [ha1]; split <;> omega
  have eb : b1 = c ∨ b1 = c + 1 := by rw [hb1]; split <;> omega
  have eP : t3P c k = [(a1, l), (2 * c + 1 - a1, l)] := by
    unfold t3P
    rw [← hl, ha1]
    by_cases e : l = 0
    · rw [if_pos e, if_pos e]
    · rw [if_neg e, if_neg e]
  have eQ : t3Q c k = [(b1, 1 - l), (2 * c + 1 - b1, 1 - l)] := by
    unfold t3Q
    rw [← hl, hb1]
    by_cases e : l = 0
    · rw [if_pos e, if_pos e]
    · rw [if_neg e, if_neg e]
  have no : ∀ {x u : Nat}, c ≤ x → ((x, u) : vT) ∉ A.flatten := fun {x u} hx h9 => by
    have := ((hok.2 _).mp h9).1
    have this : x < c := this
    omega
  have eB : A' = bldA A (insG g h [(a1, l), (2 * c + 1 - a1, l)] [(b1, 1 - l), (2 * c + 1 - b1, 1 - l)]) := by
    rw [e1, ← eP, ← eQ]
    rfl
  have nP : [((a1, l) : vT), (2 * c + 1 - a1, l), (b1, 1 - l), (2 * c + 1 - b1, 1 - l)].Nodup := by
    have key : ∀ {x y u w : Nat}, (x ≠ y ∨ u ≠ w) → ((x, u) : vT) ≠ (y, w) := fun h9 e9 => by
      rcases h9 with h9 | h9
      · exact h9 (congrArg Prod.fst e9)
      · exact h9 (congrArg Prod.snd e9)
    simp only [List.nodup_cons, List.mem_cons, List.not_mem_nil, or_false, not_or, not_false_iff, List.nodup_nil, and_true]
    exact ⟨⟨key (Or.inl (by omega)), key (Or.inr (by omega)), key (Or.inr (by omega))⟩, ⟨key (Or.inr (by omega)), key (Or.inr (by omega))⟩, key (Or.inl (by omega))⟩
  have key := bld2 (A := A) (g := g) (h := h) (r := (a1, l)) (r' := (2 * c + 1 - a1, l)) (s := (b1, 1 - l)) (s' := (2 * c + 1 - b1, 1 - l)) (b := fun q => decide (q.1 ≠ c) && decide (q.1 ≠ c + 1)) hn hg hh (by rw [← eB]; exact nB) (no (by omega)) (no (by omega)) nP (fun q hq => by
    have : q.1 = c ∨ q.1 = c + 1 := by
      simp only [List.mem_cons, List.not_mem_nil, or_false] at hq
      rcases hq with e | e | e | e <;> rw [e] <;> show _ = c ∨ _ = c + 1 <;> omega
    rcases this with e | e
    · rw [decide_eq_false (fun h9 => h9 e)]
      rfl
    · rw [decide_eq_false (show ¬ q.1 ≠ c + 1 from fun h9 => h9 e), Bool.and_false])
  rw [← eB] at key
  obtain ⟨k1, k2, k3⟩ := key
  have kw : woA c (c + 1) A' = A := k3.trans (flA_id (fun q hq => by
    have := ((hok.2 q).mp hq).1
    rw [decide_eq_true (show q.1 ≠ c by omega), decide_eq_true (show q.1 ≠ c + 1 by omega)]
    rfl))
  have n1 := bs_nx hV k1
  have n2 := bs_nx hV k2
  have n1 : RB.2.2.1.1 (2 * f a1 + l) = 2 * f (2 * c + 1 - a1) + l := n1
  have n2 : RB.2.2.1.1 (2 * f b1 + (1 - l)) = 2 * f (2 * c + 1 - b1) + (1 - l) := n2
  have bsl : mv_bs RB.2.2.1.1 (2 * f c + l) (2 * f (c + 1) + l) = true := by
    rcases ea with e | e
    · rw [e, show 2 * c + 1 - c = c + 1 by omega] at n1
      exact mv_bs_of n1
    · rw [e, show 2 * c + 1 - (c + 1) = c by omega] at n1
      rw [mv_bs_sy]
      exact mv_bs_of n1
  have bsm : mv_bs RB.2.2.1.1 (2 * f c + (1 - l)) (2 * f (c + 1) + (1 - l)) = true := by
    rcases eb with e | e
    · rw [e, show 2 * c + 1 - c = c + 1 by omega] at n2
      exact mv_bs_of n2
    · rw [e, show 2 * c + 1 - (c + 1) = c by omega] at n2
      rw [mv_bs_sy]
      exact mv_bs_of n2
  have bs01 : mv_bs RB.2.2.1.1 (2 * f c) (2 * f (c + 1)) = true ∧ mv_bs RB.2.2.1.1 (2 * f c + 1) (2 * f (c + 1) + 1) = true := by
    rcases (show l = 0 ∨ l = 1 by omega) with e | e <;> rw [e] at bsl bsm
    · exact ⟨bsl, bsm⟩
    · exact ⟨bsm, bsl⟩
  obtain ⟨w1, w2⟩ := bs_mem nB k1
  obtain ⟨w3, w4⟩ := bs_mem nB k2
  have mem0 : ∀ x, x = c ∨ x = c + 1 → ((x, 0) : vT) ∈ A'.flatten := by
    intro x hx
    rcases (show l = 0 ∨ l = 1 by omega) with e | e
    · rw [e] at w1 w2
      by_cases e9 : x = a1
      · rw [e9]; exact w1
      · rw [show x = 2 * c + 1 - a1 by omega]; exact w2
    · rw [e] at w3 w4
      by_cases e9 : x = b1
      · rw [e9]; exact w3
      · rw [show x = 2 * c + 1 - b1 by omega]; exact w4
  have mc := mem0 c (Or.inl rfl)
  have md := mem0 (c + 1) (Or.inr rfl)
  have lc : f c < RB.1 := hV.1.2.2.2.1 _ mc
  have ld : f (c + 1) < RB.1 := hV.1.2.2.2.1 _ md
  have nfd : f c ≠ f (c + 1) := fun e9 => by
    have := hV.1.2.2.2.2.1 _ _ mc md e9
    have this : c = c + 1 := this
    omega
  have sgn : RB.2.2.2 (f c) ≠ RB.2.2.2 (f (c + 1)) := by
    have q1 := iso_sg1 hV hp mc
    have q2 := iso_sg1 hV hp md
    have q1 : RB.2.2.2 (f c) = if sg' c then -1 else 1 := q1
    have q2 : RB.2.2.2 (f (c + 1)) = if sg' (c + 1) then -1 else 1 := q2
    have t1 : sg' c = false := by rw [e2]; exact if_pos rfl
    have t2 : sg' (c + 1) = true := by
      rw [e2]
      unfold t3S
      rw [if_neg (by omega), if_pos rfl]
    rw [q1, q2, t1, t2]
    decide
  have two : ∀ (x0 y0 : Nat), (x0 = c ∧ y0 = c + 1 ∨ x0 = c + 1 ∧ y0 = c) → f y0 < f x0 → tBk 2 A sg RB := by
    intro x0 y0 hxy hlt
    have hx9 : f x0 < RB.1 := by rcases hxy with ⟨e, -⟩ | ⟨e, -⟩ <;> rw [e] <;> assumption
    have hB : mv_b2 RB (f x0) (f y0) = true := by
      unfold mv_b2 mv_pair
      rw [decide_eq_true hlt]
      rcases hxy with ⟨e, e'⟩ | ⟨e, e'⟩ <;> rw [e, e']
      · rw [bs01.1, bs01.2, decide_eq_true sgn]
        rfl
      · rw [mv_bs_sy, bs01.1, mv_bs_sy, bs01.2, decide_eq_true sgn.symm]
        rfl
    have hj : f x0 * RB.1 + f y0 < RB.1 * RB.1 := by
      have := Nat.mul_le_mul_right RB.1 (show f x0 + 1 ≤ RB.1 from hx9)
      have e9 : (f x0 + 1) * RB.1 = f x0 * RB.1 + RB.1 := Nat.succ_mul _ _
      omega
    have d1 : (f x0 * RB.1 + f y0) / RB.1 = f x0 := by
      rw [Nat.mul_comm, Nat.mul_add_div (by omega), Nat.div_eq_of_lt (by omega), Nat.add_zero]
    have d2 : (f x0 * RB.1 + f y0) % RB.1 = f y0 := by
      rw [Nat.mul_comm, Nat.mul_add_mod, Nat.mod_eq_of_lt (by omega)]
    refine ⟨f x0 * RB.1 + f y0, hj, fun F P Q hmk hQ => ?_⟩
    show mv_b2 RB ((f x0 * RB.1 + f y0) / RB.1) ((f x0 * RB.1 + f y0) % RB.1) = true ∧ ∃ f1, isoV A sg f1 (mv_t2 Q RB ((f x0 * RB.1 + f y0) / RB.1) ((f x0 * RB.1 + f y0) % RB.1))
    rw [d1, d2]
    refine ⟨hB, ?_⟩
    unfold mv_t2
    rw [if_pos hB]
    have mx : ((x0, 0) : vT) ∈ A'.flatten := mem0 x0 (by omega)
    have my : ((y0, 0) : vT) ∈ A'.flatten := mem0 y0 (by omega)
    obtain ⟨f', j1, j2⟩ := iso_rm (isoV_cpy (Q := Q) hV) mx
    have j3 := j2 y0
    have j3 : f' y0 = if f y0 = RB.1 - 1 then f x0 else f y0 := j3
    rw [if_neg (by omega)] at j3
    obtain ⟨f2, i1, -⟩ := iso_rm j1 (x0 := y0) ((wox_mem hu).mpr ⟨my, show y0 ≠ x0 by omega⟩)
    rw [j3, ← woA_wox hu y0] at i1
    have ew : woA x0 y0 A' = A := by
      rcases hxy with ⟨e, e'⟩ | ⟨e, e'⟩ <;> rw [e, e']
      · exact kw
      · rw [woA_sy]
        exact kw
    rw [ew] at i1
    refine ⟨f2, isoV_sg i1 (fun p hp => ?_)⟩
    have := ((hok.2 p).mp hp).1
    rw [e2]
    unfold t3S
    rw [if_neg (by omega), if_neg (by omega)]
  rcases Nat.lt_trichotomy (f c) (f (c + 1)) with q | q | q
  · exact two (c + 1) c (Or.inr ⟨rfl, rfl⟩) q
  · exact absurd q nfd
  · exact two c (c + 1) (Or.inl ⟨rfl, rfl⟩) q
theorem bs_uni (hn : A.flatten.Nodup) (h1 : bsA A p q) (h2 : bsA A p q') : q = q' := by
  obtain ⟨L, l1, l2, l3⟩ := h1
  obtain ⟨M, m1, m2, m3⟩ := h2
  rw [one_L hn l1 m1 l2 m2] at l3
  exact l3.symm.trans m3
theorem bs_fl9 (hn : A.flatten.Nodup) (hb : bsA A r r') (h1 : r ≠ s) (h2 : r ≠ s') (h3 : r' ≠ s) (h4 : r' ≠ s') : bsA (flA s s' A) r r' := by
  obtain ⟨L, hL, hr, e⟩ := hb
  have nL := L_nd hn hL
  refine ⟨flr s s' L, List.mem_map.mpr ⟨L, hL, rfl⟩, ?_, ?_⟩
  · refine List.mem_filter.mpr ⟨hr, ?_⟩
    rw [decide_eq_true h1, decide_eq_true h2]
    rfl
  · have e1 : flr s s' L = (L.filter (fun q => decide (q ≠ s))).filter (fun q => decide (q ≠ s')) := by
      rw [List.filter_filter]
      exact List.filter_congr (fun q _ => Bool.and_comm _ _)
    have q1 := sc_fil (L := L) (r := s) (p := r) nL hr h1
    rw [e, if_neg h3] at q1
    have q2 := sc_fil (L := L.filter (fun q => decide (q ≠ s))) (r := s') (p := r) (List.Sublist.nodup List.filter_sublist nL) (List.mem_filter.mpr ⟨hr, decide_eq_true h1⟩) h2
    rw [q1, if_neg h4] at q2
    rw [e1]
    exact q2
end XTB3
end
section
/-! 99zzzzzzzzzzzzb.xtb4 -/
/-! moves are taken back: kind 2 by kind 3 -/
section XTB4
variable {A A' : rn_L} {sg sg' : Nat → Bool} {R RB Q : ow_NT} {f : Nat → Nat}
theorem fl_two {x y : Nat} {s s' : vT} (hu : ∀ p, p ∈ A.flatten → p.2 < 2) (hs : s = (x, 1) ∧ s' = (y, 1) ∨ s = (y, 1) ∧ s' = (x, 1)) : flA (x, 0) (y, 0) (flA s s' A) = woA x y A := by
  unfold flA woA
  rw [List.map_map]
  refine List.map_congr_left (fun L hL => ?_)
  show List.filter _ (List.filter _ L) = _
  rw [List.filter_filter]
  refine List.filter_congr (fun p hp => ?_)
  have h2 := hu p (List.mem_flatten.mpr ⟨L, hL, hp⟩)
  rw [Bool.eq_iff_iff]
  simp only [Bool.and_eq_true, decide_eq_true_iff]
  have key : ∀ t : Nat, (p.1 ≠ t) ↔ (p ≠ (t, 0) ∧ p ≠ (t, 1)) := by
    intro t
    constructor
    · intro h9
      exact ⟨fun e => h9 (by rw [e]), fun e => h9 (by rw [e])⟩
    · rintro ⟨g1, g2⟩ e
      rcases (show p.2 = 0 ∨ p.2 = 1 by omega) with e2 | e2
      · exact g1 (Prod.ext e e2)
      · exact g2 (Prod.ext e e2)
  rw [key x, key y]
  rcases hs with ⟨rfl, rfl⟩ | ⟨rfl, rfl⟩
  · exact ⟨fun ⟨⟨a, b⟩, c, d⟩ => ⟨⟨a, c⟩, b, d⟩, fun ⟨⟨a, c⟩, b, d⟩ => ⟨⟨a, b⟩, c, d⟩⟩
  · exact ⟨fun ⟨⟨a, b⟩, c, d⟩ => ⟨⟨a, d⟩, b, c⟩, fun ⟨⟨a, d⟩, b, c⟩ => ⟨⟨a, b⟩, c, d⟩⟩
theorem flA_mem {s s' p : vT} : p ∈ (flA s s' A).flatten ↔ p ∈ A.flatten ∧ p ≠ s ∧ p ≠ s' := by
  have e : (flA s s' A).flatten = A.flatten.filter (fun q => decide (q ≠ s) && decide (q ≠ s')) := (List.filter_flatten).symm
  rw [e, List.mem_filter, Bool.and_eq_true, decide_eq_true_iff, decide_eq_true_iff]
/-- what kind 2 takes away, kind 3 puts back -/
theorem tb_23 (hR : isoV A sg idN R) (hO : OM A sg R.1 2 A' sg') (hV : isoV A' sg' f RB) (hp : pm1 RB) (hM : mM3 RB) (hpl : plnA A sg) : tBk 3 A sg RB := by
  obtain ⟨rfl, v, hv, ⟨t1, t2, t3, t4, t5⟩, e1⟩ := hO
  have hok := isoV_ok hR
  have hn := hok.1
  have hc0 := hR.1.2.2.1
  have hu : ∀ p, p ∈ A.flatten → p.2 < 2 := fun p hp => ((hok.2 p).mp hp).2
  have hd := wkF_ok hR.1.1
  have hvn := rn_nx_lt (A := A) hv
  obtain ⟨x, hx⟩ : ∃ x, x = crs A v := ⟨_, rfl⟩
  obtain ⟨y, hy⟩ : ∃ y, y = crs A (rn_nx A v) := ⟨_, rfl⟩
  have ev : vAt A v = (x, 0) := Prod.ext hx.symm t1
  have ew : vAt A (rn_nx A v) = (y, 0) := Prod.ext hy.symm t2
  have emv : vAt A (mtf A v) = (x, 1) := by
    rw [vAt_mtf hR.1.1 hv, ev]
    rfl
  have emw : vAt A (mtf A (rn_nx A v)) = (y, 1) := by
    rw [vAt_mtf hR.1.1 hvn, ew]
    rfl
  rw [← hx, ← hy] at t3 t4 e1
  have hov : bsA A (x, 0) (y, 0) := by
    have := bs_v hn hv
    rw [ev, ew] at this
    exact this
  obtain ⟨s, s', hs, hun⟩ : ∃ s s' : vT, (s = (x, 1) ∧ s' = (y, 1) ∨ s = (y, 1) ∧ s' = (x, 1)) ∧ bsA A s s' := by
    rcases t5 with e | e
    · have := bs_v hn (mtf_lt hd hv)
      rw [e, emv, emw] at this
      exact ⟨_, _, Or.inl ⟨rfl, rfl⟩, this⟩
    · have := bs_v hn (mtf_lt hd hvn)
      rw [e, emv, emw] at this
      exact ⟨_, _, Or.inr ⟨rfl, rfl⟩, this⟩
  have hxc : x < R.1 := ((hok.2 _).mp (by rw [← ev]; exact vAt_mem hv : ((x, 0) : vT) ∈ A.flatten)).1
  have hyc : y < R.1 := ((hok.2 _).mp (by rw [← ew]; exact vAt_mem hvn : ((y, 0) : vT) ∈ A.flatten)).1
  have s1 : s.2 = 1 ∧ s'.2 = 1 ∧ (s.1 = x ∨ s.1 = y) ∧ (s'.1 = x ∨ s'.1 = y) ∧ s ≠ s' := by
    rcases hs with ⟨rfl, rfl⟩ | ⟨rfl, rfl⟩
    · exact ⟨rfl, rfl, Or.inl rfl, Or.inr rfl, fun e9 => t3 (congrArg Prod.fst e9)⟩
    · exact ⟨rfl, rfl, Or.inr rfl, Or.inl rfl, fun e9 => t3 (congrArg Prod.fst e9).symm⟩
  have ne0 : ∀ {z : Nat} {t : vT}, t.2 = 1 → ((z, 0) : vT) ≠ t := fun {z t} h9 e9 => by
    rw [← e9] at h9
    exact absurd (show 0 = 1 from h9) (by decide)
  have eF := fl_two (A := A) (x := x) (y := y) hu hs
  have n1 : (flA s s' A).flatten.Nodup := by
    have e : (flA s s' A).flatten = A.flatten.filter (fun q => decide (q ≠ s) && decide (q ≠ s')) := (List.filter_flatten).symm
    rw [e]
    exact List.Sublist.nodup List.filter_sublist hn
  have hov1 : bsA (flA s s' A) (x, 0) (y, 0) := bs_fl9 hn hov (ne0 s1.1) (ne0 s1.2.1) (ne0 s1.1) (ne0 s1.2.1)
  have m0x : ((x, 0) : vT) ∈ A.flatten := (hok.2 _).mpr ⟨hxc, by show 0 < 2; omega⟩
  have m0y : ((y, 0) : vT) ∈ A.flatten := (hok.2 _).mpr ⟨hyc, by show 0 < 2; omega⟩
  have hlen : RB.1 + 2 = R.1 := by
    obtain ⟨f', j1, -⟩ := iso_rm hR m0x
    obtain ⟨f2, i1, -⟩ := iso_rm j1 (x0 := y) ((wox_mem hu).mpr ⟨m0y, fun e9 => t3 e9.symm⟩)
    rw [← woA_wox hu y, ← e1] at i1
    have l1 := i1.1.2.1
    have l2 := hV.1.2.1
    have l1 : A'.flatten.length = 2 * (R.1 - 1 - 1) := l1
    omega
  have memA : ∀ {p : vT}, p ∈ A.flatten → p.1 ≠ x → p.1 ≠ y → p ∈ A'.flatten := fun {p} hp h1 h2 => by
    rw [e1, woA_fl, List.mem_filter]
    refine ⟨hp, ?_⟩
    rw [decide_eq_true h1, decide_eq_true h2]
    rfl
  have memB : ∀ {p : vT}, p ∈ A'.flatten → p.1 ≠ x ∧ p.1 ≠ y := fun {p} hp => by
    rw [e1, woA_fl, List.mem_filter] at hp
    have := Bool.and_eq_true_iff.mp hp.2
    exact ⟨of_decide_eq_true this.1, of_decide_eq_true this.2⟩
  obtain ⟨f1, hf1⟩ : ∃ f1 : Nat → Nat, f1 = fun z => if z = x then RB.1 else if z = y then RB.1 + 1 else f z := ⟨_, rfl⟩
  have f1x : f1 x = RB.1 := by rw [hf1]; exact if_pos rfl
  have f1y : f1 y = RB.1 + 1 := by
    rw [hf1]
    show (if y = x then _ else _) = _
    rw [if_neg (fun e9 => t3 e9.symm), if_pos rfl]
  have f1n : ∀ {z : Nat}, z ≠ x → z ≠ y → f1 z = f z := fun {z} h1 h2 => by
    rw [hf1]
    show (if z = x then _ else _) = _
    rw [if_neg h1, if_neg h2]
  have flt : ∀ {z : Nat}, z < R.1 → z ≠ x → z ≠ y → f z < RB.1 := fun {z} h1 h2 h3 => hV.1.2.2.2.1 (z, 0) (memA ((hok.2 _).mpr ⟨h1, by show 0 < 2; omega⟩) h2 h3)
  have cas : ∀ z, z < RB.1 + 2 → z = x ∧ f1 z = RB.1 ∨ z = y ∧ f1 z = RB.1 + 1 ∨ z ≠ x ∧ z ≠ y ∧ f1 z = f z ∧ f z < RB.1 := by
    intro z hz
    by_cases ex : z = x
    · exact Or.inl ⟨ex, by rw [ex]; exact f1x⟩
    · by_cases ey : z = y
      · exact Or.inr (Or.inl ⟨ey, by rw [ey]; exact f1y⟩)
      · exact Or.inr (Or.inr ⟨ex, ey, f1n ex ey, flt (by omega) ex ey⟩)
  have finj : ∀ z w, z < RB.1 + 2 → w < RB.1 + 2 → f1 z = f1 w → z = w := by
    intro z w hz hw h9
    rcases cas z hz with ⟨a1, a2⟩ | ⟨a1, a2⟩ | ⟨a1, a2, a3, a4⟩ <;> rcases cas w hw with ⟨b1, b2⟩ | ⟨b1, b2⟩ | ⟨b1, b2, b3, b4⟩
    · rw [a1, b1]
    · omega
    · omega
    · omega
    · rw [a1, b1]
    · omega
    · omega
    · omega
    · rw [a3, b3] at h9
      exact hV.1.2.2.2.2.1 (z, 0) (w, 0) (memA ((hok.2 _).mpr ⟨by show z < R.1; omega, by show 0 < 2; omega⟩) a1 a2) (memA ((hok.2 _).mpr ⟨by show w < R.1; omega, by show 0 < 2; omega⟩) b1 b2) h9
  have hgin : gin (gl f1) A.flatten := by
    intro p q hp hq e9
    have h1 := (hok.2 p).mp hp
    have h2 := (hok.2 q).mp hq
    have e9 : 2 * f1 p.1 + p.2 = 2 * f1 q.1 + q.2 := e9
    exact Prod.ext (finj _ _ (by omega) (by omega) (by omega)) (by omega)
  have hgin1 : gin (gl f1) (flA s s' A).flatten := gin_sub hgin (fun a ha => (flA_mem.mp ha).1)
  have hne0 : ((x, 0) : vT) ≠ (y, 0) := fun e9 => t3 (congrArg Prod.fst e9)
  obtain ⟨af1, haf1, hput1⟩ := rput (g := gl f1) n1 hov1 hne0 hgin1
  obtain ⟨af2, haf2, hput2⟩ := rput (g := gl f1) hn hun s1.2.2.2.2 hgin
  rw [eF, ← e1] at haf1 hput1
  have gx : gl f1 (x, 0) = 2 * RB.1 := by
    show 2 * f1 x + 0 = _
    rw [f1x]
    omega
  have gy : gl f1 (y, 0) = 2 * RB.1 + 2 := by
    show 2 * f1 y + 0 = _
    rw [f1y]
    omega
  rw [gx, gy] at hput1
  have gA : ∀ {p : vT}, p ∈ A'.flatten → gl f1 p = gl f p ∧ gl f1 p < 2 * RB.1 := fun {p} hp => by
    obtain ⟨h1, h2⟩ := memB hp
    have h3 := hV.1.2.2.2.1 p hp
    have h4 := (hV.1.1.2 p hp).2.1
    have e9 : gl f1 p = gl f p := by
      show 2 * f1 p.1 + p.2 = 2 * f p.1 + p.2
      rw [f1n h1 h2]
    refine ⟨e9, ?_⟩
    rw [e9]
    show 2 * f p.1 + p.2 < _
    omega
  obtain ⟨c1, hc1⟩ : ∃ c1 : Nat, c1 = if sg' x then 1 else 0 := ⟨_, rfl⟩
  obtain ⟨c2, hc2⟩ : ∃ c2 : Nat, c2 = if s = (x, 1) then 0 else 1 := ⟨_, rfl⟩
  have c1l : c1 < 2 := by rw [hc1]; split <;> omega
  have c2l : c2 < 2 := by rw [hc2]; split <;> omega
  obtain ⟨ch, hch⟩ : ∃ ch : Nat, ch = c1 + 2 * c2 := ⟨_, rfl⟩
  have ch4 : ch < 4 := by omega
  have ch2 : ch % 2 = if sg' x then 1 else 0 := by rw [← hc1]; omega
  have ch3 : ch / 2 % 2 = if s = (x, 1) then 0 else 1 := by rw [← hc2]; omega
  have gss : gl f1 s = (if ch / 2 % 2 = 0 then 2 * RB.1 + 1 else 2 * RB.1 + 3) ∧ gl f1 s' = if ch / 2 % 2 = 0 then 2 * RB.1 + 3 else 2 * RB.1 + 1 := by
    rw [ch3]
    rcases hs with ⟨e, e'⟩ | ⟨e, e'⟩
    · rw [if_pos e, if_pos rfl, if_pos rfl, e, e']
      show 2 * f1 x + 1 = _ ∧ 2 * f1 y + 1 = _
      rw [f1x, f1y]
      omega
    · rw [if_neg (fun e9 => t3 (congrArg Prod.fst (e.symm.trans e9)).symm), if_neg (by decide), if_neg (by decide), e, e']
      show 2 * f1 y + 1 = _ ∧ 2 * f1 x + 1 = _
      rw [f1x, f1y]
      omega
  rw [gss.1, gss.2] at hput2
  obtain ⟨o, o1, o2, o3⟩ : ∃ o, o ≤ 2 * RB.1 ∧ mv_af RB o = af1 ∧ (o = 2 * RB.1 → af1 = none ∧ 0 < RB.2.1) := by
    rcases haf1 with ⟨p, hp, -, e9⟩ | ⟨e9, h9⟩
    · have := (gA hp).2
      refine ⟨gl f1 p, by omega, ?_, fun h8 => by omega⟩
      unfold mv_af
      rw [if_neg (by omega), e9]
    · refine ⟨2 * RB.1, Nat.le_refl _, ?_, fun _ => ⟨e9, ?_⟩⟩
      · unfold mv_af
        rw [if_pos rfl, e9]
      · rw [← hV.1.2.2.2.2.2.2.2]
        exact h9
  have hC0 : cirs A' = RB.2.1 := hV.1.2.2.2.2.2.2.2
  have hS0 : ∀ Q : ow_NT, shP (nt_add (nt_add (nt_copy Q RB) (mv_s1 ch)) (mv_s2 ch)).2.2.1 (gl f1) A' := fun Q => shP_gcg hV.1.1.1 (fun p hp => (gA hp).1) (isoV_cpy (Q := Q) hV).2
  have step1 : ∀ Q : ow_NT, shP (mv_t3a Q RB o ch).2.2.1 (gl f1) (flA s s' A) ∧ cirs (flA s s' A) = (mv_t3a Q RB o ch).2.1 := fun Q => by
    unfold mv_t3a
    rw [o2]
    exact hput1 _ (hS0 Q) hC0
  obtain ⟨u, u1, u2, u3⟩ : ∃ u, u < 2 * RB.1 + 2 ∧ mv_au RB u = af2 ∧ (u = 2 * RB.1 + 1 → 0 < cirs (flA s s' A)) := by
    rcases haf2 with ⟨p, hp, hps, e9⟩ | ⟨e9, h9⟩
    · have hp2 := flA_mem.mp hp
      have hpo := (hok.2 p).mp hp2.1
      by_cases ex : p.1 = x
      · -- the first visit over has the second one behind it
        have e2 : p.2 = 0 := by
          rcases (show p.2 = 0 ∨ p.2 = 1 by omega) with e2 | e2
          · exact e2
          · exfalso
            have ep : p = (x, 1) := Prod.ext ex e2
            rcases hs with ⟨h8, h7⟩ | ⟨h8, h7⟩
            · exact hp2.2.1 (ep.trans h8.symm)
            · exact hp2.2.2 (ep.trans h7.symm)
        have ep : p = (x, 0) := Prod.ext ex e2
        rw [ep] at hps
        have := bs_uni hn hov hps
        exact absurd this (ne0 s1.1)
      · by_cases ey : p.1 = y
        · have e2 : p.2 = 0 := by
            rcases (show p.2 = 0 ∨ p.2 = 1 by omega) with e2 | e2
            · exact e2
            · exfalso
              have ep : p = (y, 1) := Prod.ext ey e2
              rcases hs with ⟨h8, h7⟩ | ⟨h8, h7⟩
              · exact hp2.2.2 (ep.trans h7.symm)
              · exact hp2.2.1 (ep.trans h8.symm)
          have ep : p = (y, 0) := Prod.ext ey e2
          refine ⟨2 * RB.1, by omega, ?_, fun h8 => by omega⟩
          unfold mv_au
          rw [if_neg (by omega), if_pos rfl, e9, ep, gy]
        · have := (gA (memA hp2.1 ex ey)).2
          refine ⟨gl f1 p, by omega, ?_, fun h8 => by omega⟩
          unfold mv_au
          rw [if_pos this, e9]
    · refine ⟨2 * RB.1 + 1, by omega, ?_, fun _ => h9⟩
      unfold mv_au
      rw [if_neg (by omega), if_neg (by omega), e9]
  have hnd : mv_nd RB o u ≤ RB.2.1 := by
    have hA1 := (step1 RB).2
    have eT : (mv_t3a RB RB o ch).2.1 = if af1 = none then RB.2.1 - 1 else RB.2.1 := by
      unfold mv_t3a
      rw [o2]
      cases af1 <;> rfl
    rw [eT] at hA1
    unfold mv_nd
    by_cases ho : o = 2 * RB.1
    · obtain ⟨q1, q2⟩ := o3 ho
      rw [if_pos q1] at hA1
      rw [if_pos ho]
      by_cases hu9 : u = 2 * RB.1 + 1
      · have := u3 hu9
        rw [if_pos hu9]
        omega
      · rw [if_neg hu9]
        omega
    · rw [if_neg ho]
      by_cases hu9 : u = 2 * RB.1 + 1
      · have := u3 hu9
        rw [if_pos hu9]
        split at hA1 <;> omega
      · rw [if_neg hu9]
        omega
  have iso9 : ∀ Q : ow_NT, isoV A sg' f1 (mv_t3b Q RB o u ch) := fun Q => by
    obtain ⟨q1, q2⟩ := hput2 (mv_t3a Q RB o ch) (step1 Q).1 (step1 Q).2
    rw [← u2] at q1 q2
    refine iso_mk (c := RB.1 + 2) (by rw [hlen]; exact hok) (by omega) t3b_1 (fun z hz => ?_) finj q1 (fun z hz => ?_) q2
    · rcases cas z hz with ⟨-, a2⟩ | ⟨-, a2⟩ | ⟨-, -, a3, a4⟩ <;> omega
    · rw [t3b_G, su_at]
      rcases cas z hz with ⟨a1, a2⟩ | ⟨a1, a2⟩ | ⟨a1, a2, a3, a4⟩
      · rw [a2, if_neg (by omega), su_at, if_pos rfl, a1]
        unfold mv_s1
        rw [ch2]
        cases sg' x <;> decide
      · rw [a2, if_pos rfl, a1]
        unfold mv_s2
        rw [ch2]
        have t4' : sg' y = !sg' x := by
          revert t4
          cases sg' x <;> cases sg' y <;> simp
        rw [t4']
        cases sg' x <;> decide
      · rw [a3, if_neg (by omega), su_at, if_neg (by omega)]
        exact (isoV_cpy (Q := Q) hV).1.2.2.2.2.2.2.1 (z, 0) (memA ((hok.2 _).mpr ⟨by show z < R.1; omega, by show 0 < 2; omega⟩) a1 a2)
  have hcn : mv_cnt RB.1 3 = (2 * RB.1 + 1) * (2 * RB.1 + 2) * 4 := if_pos (by omega)
  refine ⟨(o * (2 * RB.1 + 2) + u) * 4 + ch, ?_, fun F P Q hmk hQ => ?_⟩
  · rw [hcn]
    have m1 := Nat.mul_le_mul_right (2 * RB.1 + 2) o1
    have m2 : (2 * RB.1 + 1) * (2 * RB.1 + 2) = 2 * RB.1 * (2 * RB.1 + 2) + (2 * RB.1 + 2) := Nat.succ_mul _ _
    generalize (2 * RB.1 + 1) * (2 * RB.1 + 2) = m3 at m2 ⊢
    generalize 2 * RB.1 * (2 * RB.1 + 2) = m4 at m1 m2
    generalize o * (2 * RB.1 + 2) = m5 at m1 ⊢
    omega
  · have d1 : ((o * (2 * RB.1 + 2) + u) * 4 + ch) / 4 = o * (2 * RB.1 + 2) + u := by omega
    have d2 : ((o * (2 * RB.1 + 2) + u) * 4 + ch) % 4 = ch := by omega
    have d3 : (o * (2 * RB.1 + 2) + u) / (2 * RB.1 + 2) = o := by
      rw [Nat.mul_comm, Nat.mul_add_div (by omega), Nat.div_eq_of_lt (by omega), Nat.add_zero]
    have d4 : (o * (2 * RB.1 + 2) + u) % (2 * RB.1 + 2) = u := by
      rw [Nat.mul_comm, Nat.mul_add_mod, Nat.mod_eq_of_lt (by omega)]
    have hi := iso9 Q
    have hpl9 : nt_plane (mv_t3b Q RB o u ch) = true := hpl _ _ hi (t3b_p hp)
    have hb3 : mv_b3 RB F P o u = true := by
      unfold mv_b3
      rw [decide_eq_true hnd, Bool.true_and]
      by_cases h1 : o < 2 * RB.1
      · by_cases h2 : u < 2 * RB.1
        · rw [hM F P Q o u ch hmk hQ (by omega) ch4 h1 h2 hpl9]
          rw [Bool.not_true, Bool.and_false, Bool.and_false]
          rfl
        · rw [decide_eq_false h2, Bool.false_and, Bool.and_false]
          rfl
      · rw [decide_eq_false h1, Bool.false_and]
        rfl
    show (mv_b3 RB F P (((o * (2 * RB.1 + 2) + u) * 4 + ch) / 4 / (2 * RB.1 + 2)) (((o * (2 * RB.1 + 2) + u) * 4 + ch) / 4 % (2 * RB.1 + 2)) && nt_plane (mv_t3b Q RB (((o * (2 * RB.1 + 2) + u) * 4 + ch) / 4 / (2 * RB.1 + 2)) (((o * (2 * RB.1 + 2) + u) * 4 + ch) / 4 % (2 * RB.1 + 2)) (((o * (2 * RB.1 + 2) + u) * 4 + ch) % 4))) = true ∧ ∃ f, isoV _ _ f (mv_t3 Q RB F P (((o * (2 * RB.1 + 2) + u) * 4 + ch) / 4 / (2 * RB.1 + 2)) (((o * (2 * RB.1 + 2) + u) * 4 + ch) / 4 % (2 * RB.1 + 2)) (((o * (2 * RB.1 + 2) + u) * 4 + ch) % 4))
    rw [d1, d2, d3, d4, hb3, hpl9]
    refine ⟨rfl, f1, ?_⟩
    unfold mv_t3
    rw [if_pos hb3]
    exact hi
end XTB4
end
