section
/-! 99zzzzzzzzzzzx.xjon6 -/
/-! jones: both sides answer the same -/
def wG9 (sg : Nat → Bool) (p : vT) : Int32 := if p.2 = 0 then (if sg p.1 then -1 else 1) else 0
theorem wr_sL9 {A : rn_L} {sg : Nat → Bool} : ∀ v, v ≤ A.flatten.length → iI (wrN A sg v) = sL (wG9 sg) (A.flatten.take v)
  | 0, _ => rfl
  | v + 1, h => by
    have ih := wr_sL9 (A := A) (sg := sg) v (by omega)
    have hv : v < A.flatten.length := by omega
    rw [take_s (vAt_of hv), sL_s, ← ih]
    show iI (wrN A sg v + if uns A v = 0 then (if sg (crs A v) then -1 else 1) else 0) = iI (wrN A sg v) + (if (vAt A v).2 = 0 then (if sg (vAt A v).1 then -1 else 1) else 0)
    rw [← iI_add]
    congr 1
    show iI (if (vAt A v).2 = 0 then (if sg (vAt A v).1 then -1 else 1) else 0) = _
    by_cases e0 : (vAt A v).2 = 0
    · rw [if_pos e0, if_pos e0]
      cases sg (vAt A v).1 <;> rfl
    · rw [if_neg e0, if_neg e0]
      rfl
theorem wr_np {A : rn_L} {sg : Nat → Bool} {c : Nat} {G : Nat → Int32} (hA : okF A.flatten c) (hG : ∀ x, x < c → G x = if sg x then -1 else 1) : np_sum G c = iI (wrN A sg A.flatten.length) := by
  rw [wr_sL9 _ (Nat.le_refl _), List.take_length, sL_pm (okF_pairs hA)]
  have key : ∀ n, n ≤ c → np_sum G n = sL (wG9 sg) (pairs n) := by
    intro n
    induction n with
    | zero => exact fun _ => rfl
    | succ n ih =>
      intro hn
      rw [pairs_s, show pairs n ++ [(n, 0), (n, 1)] = (pairs n ++ [(n, 0)]) ++ [(n, 1)] by simp, sL_s, sL_s, ← ih (by omega)]
      show np_sum G n + G n = np_sum G n + (if sg n then -1 else 1) + 0
      rw [hG n (by omega), Int32.add_zero]
  exact key c (Nat.le_refl _)
/-- the number that the reference answers -/
def jRv (A : rn_L) (sg : Nat → Bool) (c : Nat) (x : Int32) : Int32 := if x.toInt < -100 ∨ 100 < x.toInt then 0 else (jX c (wrN A sg A.flatten.length) (jN A sg c (2 ^ c)) (x.toInt + 100).toNat 23).toInt32
/-- the class's binomials -/
def bnC (y : ow_MS) : Prop := ∀ m i, m < 23 → i ≤ m → y.2.1 (39001 + m) i = nI (binN m i)
theorem jn_same {y : ow_MS} {A : rn_L} {sg : Nat → Bool} {c : Nat} {x v : Int32} (hb : bnC y) (h : jnV y A sg c x v) : v = jRv A sg c x := by
  obtain ⟨⟨S, G, hj, h8, h9, h6⟩, hv⟩ := h
  obtain ⟨hA, hi, hvn, hG⟩ := id hj
  have hc : c ≤ 12 := hA.2.2.2.1
  have hw := wrN_le (A := A) (sg := sg) A.flatten.length
  have hov := ovs_le hA.1
  have eW : y.1 24009 = iI (wrN A sg A.flatten.length) := by rw [h9, wr_np hA.1 hG]
  generalize hwn : wrN A sg A.flatten.length = w at hw eW
  have hw1 : -12 ≤ w := by omega
  have hw2 : w ≤ 12 := by omega
  have e1 := jAt_E (x := x) hc hw1 hw2 eW h6 hb
  unfold jRv
  rw [hv, e1, eW, hwn]
  by_cases hx : x.toInt < -100 ∨ 100 < x.toInt
  · rw [if_pos hx, jE_far hc hw1 hw2 hx, Int32.neg_zero, ite_self]
  · rw [if_neg hx]
    exact (jX_E hc hw1 hw2 (by omega) (fun o l ho hl => tb_jN hj ho hl)).symm
/-- the reference's row of numbers belongs to its row of a diagram -/
def jnR (z : ow_MS) : Prop := ∀ T1, rc_At z 50 0 T1 → T1 = [] ∨ ∃ A sg c, okL A c ∧ T1 = tk sg A ∧ ∀ k, k < 201 → z.2.2 48 k = jX c (wrN A sg A.flatten.length) (jN A sg c (2 ^ c)) k 23
def jnZ (g : Nat) : Prop := rPs g ∨ g = 47 ∨ g = 48 ∨ g = 50 ∨ g = 51
theorem jnR_fr {P : Nat → Prop} {z z1 : ow_MS} (hf : fr P z z1) (h1 : ¬ P 48) (h2 : ¬ P 50) (h : jnR z) : jnR z1 := by
  intro T1 hT
  have hT' : rc_At z 50 0 T1 := by
    obtain ⟨a1, a2, a3, a4⟩ := hT
    rw [(hf 50 h2).2.1] at a3
    exact ⟨a1, a2, a3, fun k t hk => by rw [← (hf 50 h2).2.1]; exact a4 k t hk⟩
  rcases h T1 hT' with e | ⟨A, sg, c, q1, q2, q3⟩
  · exact Or.inl e
  · exact Or.inr ⟨A, sg, c, q1, q2, fun k hk => by rw [(hf 48 h1).2.2]; exact q3 k hk⟩
section XJ6
variable {X : (Nat → Nat → Int32) → Prop} {z : ow_MS} {St : plT}
theorem xq_jones {d x : Int32} (h : gI X z) (hR : relR z St) (hS : okS St) (hJ : jnR z) : Te (fun K => qe_X13_jones K d x z) (fun r => jnR r.2 ∧ (rFl X z 1 r ∧ (∀ e, e < 40 → d = nI e → St e = none) ∨ ∃ e A sg, e < 40 ∧ d = nI e ∧ St e = some (A, sg) ∧ gI X r.2 ∧ r.2.1 1 = 0 ∧ fr jnZ z r.2 ∧ ∃ sg9 c, tk sg9 A = tk sg A ∧ okL A c ∧ r.1 = jRv A sg9 c x)) := by
  let Q : Int32 × ow_MS → Prop := fun r => jnR r.2 ∧ (rFl X z 1 r ∧ (∀ e, e < 40 → d = nI e → St e = none) ∨ ∃ e A sg, e < 40 ∧ d = nI e ∧ St e = some (A, sg) ∧ gI X r.2 ∧ r.2.1 1 = 0 ∧ fr jnZ z r.2 ∧ ∃ sg9 c, tk sg9 A = tk sg A ∧ okL A c ∧ r.1 = jRv A sg9 c x)
  have h1 := gI_1 (c := 0) h
  have hR1 := relR_1 (c := 0) hR
  have f01 : fr rPs z (usF z 1 0) := fr_1
  refine e_X13_jones ?_
  refine u_X13_jones_0 ?_; unfold qm_X13_jones_0
  refine w_wrF (w_hasX hR1 (fun h0 => w_ifT rfl (w_mono (w_failX h1 fr_1) (fun r hr => ⟨jnR_fr hr.2.2 (by unfold rPs rSc; omega) (by unfold rPs rSc; omega) hJ, Or.inl ⟨hr, h0⟩⟩))) (fun e A sg he hx hs hv hne => w_ifF (by decide) ?_))
  subst hx
  have c3 : ∀ {x1 : Int32} {y : ow_MS} {sg9 : Nat → Bool} {c : Nat}, (x.toInt < -100 ∨ 100 < x.toInt) → gI X y → y.1 1 = 0 → fr jnZ z y → jnR y → tk sg9 A = tk sg A → okL A c → Tt (fun K i => q_X13_jones K i 3 x1 x 0 y) Q := by
    intro x1 y sg9 c hx g1 g2 g3 g4 g5 g6
    refine u_X13_jones_3 ?_; unfold qm_X13_jones_3
    refine w_some ⟨g4, Or.inr ⟨e, A, sg, he, rfl, hs, g1, g2, g3, sg9, c, g5, g6, ?_⟩⟩
    unfold jRv
    rw [if_pos hx]
  have c2 : ∀ {x1 : Int32} {y : ow_MS} {sg9 : Nat → Bool} {c : Nat}, gI X y → y.1 1 = 0 → fr jnZ z y → jnR y → tk sg9 A = tk sg A → okL A c → (∀ k, k < 201 → y.2.2 48 k = jX c (wrN A sg9 A.flatten.length) (jN A sg9 c (2 ^ c)) k 23) → Tt (fun K i => q_X13_jones K i 2 x1 x 0 y) Q := by
    intro x1 y sg9 c g1 g2 g3 g4 g5 g6 g7
    refine u_X13_jones_2 ?_; unfold qm_X13_jones_2
    refine w_if (fun h0 => c3 (Or.inl ?_) g1 g2 g3 g4 g5 g6) (fun h0 => w_if (fun h9 => ?_) (fun h9 => c3 (Or.inr ?_) g1 g2 g3 g4 g5 g6))
    · exact Int32.lt_iff_toInt_lt.mp h0
    · have b1 : -100 ≤ x.toInt := by
        rw [Int32.lt_iff_toInt_lt] at h0
        exact Int.not_lt.mp h0
      have b2 : x.toInt ≤ 100 := Int32.le_iff_toInt_le.mp h9
      have ek : x + 100 = nI (x.toInt + 100).toNat := by
        have ex : x = iI x.toInt := (Int32.ofInt_toInt x).symm
        have : iI x.toInt + iI 100 = nI (x.toInt + 100).toNat := by
          rw [iI_add]
          exact iI_nI (by omega)
        rw [← ex] at this
        exact this
      refine w_rdJ ml48 ek (by omega) (g7 _ (by omega)) (w_some ⟨g4, Or.inr ⟨e, A, sg, he, rfl, hs, g1, g2, g3, sg9, c, g5, g6, ?_⟩⟩)
      unfold jRv
      rw [if_neg (by omega)]
    · rw [Int32.le_iff_toInt_le] at h9
      exact Int.not_le.mp h9
  obtain ⟨_, _, ⟨T1, k1⟩, kC⟩ := h1.2.2.2.2.1
  have hTl := hv.1.1
  obtain ⟨-, -, c, hA⟩ := hS e A sg he hs
  rw [show (32 : Int32) * nI e = nI (32 * e) from pk_mul 32 e]
  refine w_cs1 (tr_same (o := 32 * e) (p := 0) ml12 ml50 (by omega) (by omega) (by omega) (by omega) hv.1 k1) (fun a y e9 => ?_)
  cases e9
  have hJ1 : jnR (usF z 1 0) := jnR_fr f01 (by unfold rPs rSc; omega) (by unfold rPs rSc; omega) hJ
  refine w_if (fun _ => ?_) (fun h8 => ?_)
  rotate_left
  · have eS : tk sg A = T1 := by
      by_cases q : tk sg A = T1
      · exact q
      · exact absurd (by rw [decide_eq_false q]; rfl) h8
    rcases hJ1 T1 k1 with q | ⟨A9, sg9, c9, q1, q2, q3⟩
    · have := tk_pos (sg := sg) hne
      rw [eS, q] at this
      exact absurd this (by decide)
    · obtain ⟨u1, u2⟩ := tk_inj A A9 (okL_u hA) (okL_u q1) (eS.trans q2)
      subst u1
      exact c2 h1 po_usF_at (fr_mono (fun g hg => Or.inl hg) f01) hJ1 (q2.symm.trans eS.symm) q1 q3
  have lp2 : ∀ (dd i : Nat) (y1 y : ow_MS), i + dd = 32 → gI X y1 → y1.2.1 12 = (usF z 1 0).2.1 12 → y1.1 1 = 0 → fr jnZ z y1 → (∀ k, k < 201 → y1.2.2 48 k = jX c (wrN A sg A.flatten.length) (jN A sg c (2 ^ c)) k 23) → fr (fun g => g = 50) y1 y → (∀ t, t < i → y.2.1 50 t = y1.2.1 12 (32 * e + t)) → Tt (fun K t => q_X13_jones K t 1 (nI e) x (nI i) y) Q := by
    intro dd
    induction dd with
    | zero =>
      intro i y1 y hi g1 e12 e1 fz h48 hf ht
      have hrow : rc_At y1 12 (32 * e) (tk sg A) := by
        obtain ⟨a1, a2, a3, a4⟩ := hv.1
        exact ⟨a1, a2, by rw [e12]; exact a3, fun k t hk => by rw [e12]; exact a4 k t hk⟩
      have hr50 : rc_At y 50 0 (tk sg A) := rc_cpy hrow (fun t h9 => ht t (by omega))
      have h48' : ∀ k, k < 201 → y.2.2 48 k = jX c (wrN A sg A.flatten.length) (jN A sg c (2 ^ c)) k 23 := fun k hk => by rw [(hf 48 (by decide)).2.2]; exact h48 k hk
      have gy : gI X y := by
        refine gI_cash hf (fun g hg => Or.inl (Or.inr (Or.inr (Or.inl hg)))) ?_ g1
        obtain ⟨⟨T2, k2⟩, ⟨T3, k3⟩, -, ⟨T4, k4⟩, cc, k5, k6⟩ := g1.2.2.2.2.1
        exact ⟨⟨T2, rc_fr hf (by decide) k2⟩, ⟨T3, rc_fr hf (by decide) k3⟩, ⟨_, hr50⟩, ⟨T4, rc_fr hf (by decide) k4⟩, cc, k5, by rw [(hf 67 (by decide)).1]; exact k6⟩
      refine u_X13_jones_1 ?_; unfold qm_X13_jones_1
      exact w_leT (a := 32) (by omega) (by omega) (c2 gy (by rw [(hf 1 (by decide)).1]; exact e1) (fr_tr fz (fr_mono (fun g hg => by unfold jnZ; omega) hf)) (fun T9 hT9 => Or.inr ⟨A, sg, c, hA, rc_uni hT9 hr50, h48'⟩) rfl hA h48')
    | succ dd ih =>
      intro i y1 y hi g1 e12 e1 fz h48 hf ht
      refine u_X13_jones_1 ?_; unfold qm_X13_jones_1
      rw [show (32 : Int32) * nI e = nI (32 * e) from pk_mul 32 e, nI_add, nI_1]
      refine w_leF (a := 32) (by omega) (by omega) (w_rdI ml12 rfl (by omega) rfl (w_wrI ml50 rfl (by omega) (ih (i + 1) y1 _ (by omega) g1 e12 e1 fz h48 (fr_I2 hf rfl) (fun t h9 => ?_))))
      by_cases hti : t = i
      · rw [hti, po_usI_at, (hf 12 (by decide)).2.1]
      · exact rd_ne hti (ht t (by omega))
  refine w_cs0 (to_open pn1 he hv) (fun z2 ⟨o2, f2⟩ => w_cs0 (xm_makeJones pn1 o2 hA.1 hA.2.2.2.1) (fun z3 ⟨f3, h48⟩ => ?_))
  have hf3 : fr (fun g => 1000 ≤ g ∨ g = 47 ∨ g = 48 ∨ g = 51) (usF z 1 0) z3 := fr_tr (fr_mono (fun g hg => by omega) f2) (fr_mono (fun g hg => by omega) f3)
  exact lp2 32 0 z3 z3 (by omega) (gI_fr hf3 (fun g hg => by unfold per; omega) h1) (hf3 12 (by omega)).2.1 (by rw [(hf3 1 (by omega)).1]; exact po_usF_at) (fr_tr (fr_mono (fun g hg => Or.inl hg) f01) (fr_mono (fun g hg => by unfold jnZ rPs rSc; omega) hf3)) h48 fr_rf (fun t ht => absurd ht (by omega))
end XJ6
section XJ7
variable {X : (Nat → Nat → Int32) → Prop} {vl : Nat → Nat} {z y : ow_MS} {x x' : Int32}
/-- what jones needs besides: the class's binomials, both sides' last table -/
def relJ (z y : ow_MS) : Prop := jnR z ∧ jnC y ∧ bnC y
theorem bnC_fr {P : Nat → Prop} {y1 : ow_MS} (hf : fr P y y1) (hP : ∀ m, m < 23 → ¬ P (39001 + m)) (h : bnC y) : bnC y1 := fun m i hm hi => by
  rw [(hf _ (hP m hm)).2.1]
  exact h m i hm hi
theorem c_jones (h : rel3 X z y) (hJ : relJ z y) : Te (fun K => qe_X13_jones K x x' z) (fun rr => Te (fun K => ce_X11_jones vl K 0 x x' y) (fun rc => (rel3 X rr.2 rc.2.2 ∧ ansI [(1, 1)] rr rc) ∧ relJ rr.2 rc.2.2 ∧ fr jnZ z rr.2 ∧ fr jnP y rc.2.2)) := by
  obtain ⟨⟨St, k⟩, hM, h2⟩ := id h
  obtain ⟨j1, j2, j3⟩ := hJ
  refine te_two (xq_jones k.1 k.2.2.1 k.2.2.2.2 j1) (tc_jones (x := x) (x' := x') hM j2) (fun rr rc ⟨jr, hr⟩ ⟨hG, jc, _, _, hf, hc⟩ => ?_)
  have jb : bnC rc.2.2 := bnC_fr hf (fun m hm h9 => by unfold jnP at h9; omega) j3
  have hC : relC rc.2.2 St := relC_fr hf (fun q hq h9 => by unfold cW at hq; unfold jnP at h9; omega) k.2.2.2.1
  have fin : ∀ {P : Nat → Prop}, fr P z rr.2 → (∀ g, P g → jnZ g) → gI X rr.2 → ansI [(1, 1)] rr rc → ((rel3 X rr.2 rc.2.2 ∧ ansI [(1, 1)] rr rc) ∧ relJ rr.2 rc.2.2 ∧ fr jnZ z rr.2 ∧ fr jnP y rc.2.2) := fun hz hP hI ha => ⟨⟨⟨⟨St, hI, hG.1, relR_fr hz (fun h9 => by have := hP _ h9; unfold jnZ rPs rSc at this; omega) k.2.2.1, hC, k.2.2.2.2⟩, hG, rel2_h hz hf (fun g hg h9 => by have := hP _ hg; unfold jnZ rPs rSc at this; unfold r2Z at h9; omega) (fun g hg h9 => by unfold jnP at hg; unfold r2Y at h9; omega) h2⟩, ha⟩, ⟨jr, jc, jb⟩, fr_mono hP hz, hf⟩
  have got : ∀ {d c : Nat} {A : rn_L} {sg : Nat → Bool}, d < 40 → slC y 1000 d (clC sg A) → okL A c → A ≠ [] → ∃ sg2, St d = some (A, sg2) ∧ ∀ q, q < c → sg2 q = sg q := by
    intro d c A sg hd hs hA hne
    have ok := (okL_c (sg := sg) hA).2
    have hl : 0 < (clC sg A).2.length := by
      show 0 < (ucd sg 0 [] A).length
      rw [ucd_len]
      have := List.length_pos_iff.mpr hne
      omega
    cases e : St d with
    | none =>
      have h9 := (k.2.2.2.1 d hd).1 e
      have h8 : y.2.1 1002 d = nI (clC sg A).2.length := hs.2.1
      rw [h8] at h9
      have := nI_inj9 (a := (clC sg A).2.length) (b := 0) (by have := ok.2.1; omega) (by omega) h9
      omega
    | some P =>
      obtain ⟨k1, k2, c', k3⟩ := k.2.2.2.2 d P.1 P.2 hd e
      obtain ⟨q1, q2, q3⟩ := clC_inj hA k3 (slC_uni ok (okL_c k3).2 hs ((k.2.2.2.1 d hd).2 P.1 P.2 e))
      exact ⟨P.2, by rw [q1], fun q hq => (q3 q hq).symm⟩
  rcases hr with ⟨r1, r2⟩ | ⟨e, A, sg, he, rfl, hSt, r1, r2, r3, sg9, c, r4, r5, r6⟩
  · rcases hc with ⟨-, d, A, sg, c, hd, hx, hs, hA, hne, -⟩ | ⟨c1, -⟩
    · obtain ⟨sg2, q, -⟩ := got hd hs hA hne
      rw [r2 d hd hx] at q
      cases q
    · exact fin r1.2.2 (fun g hg => Or.inl hg) r1.1 (Or.inr ⟨1, 1, by simp, r1.2.1, c1⟩)
  · rcases hc with ⟨c1, d, A', sg', c', hd, hx, hs, hA', hne', hv⟩ | ⟨-, c2⟩
    · have ed := nI_inj9 (a := e) (b := d) (by omega) (by omega) hx
      subst ed
      obtain ⟨sg2, q, q2⟩ := got he hs hA' hne'
      rw [hSt] at q
      cases q
      obtain ⟨-, u2⟩ := tk_inj A A (okL_u hA') (okL_u hA') r4
      have ec : c' = c := by
        have l1 := okF_len hA'.1
        have l2 := okF_len r5.1
        omega
      subst ec
      have hv9 : jnV rc.2.2 A sg9 c' x' rc.2.1 := ⟨jnT_sg hv.1 (fun q hq => (u2 (q, 0) ((hA'.1.2 _).mpr ⟨hq, by show 0 < 2; omega⟩)).trans (q2 q hq)), hv.2⟩
      exact fin r3 (fun g hg => hg) r1 (Or.inl ⟨r2, c1, by rw [r6, jn_same jb hv9]⟩)
    · exfalso
      obtain ⟨k1, -, c9, k3⟩ := k.2.2.2.2 e A sg he hSt
      have hs2 := (k.2.2.2.1 e he).2 A sg hSt
      have h9 := c2 e he rfl
      have ok := (okL_c (sg := sg) k3).2
      have hl : 0 < (clC sg A).2.length := by
        show 0 < (ucd sg 0 [] A).length
        rw [ucd_len]
        have := List.length_pos_iff.mpr k1
        omega
      have h8 : y.2.1 1002 e = nI (clC sg A).2.length := hs2.2.1
      rw [h8] at h9
      have := nI_inj9 (a := (clC sg A).2.length) (b := 0) (by have := ok.2.1; omega) (by omega) h9
      omega
end XJ7
end
section
/-! 99zzzzzzzzzzzy.xtb1 -/
/-! moves are taken back: two visits beside one another, out and in again -/
def flr (r r' : vT) (L : List vT) : List vT := L.filter (fun q => decide (q ≠ r) && decide (q ≠ r'))
def flA (r r' : vT) (A : rn_L) : rn_L := A.map (flr r r')
/-- one visit stands behind the other -/
def bsA (A : rn_L) (r r' : vT) : Prop := ∃ L, L ∈ A ∧ r ∈ L ∧ sc L r = r'
section XTB
variable {A Pre Post : rn_L} {p q r r' s s' : vT} {P X Y U V L : List vT} {g : vT → Nat} {S : ow_NP} {i : Nat} {b : vT → Bool}
theorem shP_rot (hn : (Pre ++ (U ++ V) :: Post).flatten.Nodup) (h : shP S g (Pre ++ (V ++ U) :: Post)) : shP S g (Pre ++ (U ++ V) :: Post) := by
  have nC : (U ++ V).Nodup := L_nd hn (by simp)
  intro L hL
  rcases List.mem_append.mp hL with h9 | h9
  · exact h L (List.mem_append_left _ h9)
  · rcases List.mem_cons.mp h9 with h9 | h9
    · rw [h9]
      intro p hp
      have hp' : p ∈ V ++ U := by
        rcases List.mem_append.mp hp with h8 | h8
        · exact List.mem_append_right _ h8
        · exact List.mem_append_left _ h8
      rw [← sc_rot nC hp]
      exact h (V ++ U) (by simp) p hp'
    · exact h L (List.mem_append_right _ (List.mem_cons_of_mem _ h9))
theorem beside (hn : L.Nodup) (hr : r ∈ L) (hne : r ≠ r') (e : sc L r = r') : (∃ X Y, L = X ++ r :: r' :: Y) ∨ ∃ Z, L = r' :: (Z ++ [r]) := by
  obtain ⟨X, Y, rfl⟩ := List.append_of_mem hr
  have h1 := nd_mid hn
  rw [sc_hd h1.1] at e
  cases Y with
  | cons q Y =>
    have e : q = r' := e
    subst e
    exact Or.inl ⟨X, Y, rfl⟩
  | nil =>
    cases X with
    | nil => exact absurd e hne
    | cons a X =>
      have e : a = r' := e
      subst e
      exact Or.inr ⟨X, rfl⟩
theorem flr_no (h1 : r ∉ L) (h2 : r' ∉ L) : flr r r' L = L := by
  refine List.filter_eq_self.mpr (fun a ha => ?_)
  rw [decide_eq_true (show a ≠ r from fun e => h1 (by rw [← e]; exact ha)), decide_eq_true (show a ≠ r' from fun e => h2 (by rw [← e]; exact ha))]
  rfl
theorem flr_app : flr r r' (U ++ V) = flr r r' U ++ flr r r' V := List.filter_append ..
theorem flr_1 : flr r r' (r :: L) = flr r r' L := by
  unfold flr
  rw [List.filter_cons_of_neg]
  simp
theorem flr_2 : flr r r' (r' :: L) = flr r r' L := by
  unfold flr
  rw [List.filter_cons_of_neg]
  simp
theorem put2 (hn1 : (Pre ++ (X ++ p :: r :: r' :: Y) :: Post).flatten.Nodup) (hg : gin g (Pre ++ (X ++ p :: r :: r' :: Y) :: Post).flatten) (h : shP S g (Pre ++ (X ++ p :: Y) :: Post)) : shP (np_putBehind (np_putBehind S (g p) (g r)) (g r) (g r')) g (Pre ++ (X ++ p :: r :: r' :: Y) :: Post) := by
  have sl : (Pre ++ (X ++ p :: r :: Y) :: Post).flatten.Sublist (Pre ++ (X ++ p :: r :: r' :: Y) :: Post).flatten := by
    rw [List.flatten_append, List.flatten_cons, List.flatten_append, List.flatten_cons]
    refine List.Sublist.append (List.Sublist.refl _) (List.Sublist.append (List.Sublist.append (List.Sublist.refl _) ?_) (List.Sublist.refl _))
    exact List.Sublist.cons₂ _ (List.Sublist.cons₂ _ (List.sublist_cons_self _ _))
  have h1 := shP_put1 (List.Sublist.nodup sl hn1) (gin_sub hg (fun a ha => sl.subset ha)) h
  have e1 : X ++ p :: r :: Y = (X ++ [p]) ++ r :: Y := by simp
  have e2 : X ++ p :: r :: r' :: Y = (X ++ [p]) ++ r :: r' :: Y := by simp
  rw [e1] at h1
  rw [e2] at hn1 hg ⊢
  exact shP_put1 hn1 hg h1
theorem putE (hn1 : (Pre ++ [r, r'] :: Post).flatten.Nodup) (hg : gin g (Pre ++ [r, r'] :: Post).flatten) (h : shP S g (Pre ++ [] :: Post)) : shP (np_putBehind (nl S (g r) (g r)) (g r) (g r')) g (Pre ++ [r, r'] :: Post) := by
  have sl : (Pre ++ [r] :: Post).flatten.Sublist (Pre ++ [r, r'] :: Post).flatten := by
    rw [List.flatten_append, List.flatten_cons, List.flatten_append, List.flatten_cons]
    refine List.Sublist.append (List.Sublist.refl _) (List.Sublist.append ?_ (List.Sublist.refl _))
    exact List.Sublist.cons₂ _ (List.sublist_cons_self _ _)
  have h1 := shP_nil (List.Sublist.nodup sl hn1) (gin_sub hg (fun a ha => sl.subset ha)) h
  exact shP_put1 (X := []) (Y := []) hn1 hg h1
/-- a pair that was taken out comes back -/
theorem rput (hn : A.flatten.Nodup) (hb : bsA A r r') (hne : r ≠ r') (hg : gin g A.flatten) : ∃ af, ((∃ p, p ∈ (flA r r' A).flatten ∧ bsA A p r ∧ af = some (g p)) ∨ af = none ∧ 0 < cirs (flA r r' A)) ∧ ∀ T : ow_NT, shP T.2.2.1 g (flA r r' A) → cirs (flA r r' A) = T.2.1 → shP (nt_pair T af (g r) (g r')).2.2.1 g A ∧ cirs A = (nt_pair T af (g r) (g r')).2.1 := by
  obtain ⟨L, hL, hr, e⟩ := hb
  have nL := L_nd hn hL
  have hr' : r' ∈ L := by rw [← e]; exact sc_in hr nL
  obtain ⟨Pre, Post, rfl⟩ := List.append_of_mem hL
  have rest : ∀ B : rn_L, (∀ K, K ∈ B → K ∈ Pre ∨ K ∈ Post) → B.map (flr r r') = B := fun B hB => (List.map_congr_left (fun K hK => flr_no (fun h9 => dj_L hn (hB K hK) h9 hr rfl) (fun h9 => dj_L hn (hB K hK) h9 hr' rfl))).trans (List.map_id _)
  have eF : flA r r' (Pre ++ L :: Post) = Pre ++ flr r r' L :: Post := by
    unfold flA
    rw [List.map_append, List.map_cons, rest Pre (fun K h => Or.inl h), rest Post (fun K h => Or.inr h)]
  rw [eF]
  have pm : ∀ {U V : List vT}, L = U ++ V → (Pre ++ (V ++ U) :: Post).flatten.Perm (Pre ++ L :: Post).flatten := by
    intro U V e9
    rw [e9, List.flatten_append, List.flatten_append, List.flatten_cons, List.flatten_cons]
    exact List.Perm.append_left _ (List.Perm.append_right _ List.perm_append_comm)
  have ne : L ≠ [] := fun h9 => by rw [h9] at hr; cases hr
  have main1 : ∀ (U V X Y : List vT) (p : vT), L = U ++ V → V ++ U = X ++ p :: r :: r' :: Y → flr r r' L = X ++ p :: Y → ∃ af, ((∃ p, p ∈ (Pre ++ flr r r' L :: Post).flatten ∧ bsA (Pre ++ L :: Post) p r ∧ af = some (g p)) ∨ af = none ∧ 0 < cirs (Pre ++ flr r r' L :: Post)) ∧ ∀ T : ow_NT, shP T.2.2.1 g (Pre ++ flr r r' L :: Post) → cirs (Pre ++ flr r r' L :: Post) = T.2.1 → shP (nt_pair T af (g r) (g r')).2.2.1 g (Pre ++ L :: Post) ∧ cirs (Pre ++ L :: Post) = (nt_pair T af (g r) (g r')).2.1 := by
    intro U V X Y p e1 e2 e3
    have q := pm e1
    have n1 := q.nodup_iff.mpr hn
    have g1 : gin g (Pre ++ (V ++ U) :: Post).flatten := gin_sub hg (fun a ha => q.mem_iff.mp ha)
    have nVU : (V ++ U).Nodup := L_nd n1 (by simp)
    rw [e2] at n1 g1
    have hp : p ∈ V ++ U := by rw [e2]; simp
    refine ⟨some (g p), Or.inl ⟨p, ?_, ⟨L, by simp, ?_, ?_⟩, rfl⟩, fun T hS hC => ⟨?_, ?_⟩⟩
    · rw [e3]
      exact List.mem_flatten.mpr ⟨X ++ p :: Y, by simp, by simp⟩
    · rw [e1]
      rcases List.mem_append.mp hp with h8 | h8
      · exact List.mem_append_right _ h8
      · exact List.mem_append_left _ h8
    · rw [e1, sc_rot nVU hp, e2]
      rw [e2] at nVU
      exact sc_mid (nd_mid nVU).1
    · rw [e3] at hS
      have hs := put2 n1 g1 hS
      rw [← e2] at hs
      have := shP_rot (S := (nt_pair T (some (g p)) (g r) (g r')).2.2.1) (by rw [← e1]; exact hn) hs
      rw [← e1] at this
      exact this
    · show _ = T.2.1
      rw [← hC, cirs_app2, cirs_app2, cirs_ne ne, cirs_ne (by rw [e3]; simp)]
  have main2 : ∀ (U V : List vT), L = U ++ V → V ++ U = [r, r'] → flr r r' L = [] → ∃ af, ((∃ p, p ∈ (Pre ++ flr r r' L :: Post).flatten ∧ bsA (Pre ++ L :: Post) p r ∧ af = some (g p)) ∨ af = none ∧ 0 < cirs (Pre ++ flr r r' L :: Post)) ∧ ∀ T : ow_NT, shP T.2.2.1 g (Pre ++ flr r r' L :: Post) → cirs (Pre ++ flr r r' L :: Post) = T.2.1 → shP (nt_pair T af (g r) (g r')).2.2.1 g (Pre ++ L :: Post) ∧ cirs (Pre ++ L :: Post) = (nt_pair T af (g r) (g r')).2.1 := by
    intro U V e1 e2 e3
    have q := pm e1
    have n1 := q.nodup_iff.mpr hn
    have g1 : gin g (Pre ++ (V ++ U) :: Post).flatten := gin_sub hg (fun a ha => q.mem_iff.mp ha)
    rw [e3]
    rw [e2] at n1 g1
    have hc1 : cirs (Pre ++ [] :: Post) = cirs (Pre ++ L :: Post) + 1 := by
      rw [cirs_app2, cirs_app2, cirs_ne ne, cirs_cons, if_pos rfl]
      omega
    refine ⟨none, Or.inr ⟨rfl, by omega⟩, fun T hS hC => ⟨?_, ?_⟩⟩
    · have hs := putE n1 g1 hS
      rw [← e2] at hs
      have := shP_rot (S := (nt_pair T none (g r) (g r')).2.2.1) (by rw [← e1]; exact hn) hs
      rw [← e1] at this
      exact this
    · show _ = T.2.1 - 1
      omega
  rcases beside nL hr hne e with ⟨X, Y, hXY⟩ | ⟨Z, hZ⟩
  · have nx : (X ++ r :: r' :: Y).Nodup := by rw [← hXY]; exact nL
    have m1 := nd_mid nx
    have m2 := nd_mid (X := X ++ [r]) (Y := Y) (p := r') (by simpa using nx)
    have eL : flr r r' L = X ++ Y := by
      rw [hXY, flr_app, flr_1, flr_2, flr_no m1.1 (fun h9 => m2.1 (List.mem_append_left _ h9)), flr_no (fun h9 => m1.2 (List.mem_cons_of_mem _ h9)) m2.2]
    rcases List.eq_nil_or_concat X with h9 | ⟨X', p, h9⟩
    · rcases List.eq_nil_or_concat Y with h8 | ⟨Y', p, h8⟩
      · rw [h9, h8] at hXY eL
        exact main2 [] [r, r'] hXY rfl eL
      · rw [h9, h8, List.concat_eq_append] at hXY eL
        exact main1 [r, r'] (Y' ++ [p]) Y' [] p hXY (by simp) eL
    · rw [h9, List.concat_eq_append] at hXY eL
      exact main1 [] L X' Y p rfl (by rw [hXY]; simp) (by rw [eL]; simp)
  · have nx : (r' :: (Z ++ [r])).Nodup := by rw [← hZ]; exact nL
    have n2 := List.nodup_cons.mp nx
    have m1 := nd_mid n2.2
    have eL : flr r r' L = Z := by
      rw [hZ, flr_2, flr_app, flr_1, flr_no m1.1 (fun h9 => n2.1 (List.mem_append_left _ h9))]
      exact List.append_nil _
    rcases List.eq_nil_or_concat Z with h9 | ⟨Z', p, h9⟩
    · rw [h9] at hZ eL
      exact main2 [r'] [r] hZ rfl eL
    · rw [h9, List.concat_eq_append] at hZ eL
      exact main1 [r'] ((Z' ++ [p]) ++ [r]) Z' [] p hZ (by simp) eL
/-! what was put in is taken out -/
theorem fl_ins (hP : ∀ q, q ∈ P → b q = false) : ∀ L : List vT, (insL p P L).filter b = L.filter b
  | [] => rfl
  | a :: L => by
    have ih := fl_ins hP L
    have e : insL p P (a :: L) = (if a = p then a :: P else [a]) ++ insL p P L := rfl
    rw [e, List.filter_append, ih]
    by_cases q : a = p
    · rw [if_pos q]
      have hN : P.filter b = [] := List.filter_eq_nil_iff.mpr (fun x hx => by rw [hP x hx]; decide)
      by_cases h9 : b a = true
      · rw [List.filter_cons_of_pos h9, List.filter_cons_of_pos h9, hN]
        rfl
      · rw [List.filter_cons_of_neg h9, List.filter_cons_of_neg h9, hN]
        rfl
    · rw [if_neg q]
      by_cases h9 : b a = true
      · rw [List.filter_cons_of_pos h9, List.filter_cons_of_pos h9]
        rfl
      · rw [List.filter_cons_of_neg h9, List.filter_cons_of_neg h9]
        rfl
theorem flA_ins (hP : ∀ q, q ∈ P → b q = false) : (insV A p P).map (List.filter b) = A.map (List.filter b) := by
  unfold insV
  rw [List.map_map]
  exact List.map_congr_left (fun L _ => fl_ins hP L)
theorem flA_set (hi : A[i]? = some []) (hP : ∀ q, q ∈ P → b q = false) : (A.set i P).map (List.filter b) = A.map (List.filter b) := by
  obtain ⟨Pre, Post, e1, e2⟩ := set_at hi
  rw [e2, e1, List.map_append, List.map_append, List.map_cons, List.map_cons]
  have hN : P.filter b = [] := List.filter_eq_nil_iff.mpr (fun x hx => by rw [hP x hx]; decide)
  rw [hN]
  rfl
theorem flA_id (h : ∀ q, q ∈ A.flatten → b q = true) : A.map (List.filter b) = A := (List.map_congr_left (fun L hL => List.filter_eq_self.mpr (fun q hq => h q (List.mem_flatten.mpr ⟨L, hL, hq⟩)))).trans (List.map_id _)
/-! who stands beside whom -/
theorem bs_ins (hn : A.flatten.Nodup) (hp : p ∈ A.flatten) (hn1 : (insV A p [s, s']).flatten.Nodup) (hb : bsA A r r') (hne : r ≠ p) : bsA (insV A p [s, s']) r r' := by
  obtain ⟨L, hL, hr, e⟩ := hb
  obtain ⟨Pre, X, Y, Post, rfl, e9⟩ := insV_at hn hp
  rw [e9] at hn1 ⊢
  rcases List.mem_append.mp hL with h9 | h9
  · exact ⟨L, List.mem_append_left _ h9, hr, e⟩
  · rcases List.mem_cons.mp h9 with h9 | h9
    · rw [h9] at hr e
      have n1 : (X ++ p :: ([s, s'] ++ Y)).Nodup := L_nd hn1 (by simp)
      have n1 : ((X ++ [p]) ++ s :: s' :: Y).Nodup := by simpa using n1
      have hs : s ∉ X ++ p :: Y ∧ s' ∉ X ++ p :: Y := by
        have m1 := nd_mid n1
        have m2 := nd_mid (X := X ++ [p] ++ [s]) (Y := Y) (p := s') (by simpa using n1)
        constructor
        · intro h8
          rcases List.mem_append.mp h8 with h7 | h7
          · exact m1.1 (List.mem_append_left _ h7)
          · rcases List.mem_cons.mp h7 with h7 | h7
            · exact m1.1 (by rw [h7]; simp)
            · exact m1.2 (List.mem_cons_of_mem _ h7)
        · intro h8
          rcases List.mem_append.mp h8 with h7 | h7
          · exact m2.1 (by simp [h7])
          · rcases List.mem_cons.mp h7 with h7 | h7
            · exact m2.1 (by simp [h7])
            · exact m2.2 h7
      have r1 : r ≠ s := fun h8 => hs.1 (by rw [← h8]; exact hr)
      have r2 : r ≠ s' := fun h8 => hs.2 (by rw [← h8]; exact hr)
      have hr2 : r ∈ X ++ p :: s :: Y := by
        rcases List.mem_append.mp hr with h7 | h7
        · exact List.mem_append_left _ h7
        · rcases List.mem_cons.mp h7 with h7 | h7
          · exact absurd h7 hne
          · exact List.mem_append_right _ (List.mem_cons_of_mem _ (List.mem_cons_of_mem _ h7))
      have hr3 : r ∈ (X ++ [p]) ++ s :: s' :: Y := by
        rcases List.mem_append.mp hr with h7 | h7
        · exact List.mem_append_left _ (List.mem_append_left _ h7)
        · rcases List.mem_cons.mp h7 with h7 | h7
          · exact absurd h7 hne
          · exact List.mem_append_right _ (List.mem_cons_of_mem _ (List.mem_cons_of_mem _ h7))
      have n2 : (X ++ p :: s :: Y).Nodup := by
        have : (X ++ p :: s :: Y).Sublist ((X ++ [p]) ++ s :: s' :: Y) := by
          rw [List.append_assoc]
          exact List.Sublist.append (List.Sublist.refl _) (List.Sublist.cons₂ _ (List.Sublist.cons₂ _ (List.sublist_cons_self _ _)))
        exact this.nodup n1
      refine ⟨X ++ p :: ([s, s'] ++ Y), by simp, by simpa using hr3, ?_⟩
      have q1 := sc_put (X := X ++ [p]) (p := s) (r := s') (Y := Y) (q := r) n1 hr3
      rw [if_neg r1, if_neg r2] at q1
      have q2 := sc_put (X := X) (p := p) (r := s) (Y := Y) (q := r) n2 hr2
      rw [if_neg hne, if_neg r1] at q2
      have e7 : (X ++ [p]) ++ s :: Y = X ++ p :: s :: Y := by simp
      have e8 : X ++ p :: ([s, s'] ++ Y) = (X ++ [p]) ++ s :: s' :: Y := by simp
      rw [e8, q1, e7, q2, e]
    · exact ⟨L, List.mem_append_right _ (List.mem_cons_of_mem _ h9), hr, e⟩
theorem bs_new {P1 P2 : List vT} (hn : A.flatten.Nodup) (hp : p ∈ A.flatten) (hn1 : (insV A p (P1 ++ s :: s' :: P2)).flatten.Nodup) : bsA (insV A p (P1 ++ s :: s' :: P2)) s s' := by
  obtain ⟨Pre, X, Y, Post, rfl, e9⟩ := insV_at hn hp
  rw [e9] at hn1 ⊢
  have n1 : (X ++ p :: (P1 ++ s :: s' :: P2 ++ Y)).Nodup := L_nd hn1 (by simp)
  have e8 : X ++ p :: (P1 ++ s :: s' :: P2 ++ Y) = (X ++ p :: P1) ++ s :: s' :: (P2 ++ Y) := by simp
  refine ⟨_, List.mem_append_right _ List.mem_cons_self, by simp, ?_⟩
  rw [e8] at n1 ⊢
  exact sc_mid (nd_mid n1).1
theorem bs_set (hi : A[i]? = some []) (hb : bsA A r r') : bsA (A.set i P) r r' := by
  obtain ⟨L, hL, hr, e⟩ := hb
  obtain ⟨Pre, Post, e1, e2⟩ := set_at hi
  rw [e2]
  rw [e1] at hL
  rcases List.mem_append.mp hL with h9 | h9
  · exact ⟨L, List.mem_append_left _ h9, hr, e⟩
  · rcases List.mem_cons.mp h9 with h9 | h9
    · rw [h9] at hr
      cases hr
    · exact ⟨L, List.mem_append_right _ (List.mem_cons_of_mem _ h9), hr, e⟩
theorem bs_setn {P1 P2 : List vT} (hi : A[i]? = some []) (hn : (P1 ++ s :: s' :: P2).Nodup) : bsA (A.set i (P1 ++ s :: s' :: P2)) s s' := by
  obtain ⟨Pre, Post, e1, e2⟩ := set_at hi
  rw [e2]
  exact ⟨_, List.mem_append_right _ List.mem_cons_self, by simp, sc_mid (nd_mid hn).1⟩
end XTB
end
section
/-! 99zzzzzzzzzzzz.xtb2 -/
/-! moves are taken back: kinds 0 and 1 -/
/-- a move of the kind leads from the net back to the list -/
def tBk (kd : Nat) (A : rn_L) (sg : Nat → Bool) (R : ow_NT) : Prop := ∃ j, j < mv_cnt R.1 kd ∧ ∀ (F P : Nat → Int32) (Q : ow_NT), mv_mk kd R F P → ow_b24 Q.2.2.1 → mv_B kd j Q R F P = true ∧ ∃ f, isoV A sg f (mv_T kd j Q R F P)
section XTB2
variable {A A' : rn_L} {sg sg' : Nat → Bool} {R RB Q : ow_NT} {f : Nat → Nat} {c g : Nat} {r r' : vT} {P : List vT}
theorem bs_nx (h : isoV A sg f R) (hb : bsA A r r') : R.2.2.1.1 (gl f r) = gl f r' := by
  obtain ⟨L, hL, hr, e⟩ := hb
  rw [(h.2 L hL r hr).1, e]
theorem bs_mem (hn : A.flatten.Nodup) (hb : bsA A r r') : r ∈ A.flatten ∧ r' ∈ A.flatten := by
  obtain ⟨L, hL, hr, e⟩ := hb
  refine ⟨List.mem_flatten.mpr ⟨L, hL, hr⟩, List.mem_flatten.mpr ⟨L, hL, ?_⟩⟩
  rw [← e]
  exact sc_in hr (L_nd hn hL)
theorem bs_v (hn : A.flatten.Nodup) {v : Nat} (hv : v < A.flatten.length) : bsA A (vAt A v) (vAt A (rn_nx A v)) := by
  obtain ⟨L, h1, h2, h3⟩ := nx_sc A hn v hv
  exact ⟨L, h1, h2, h3.symm⟩
theorem bld1 (hn : A.flatten.Nodup) (hg : isG A g) : (∃ p, p ∈ A.flatten ∧ bldA A (insG g 1000 P []) = insV A p P) ∨ ∃ i : Nat, A[i]? = some [] ∧ bldA A (insG g 1000 P []) = A.set i P := by
  rw [insG_1]
  rcases isG_c hg with h | ⟨i, rfl, hi⟩
  · exact Or.inl ⟨vAt A g, vAt_mem h, by rw [b_V2 hn h, List.append_nil]⟩
  · exact Or.inr ⟨i, hi, by rw [b_E2 hi, List.append_nil]⟩
/-- what kind 1 makes, kind 0 takes back -/
theorem tb_10 (hok : okF A.flatten c) (hO : OM A sg c 1 A' sg') (hV : isoV A' sg' f RB) : tBk 0 A sg RB := by
  obtain ⟨hc, g, k, hg, hk, e1, e2⟩ := hO
  have hn := hok.1
  have nB := hV.1.1.1
  have hu : ∀ p, p ∈ A'.flatten → p.2 < 2 := fun p hp => (hV.1.1.2 p hp).2.1
  have k2 : k % 2 < 2 := by omega
  have nP : (([] : List vT) ++ ((c, k % 2) : vT) :: (c, 1 - k % 2) :: []).Nodup := by
    refine List.nodup_cons.mpr ⟨fun h => ?_, List.nodup_cons.mpr ⟨List.not_mem_nil, List.nodup_nil⟩⟩
    have := congrArg Prod.snd (List.mem_singleton.mp h)
    have this : k % 2 = 1 - k % 2 := this
    omega
  have hfalse : ∀ q, q ∈ [((c, k % 2) : vT), (c, 1 - k % 2)] → (decide (q.1 ≠ c) && decide (q.1 ≠ c)) = false := by
    intro q hq
    have : q.1 = c := by
      rcases List.mem_cons.mp hq with h | h
      · rw [h]
      · rw [List.mem_singleton.mp h]
    rw [decide_eq_false (fun h => h this)]
    rfl
  have hid : A.map (List.filter (fun q : vT => decide (q.1 ≠ c) && decide (q.1 ≠ c))) = A := flA_id (fun q hq => by
    have := ((hok.2 q).mp hq).1
    rw [decide_eq_true (show q.1 ≠ c by omega)]
    rfl)
  have key : bsA A' (c, k % 2) (c, 1 - k % 2) ∧ woA c c A' = A := by
    rcases bld1 (P := [(c, k % 2), (c, 1 - k % 2)]) hn hg with ⟨p, hp, e9⟩ | ⟨i, hi, e9⟩
    · rw [e9] at e1
      rw [e1] at nB ⊢
      exact ⟨bs_new (P1 := []) (P2 := []) hn hp nB, (flA_ins hfalse).trans hid⟩
    · rw [e9] at e1
      rw [e1]
      exact ⟨bs_setn (P1 := []) (P2 := []) hi nP, (flA_set hi hfalse).trans hid⟩
  obtain ⟨kb, kw⟩ := key
  obtain ⟨m1, m2⟩ := bs_mem nB kb
  have m0 : ((c, 0) : vT) ∈ A'.flatten := by
    rcases (show k % 2 = 0 ∨ k % 2 = 1 by omega) with e | e
    · rw [e] at m1
      exact m1
    · rw [e] at m2
      exact m2
  have nx := bs_nx hV kb
  have hx : f c < RB.1 := hV.1.2.2.2.1 _ m0
  have nx : RB.2.2.1.1 (2 * f c + k % 2) = 2 * f c + (1 - k % 2) := nx
  have hB : mv_bs RB.2.2.1.1 (2 * f c) (2 * f c + 1) = true := by
    unfold mv_bs
    rw [Bool.or_eq_true, decide_eq_true_iff, decide_eq_true_iff]
    rcases (show k % 2 = 0 ∨ k % 2 = 1 by omega) with e | e <;> rw [e] at nx
    · exact Or.inl nx
    · exact Or.inr nx
  refine ⟨f c, hx, fun F P Q hmk hQ => ⟨hB, ?_⟩⟩
  obtain ⟨f', j1, -⟩ := iso_rm (isoV_cpy (Q := Q) hV) m0
  refine ⟨f', ?_⟩
  show isoV A sg f' (mv_t0 Q RB (f c))
  unfold mv_t0
  rw [if_pos hB]
  have ew : wox A' c = A := by
    rw [← kw, woA_wox hu c, wox_no (fun p hp => ((wox_mem hu).mp hp).2)]
  rw [ew] at j1
  refine isoV_sg j1 (fun p hp => ?_)
  have := ((hok.2 p).mp hp).1
  rw [e2]
  exact (if_neg (by omega)).symm
theorem flA_woA {x u : Nat} (hu2 : u < 2) (hu : ∀ p, p ∈ A.flatten → p.2 < 2) : flA (x, u) (x, 1 - u) A = woA x x A := by
  unfold flA woA
  refine List.map_congr_left (fun L hL => List.filter_congr (fun p hp => ?_))
  have h2 := hu p (List.mem_flatten.mpr ⟨L, hL, hp⟩)
  rw [Bool.eq_iff_iff]
  simp only [Bool.and_eq_true, decide_eq_true_iff]
  constructor
  · rintro ⟨g1, g2⟩
    have : p.1 ≠ x := fun e => by
      rcases (show p.2 = u ∨ p.2 = 1 - u by omega) with e2 | e2
      · exact g1 (Prod.ext e e2)
      · exact g2 (Prod.ext e e2)
    exact ⟨this, this⟩
  · rintro ⟨g1, -⟩
    exact ⟨fun e => g1 (by rw [e]), fun e => g1 (by rw [e])⟩
/-- what kind 0 takes away, kind 1 puts back -/
theorem tb_01 (hR : isoV A sg idN R) (hO : OM A sg R.1 0 A' sg') (hV : isoV A' sg' f RB) : tBk 1 A sg RB := by
  obtain ⟨rfl, v, hv, e, e1⟩ := hO
  have hok := isoV_ok hR
  have hn := hok.1
  have hc0 := hR.1.2.2.1
  have hu : ∀ p, p ∈ A.flatten → p.2 < 2 := fun p hp => ((hok.2 p).mp hp).2
  have hb := bs_v hn hv
  rw [e, vAt_mtf hR.1.1 hv] at hb
  obtain ⟨x, hx⟩ : ∃ x, x = (vAt A v).1 := ⟨_, rfl⟩
  obtain ⟨u, hu9⟩ : ∃ u, u = (vAt A v).2 := ⟨_, rfl⟩
  have ev : vAt A v = (x, u) := by rw [hx, hu9]
  rw [ev] at hb
  have hb : bsA A (x, u) (x, 1 - u) := hb
  have hxu := (hok.2 _).mp (vAt_mem hv)
  rw [ev] at hxu
  have hxc : x < R.1 := hxu.1
  have hu2 : u < 2 := hxu.2
  have ecx : crs A v = x := hx.symm
  rw [ecx] at e1
  have eF := flA_woA (A := A) (x := x) hu2 hu
  have m0 : ((x, 0) : vT) ∈ A.flatten := (hok.2 _).mpr ⟨hxc, by show 0 < 2; omega⟩
  -- how many crossings are left
  have hlen : RB.1 + 1 = R.1 := by
    obtain ⟨f', j1, -⟩ := iso_rm hR m0
    have ew : wox A x = A' := by
      rw [e1, woA_wox hu x, wox_no (fun p hp => ((wox_mem hu).mp hp).2)]
    rw [ew] at j1
    have l1 := j1.1.2.1
    have l2 := hV.1.2.1
    have l1 : A'.flatten.length = 2 * (R.1 - 1) := l1
    omega
  have memA : ∀ {p : vT}, p ∈ A.flatten → p.1 ≠ x → p ∈ A'.flatten := fun {p} hp hne => by
    rw [e1, woA_fl, List.mem_filter]
    refine ⟨hp, ?_⟩
    rw [decide_eq_true hne]
    rfl
  have memB : ∀ {p : vT}, p ∈ A'.flatten → p.1 ≠ x := fun {p} hp => by
    rw [e1, woA_fl, List.mem_filter] at hp
    exact of_decide_eq_true (Bool.and_eq_true_iff.mp hp.2).1
  obtain ⟨f1, hf1⟩ : ∃ f1 : Nat → Nat, f1 = fun y => if y = x then RB.1 else f y := ⟨_, rfl⟩
  have f1x : f1 x = RB.1 := by rw [hf1]; exact if_pos rfl
  have f1n : ∀ {y : Nat}, y ≠ x → f1 y = f y := fun h => by rw [hf1]; exact if_neg h
  have flt : ∀ {y : Nat}, y < R.1 → y ≠ x → f y < RB.1 := fun {y} h1 h2 => hV.1.2.2.2.1 (y, 0) (memA ((hok.2 _).mpr ⟨h1, by show 0 < 2; omega⟩) h2)
  have finj : ∀ y z, y < RB.1 + 1 → z < RB.1 + 1 → f1 y = f1 z → y = z := by
    intro y z hy hz h9
    by_cases ey : y = x
    · by_cases ez : z = x
      · rw [ey, ez]
      · rw [ey, f1x, f1n ez] at h9
        have := flt (y := z) (by omega) ez
        omega
    · by_cases ez : z = x
      · rw [ez, f1x, f1n ey] at h9
        have := flt (y := y) (by omega) ey
        omega
      · rw [f1n ey, f1n ez] at h9
        exact hV.1.2.2.2.2.1 (y, 0) (z, 0) (memA ((hok.2 _).mpr ⟨by show y < R.1; omega, by show 0 < 2; omega⟩) ey) (memA ((hok.2 _).mpr ⟨by show z < R.1; omega, by show 0 < 2; omega⟩) ez) h9
  have hgin : gin (gl f1) A.flatten := by
    intro p q hp hq e9
    have h1 := (hok.2 p).mp hp
    have h2 := (hok.2 q).mp hq
    have e9 : 2 * f1 p.1 + p.2 = 2 * f1 q.1 + q.2 := e9
    exact Prod.ext (finj _ _ (by omega) (by omega) (by omega)) (by omega)
  have hne : ((x, u) : vT) ≠ (x, 1 - u) := fun h9 => by
    have := congrArg Prod.snd h9
    have this : u = 1 - u := this
    omega
  obtain ⟨ch, hch⟩ : ∃ ch : Nat, ch = u + 2 * (if sg' x then 1 else 0) := ⟨_, rfl⟩
  have ch4 : ch < 4 := by rw [hch]; split <;> omega
  have ch2 : ch % 2 = u := by rw [hch]; omega
  have chs : mv_sg ch < 0 ↔ sg' x = true := by
    rw [hch]
    unfold mv_sg
    rcases (show u = 0 ∨ u = 1 by omega) with e | e <;> rw [e] <;> cases sg' x <;> decide
  have hS0 : ∀ Q : ow_NT, shP (nt_add (nt_copy Q RB) (mv_sg ch)).2.2.1 (gl f1) (flA (x, u) (x, 1 - u) A) := fun Q => by
    rw [eF, ← e1]
    exact shP_gcg hV.1.1.1 (fun p hp => by
      show 2 * f1 p.1 + p.2 = 2 * f p.1 + p.2
      rw [f1n (memB hp)]) (isoV_cpy (Q := Q) hV).2
  have hC0 : cirs (flA (x, u) (x, 1 - u) A) = RB.2.1 := by
    rw [eF, ← e1]
    exact hV.1.2.2.2.2.2.2.2
  have gr : gl f1 (x, u) = 2 * RB.1 + ch % 2 := by
    show 2 * f1 x + u = _
    rw [f1x, ch2]
  have gr' : gl f1 (x, 1 - u) = mt (2 * RB.1 + ch % 2) := by
    show 2 * f1 x + (1 - u) = _
    rw [f1x, ch2]
    unfold mt
    rcases (show u = 0 ∨ u = 1 by omega) with e | e <;> rw [e]
    · rw [if_pos (by omega)]
    · rw [if_neg (by omega)]
      omega
  obtain ⟨af, haf, hput⟩ := rput (g := gl f1) hn hb hne hgin
  have fin : ∀ (Q : ow_NT) (af' : Option Nat) (gap : Nat), mv_af RB gap = af' → mv_b1 RB gap = true → shP (nt_pair (nt_add (nt_copy Q RB) (mv_sg ch)) af' (gl f1 (x, u)) (gl f1 (x, 1 - u))).2.2.1 (gl f1) A → cirs A = (nt_pair (nt_add (nt_copy Q RB) (mv_sg ch)) af' (gl f1 (x, u)) (gl f1 (x, 1 - u))).2.1 → isoV A sg' f1 (mv_t1 Q RB gap ch) := by
    intro Q af' gap g1 g2 g3 g4
    unfold mv_t1
    rw [if_pos g2, g1, ← gr', ← gr]
    have hT1 : (nt_pair (nt_add (nt_copy Q RB) (mv_sg ch)) af' (gl f1 (x, u)) (gl f1 (x, 1 - u))).1 = RB.1 + 1 := by
      cases af' <;> rfl
    have hTG : (nt_pair (nt_add (nt_copy Q RB) (mv_sg ch)) af' (gl f1 (x, u)) (gl f1 (x, 1 - u))).2.2.2 = su (nt_copy Q RB).2.2.2 RB.1 (mv_sg ch) := by
      cases af' <;> rfl
    refine iso_mk (c := RB.1 + 1) (by rw [hlen]; exact hok) (by omega) hT1 (fun y hy => ?_) finj g3 (fun y hy => ?_) g4
    · by_cases ey : y = x
      · rw [ey, f1x]
        omega
      · rw [f1n ey]
        have := flt (y := y) (by omega) ey
        omega
    · rw [hTG, su_at]
      by_cases ey : y = x
      · rw [ey, f1x, if_pos rfl]
        exact chs
      · have := flt (y := y) (by omega) ey
        rw [f1n ey, if_neg (by omega)]
        exact (isoV_cpy (Q := Q) hV).1.2.2.2.2.2.2.1 (y, 0) (memA ((hok.2 _).mpr ⟨by show y < R.1; omega, by show 0 < 2; omega⟩) ey)
  obtain ⟨gap, g1, g2, g3⟩ : ∃ gap, gap < 2 * RB.1 + 1 ∧ mv_af RB gap = af ∧ mv_b1 RB gap = true := by
    rcases haf with ⟨p, hp, -, e9⟩ | ⟨e9, h9⟩
    · rw [eF, ← e1] at hp
      have hl : gl f1 p < 2 * RB.1 := by
        show 2 * f1 p.1 + p.2 < _
        rw [f1n (memB hp)]
        have h1 := hV.1.2.2.2.1 p hp
        have h2 := (hV.1.1.2 p hp).2.1
        omega
      refine ⟨gl f1 p, by omega, ?_, ?_⟩
      · unfold mv_af
        rw [if_neg (by omega), e9]
      · unfold mv_b1
        rw [decide_eq_false (show ¬ gl f1 p = 2 * RB.1 by omega)]
        rfl
    · refine ⟨2 * RB.1, by omega, ?_, ?_⟩
      · unfold mv_af
        rw [if_pos rfl, e9]
      · unfold mv_b1
        rw [decide_eq_false (show ¬ RB.2.1 = 0 by omega), Bool.and_false]
        rfl
  have hcn : mv_cnt RB.1 1 = (2 * RB.1 + 1) * 4 := if_pos (by omega)
  refine ⟨gap * 4 + ch, by rw [hcn]; omega, fun F P Q hmk hQ => ?_⟩
  show mv_b1 RB ((gap * 4 + ch) / 4) = true ∧ ∃ f, isoV A sg' f (mv_t1 Q RB ((gap * 4 + ch) / 4) ((gap * 4 + ch) % 4))
  rw [show (gap * 4 + ch) / 4 = gap by omega, show (gap * 4 + ch) % 4 = ch by omega]
  obtain ⟨s1, s2⟩ := hput (nt_add (nt_copy Q RB) (mv_sg ch)) (hS0 Q) hC0
  exact ⟨g3, f1, fin Q af gap g2 g3 s1 s2⟩
end XTB2
end
section
/-! 99zzzzzzzzzzzza.xtb3 -/
/-! moves are taken back: kinds 2 and 3 -/
section XTB3
variable {A A' : rn_L} {sg sg' : Nat → Bool} {R RB Q : ow_NT} {f : Nat → Nat} {c g h : Nat} {r r' s s' p q q' : vT} {b : vT → Bool}
theorem bld2 (hn : A.flatten.Nodup) (hg : isG A g) (hh : isG A h) (nB : (bldA A (insG g h [r, r'] [s, s'])).flatten.Nodup) (hr : r ∉ A.flatten) (hr' : r' ∉ A.flatten) (nP : [r, r', s, s'].Nodup) (hb : ∀ q, q ∈ [r, r', s, s'] → b q = false) : bsA (bldA A (insG g h [r, r'] [s, s'])) r r' ∧ bsA (bldA A (insG g h [r, r'] [s, s'])) s s' ∧ (bldA A (insG g h [r, r'] [s, s'])).map (List.filter b) = A.map (List.filter b) := by
  have hb1 : ∀ q, q ∈ [r, r'] → b q = false := fun q hq => hb q (by
    rcases List.mem_cons.mp hq with e | e
    · simp [e]
    · simp [List.mem_singleton.mp e])
  have hb2 : ∀ q, q ∈ [s, s'] → b q = false := fun q hq => hb q (by
    rcases List.mem_cons.mp hq with e | e
    · simp [e]
    · simp [List.mem_singleton.mp e])
  have nr : r ≠ r' := fun e => (List.nodup_cons.mp nP).1 (by rw [e]; simp)
  have n2 : ([] ++ r :: r' :: ([] : List vT)).Nodup := List.Sublist.nodup (show [r, r'].Sublist [r, r', s, s'] from List.Sublist.cons₂ _ (List.Sublist.cons₂ _ (List.nil_sublist _))) nP
  have n3 : ([] ++ s :: s' :: ([] : List vT)).Nodup := List.Sublist.nodup (show [s, s'].Sublist [r, r', s, s'] from List.Sublist.cons _ (List.Sublist.cons _ (List.Sublist.refl _))) nP
  have nA : (A.flatten ++ [r, r']).Nodup := List.nodup_append.mpr ⟨hn, n2, fun a ha b hb e => by
    subst e
    rcases List.mem_cons.mp hb with e | e
    · exact hr (by rw [← e]; exact ha)
    · exact hr' (by rw [← List.mem_singleton.mp e]; exact ha)⟩
  have nv9 : ∀ {v : Nat}, v < A.flatten.length → vAt A v ∉ [r, r'] := fun {v} hv h9 => by
    rcases List.mem_cons.mp h9 with e | e
    · exact hr (by rw [← e]; exact vAt_mem hv)
    · exact hr' (by rw [← List.mem_singleton.mp e]; exact vAt_mem hv)
  rcases isG_c hg with g1 | ⟨i, g1, hi⟩
  · have m1 := vAt_mem g1
    have n1 : (insV A (vAt A g) [r, r']).flatten.Nodup := (insV_pm hn m1).nodup_iff.mpr nA
    rcases isG_c hh with h1 | ⟨j, h1, hj⟩
    · by_cases e : g = h
      · subst e
        rw [b_V2 hn g1] at nB ⊢
        exact ⟨bs_new (P1 := []) (P2 := [s, s']) hn m1 nB, bs_new (P1 := [r, r']) (P2 := []) hn m1 nB, flA_ins (fun q hq => by
          rcases List.mem_append.mp hq with h9 | h9
          · exact hb1 q h9
          · exact hb2 q h9)⟩
      · rw [b_VV hn g1 h1 e (nv9 h1)] at nB ⊢
        have m2 : vAt A h ∈ (insV A (vAt A g) [r, r']).flatten := (insV_pm hn m1).mem_iff.mpr (List.mem_append_left _ (vAt_mem h1))
        exact ⟨bs_ins n1 m2 nB (bs_new (P1 := []) (P2 := []) hn m1 n1) (fun e9 => hr (by rw [e9]; exact vAt_mem h1)), bs_new (P1 := []) (P2 := []) n1 m2 nB, (flA_ins hb2).trans (flA_ins hb1)⟩
    · subst h1
      rw [b_VE hn g1 hj] at nB ⊢
      have hj2 : (insV A (vAt A g) [r, r'])[j]? = some [] := by
        rw [insV_g, hj]
        rfl
      exact ⟨bs_set hj2 (bs_new (P1 := []) (P2 := []) hn m1 n1), bs_setn (P1 := []) (P2 := []) hj2 n3, (flA_set hj2 hb2).trans (flA_ins hb1)⟩
  · subst g1
    have n1 : (A.set i [r, r']).flatten.Nodup := (setE_pm hi).nodup_iff.mpr nA
    rcases isG_c hh with h1 | ⟨j, h1, hj⟩
    · rw [b_EV hn h1 hi (nv9 h1)] at nB ⊢
      have m2 : vAt A h ∈ (A.set i [r, r']).flatten := (setE_pm hi).mem_iff.mpr (List.mem_append_left _ (vAt_mem h1))
      exact ⟨bs_ins n1 m2 nB (bs_setn (P1 := []) (P2 := []) hi n2) (fun e9 => hr (by rw [e9]; exact vAt_mem h1)), bs_new (P1 := []) (P2 := []) n1 m2 nB, (flA_ins hb2).trans (flA_set hi hb1)⟩
    · by_cases e : i = j
      · subst e
        subst h1
        rw [b_E2 hi] at nB ⊢
        exact ⟨bs_setn (P1 := []) (P2 := [s, s']) hi nP, bs_setn (P1 := [r, r']) (P2 := []) hi nP, flA_set hi (fun q hq => by
          rcases List.mem_append.mp hq with h9 | h9
          · exact hb1 q h9
          · exact hb2 q h9)⟩
      · subst h1
        rw [b_EE hi hj e] at nB ⊢
        have hj2 : (A.set i [r, r'])[j]? = some [] := by
          rw [set_g (i_lt hi), if_neg e]
          exact hj
        exact ⟨bs_set hj2 (bs_setn (P1 := []) (P2 := []) hi n2), bs_setn (P1 := []) (P2 := []) hj2 n3, (flA_set hj2 hb2).trans (flA_set hi hb1)⟩
theorem mv_bs_sy {N : Nat → Nat} {v w : Nat} : mv_bs N v w = mv_bs N w v := Bool.or_comm _ _
theorem mv_bs_of {N : Nat → Nat} {v w : Nat} (h : N v = w) : mv_bs N v w = true := by
  unfold mv_bs
  rw [decide_eq_true h]
  rfl
/-- what kind 3 makes, kind 2 takes back -/
theorem tb_32 (hok : okF A.flatten c) (hO : OM A sg c 3 A' sg') (hV : isoV A' sg' f RB) (hp : pm1 RB) : tBk 2 A sg RB := by
  obtain ⟨hc, g, h, k, hg, hh, hk, e1, e2, -⟩ := hO
  have hk8 : k < 8 := by omega
  have hn := hok.1
  have nB := hV.1.1.1
  have hu : ∀ p, p ∈ A'.flatten → p.2 < 2 := fun p hp => (hV.1.1.2 p hp).2.1
  obtain ⟨l, hl⟩ : ∃ l, l = k / 4 := ⟨_, rfl⟩
  have hl2 : l < 2 := by omega
  obtain ⟨a1, ha1⟩ : ∃ a1, a1 = if l = 0 then c + k % 2 else c + k / 2 % 2 := ⟨_, rfl⟩
  obtain ⟨b1, hb1⟩ : ∃ b1, b1 = if l = 0 then c + k / 2 % 2 else c + k % 2 := ⟨_, rfl⟩
  have ea : a1 = c ∨ a1 = c + 1 := by rw [ha1]; split <;> omega
  have eb : b1 = c ∨ b1 = c + 1 := by rw [hb1]; split <;> omega
  have eP : t3P c k = [(a1, l), (2 * c + 1 - a1, l)] := by
    unfold t3P
    rw [← hl, ha1]
    by_cases e : l = 0
    · rw [if_pos e, if_pos e]
    · rw [if_neg e, if_neg e]
  have eQ : t3Q c k = [(b1, 1 - l), (2 * c + 1 - b1, 1 - l)] := by
    unfold t3Q
    rw [← hl, hb1]
    by_cases e : l = 0
    · rw [if_pos e, if_pos e]
    · rw [if_neg e, if_neg e]
  have no : ∀ {x u : Nat}, c ≤ x → ((x, u) : vT) ∉ A.flatten := fun {x u} hx h9 => by
    have := ((hok.2 _).mp h9).1
    have this : x < c := this
    omega
  have eB : A' = bldA A (insG g h [(a1, l), (2 * c + 1 - a1, l)] [(b1, 1 - l), (2 * c + 1 - b1, 1 - l)]) := by
    rw [e1, ← eP, ← eQ]
    rfl
  have nP : [((a1, l) : vT), (2 * c + 1 - a1, l), (b1, 1 - l), (2 * c + 1 - b1, 1 - l)].Nodup := by
    have key : ∀ {x y u w : Nat}, (x ≠ y ∨ u ≠ w) → ((x, u) : vT) ≠ (y, w) := fun h9 e9 => by
      rcases h9 with h9 | h9
      · exact h9 (congrArg Prod.fst e9)
      · exact h9 (congrArg Prod.snd e9)
    simp only [List.nodup_cons, List.mem_cons, List.not_mem_nil, or_false, not_or, not_false_iff, List.nodup_nil, and_true]
    exact ⟨⟨key (Or.inl (by omega)), key (Or.inr (by omega)), key (Or.inr (by omega))⟩, ⟨key (Or.inr (by omega)), key (Or.inr (by omega))⟩, key (Or.inl (by omega))⟩
  have key := bld2 (A := A) (g := g) (h := h) (r := (a1, l)) (r' := (2 * c + 1 - a1, l)) (s := (b1, 1 - l)) (s' := (2 * c + 1 - b1, 1 - l)) (b := fun q => decide (q.1 ≠ c) && decide (q.1 ≠ c + 1)) hn hg hh (by rw [← eB]; exact nB) (no (by omega)) (no (by omega)) nP (fun q hq => by
    have : q.1 = c ∨ q.1 = c + 1 := by
      simp only [List.mem_cons, List.not_mem_nil, or_false] at hq
      rcases hq with e | e | e | e <;> rw [e] <;> show _ = c ∨ _ = c + 1 <;> omega
    rcases this with e | e
    · rw [decide_eq_false (fun h9 => h9 e)]
      rfl
    · rw [decide_eq_false (show ¬ q.1 ≠ c + 1 from fun h9 => h9 e), Bool.and_false])
  rw [← eB] at key
  obtain ⟨k1, k2, k3⟩ := key
  have kw : woA c (c + 1) A' = A := k3.trans (flA_id (fun q hq => by
    have := ((hok.2 q).mp hq).1
    rw [decide_eq_true (show q.1 ≠ c by omega), decide_eq_true (show q.1 ≠ c + 1 by omega)]
    rfl))
  have n1 := bs_nx hV k1
  have n2 := bs_nx hV k2
  have n1 : RB.2.2.1.1 (2 * f a1 + l) = 2 * f (2 * c + 1 - a1) + l := n1
  have n2 : RB.2.2.1.1 (2 * f b1 + (1 - l)) = 2 * f (2 * c + 1 - b1) + (1 - l) := n2
  have bsl : mv_bs RB.2.2.1.1 (2 * f c + l) (2 * f (c + 1) + l) = true := by
    rcases ea with e | e
    · rw [e, show 2 * c + 1 - c = c + 1 by omega] at n1
      exact mv_bs_of n1
    · rw [e, show 2 * c + 1 - (c + 1) = c by omega] at n1
      rw [mv_bs_sy]
      exact mv_bs_of n1
  have bsm : mv_bs RB.2.2.1.1 (2 * f c + (1 - l)) (2 * f (c + 1) + (1 - l)) = true := by
    rcases eb with e | e
    · rw [e, show 2 * c + 1 - c = c + 1 by omega] at n2
      exact mv_bs_of n2
    · rw [e, show 2 * c + 1 - (c + 1) = c by omega] at n2
      rw [mv_bs_sy]
      exact mv_bs_of n2
  have bs01 : mv_bs RB.2.2.1.1 (2 * f c) (2 * f (c + 1)) = true ∧ mv_bs RB.2.2.1.1 (2 * f c + 1) (2 * f (c + 1) + 1) = true := by
    rcases (show l = 0 ∨ l = 1 by omega) with e | e <;> rw [e] at bsl bsm
    · exact ⟨bsl, bsm⟩
    · exact ⟨bsm, bsl⟩
  obtain ⟨w1, w2⟩ := bs_mem nB k1
  obtain ⟨w3, w4⟩ := bs_mem nB k2
  have mem0 : ∀ x, x = c ∨ x = c + 1 → ((x, 0) : vT) ∈ A'.flatten := by
    intro x hx
    rcases (show l = 0 ∨ l = 1 by omega) with e | e
    · rw [e] at w1 w2
      by_cases e9 : x = a1
      · rw [e9]; exact w1
      · rw [show x = 2 * c + 1 - a1 by omega]; exact w2
    · rw [e] at w3 w4
      by_cases e9 : x = b1
      · rw [e9]; exact w3
      · rw [show x = 2 * c + 1 - b1 by omega]; exact w4
  have mc := mem0 c (Or.inl rfl)
  have md := mem0 (c + 1) (Or.inr rfl)
  have lc : f c < RB.1 := hV.1.2.2.2.1 _ mc
  have ld : f (c + 1) < RB.1 := hV.1.2.2.2.1 _ md
  have nfd : f c ≠ f (c + 1) := fun e9 => by
    have := hV.1.2.2.2.2.1 _ _ mc md e9
    have this : c = c + 1 := this
    omega
  have sgn : RB.2.2.2 (f c) ≠ RB.2.2.2 (f (c + 1)) := by
    have q1 := iso_sg1 hV hp mc
    have q2 := iso_sg1 hV hp md
    have q1 : RB.2.2.2 (f c) = if sg' c then -1 else 1 := q1
    have q2 : RB.2.2.2 (f (c + 1)) = if sg' (c + 1) then -1 else 1 := q2
    have t1 : sg' c = false := by rw [e2]; exact if_pos rfl
    have t2 : sg' (c + 1) = true := by
      rw [e2]
      unfold t3S
      rw [if_neg (by omega), if_pos rfl]
    rw [q1, q2, t1, t2]
    decide
  have two : ∀ (x0 y0 : Nat), (x0 = c ∧ y0 = c + 1 ∨ x0 = c + 1 ∧ y0 = c) → f y0 < f x0 → tBk 2 A sg RB := by
    intro x0 y0 hxy hlt
    have hx9 : f x0 < RB.1 := by rcases hxy with ⟨e, -⟩ | ⟨e, -⟩ <;> rw [e] <;> assumption
    have hB : mv_b2 RB (f x0) (f y0) = true := by
      unfold mv_b2 mv_pair
      rw [decide_eq_true hlt]
      rcases hxy with ⟨e, e'⟩ | ⟨e, e'⟩ <;> rw [e, e']
      · rw [bs01.1, bs01.2, decide_eq_true sgn]
        rfl
      · rw [mv_bs_sy, bs01.1, mv_bs_sy, bs01.2, decide_eq_true sgn.symm]
        rfl
    have hj : f x0 * RB.1 + f y0 < RB.1 * RB.1 := by
      have := Nat.mul_le_mul_right RB.1 (show f x0 + 1 ≤ RB.1 from hx9)
      have e9 : (f x0 + 1) * RB.1 = f x0 * RB.1 + RB.1 := Nat.succ_mul _ _
      omega
    have d1 : (f x0 * RB.1 + f y0) / RB.1 = f x0 := by
      rw [Nat.mul_comm, Nat.mul_add_div (by omega), Nat.div_eq_of_lt (by omega), Nat.add_zero]
    have d2 : (f x0 * RB.1 + f y0) % RB.1 = f y0 := by
      rw [Nat.mul_comm, Nat.mul_add_mod, Nat.mod_eq_of_lt (by omega)]
    refine ⟨f x0 * RB.1 + f y0, hj, fun F P Q hmk hQ => ?_⟩
    show mv_b2 RB ((f x0 * RB.1 + f y0) / RB.1) ((f x0 * RB.1 + f y0) % RB.1) = true ∧ ∃ f1, isoV A sg f1 (mv_t2 Q RB ((f x0 * RB.1 + f y0) / RB.1) ((f x0 * RB.1 + f y0) % RB.1))
    rw [d1, d2]
    refine ⟨hB, ?_⟩
    unfold mv_t2
    rw [if_pos hB]
    have mx : ((x0, 0) : vT) ∈ A'.flatten := mem0 x0 (by omega)
    have my : ((y0, 0) : vT) ∈ A'.flatten := mem0 y0 (by omega)
    obtain ⟨f', j1, j2⟩ := iso_rm (isoV_cpy (Q := Q) hV) mx
    have j3 := j2 y0
    have j3 : f' y0 = if f y0 = RB.1 - 1 then f x0 else f y0 := j3
    rw [if_neg (by omega)] at j3
    obtain ⟨f2, i1, -⟩ := iso_rm j1 (x0 := y0) ((wox_mem hu).mpr ⟨my, show y0 ≠ x0 by omega⟩)
    rw [j3, ← woA_wox hu y0] at i1
    have ew : woA x0 y0 A' = A := by
      rcases hxy with ⟨e, e'⟩ | ⟨e, e'⟩ <;> rw [e, e']
      · exact kw
      · rw [woA_sy]
        exact kw
    rw [ew] at i1
    refine ⟨f2, isoV_sg i1 (fun p hp => ?_)⟩
    have := ((hok.2 p).mp hp).1
    rw [e2]
    unfold t3S
    rw [if_neg (by omega), if_neg (by omega)]
  rcases Nat.lt_trichotomy (f c) (f (c + 1)) with q | q | q
  · exact two (c + 1) c (Or.inr ⟨rfl, rfl⟩) q
  · exact absurd q nfd
  · exact two c (c + 1) (Or.inl ⟨rfl, rfl⟩) q
theorem bs_uni (hn : A.flatten.Nodup) (h1 : bsA A p q) (h2 : bsA A p q') : q = q' := by
  obtain ⟨L, l1, l2, l3⟩ := h1
  obtain ⟨M, m1, m2, m3⟩ := h2
  rw [one_L hn l1 m1 l2 m2] at l3
  exact l3.symm.trans m3
theorem bs_fl9 (hn : A.flatten.Nodup) (hb : bsA A r r') (h1 : r ≠ s) (h2 : r ≠ s') (h3 : r' ≠ s) (h4 : r' ≠ s') : bsA (flA s s' A) r r' := by
  obtain ⟨L, hL, hr, e⟩ := hb
  have nL := L_nd hn hL
  refine ⟨flr s s' L, List.mem_map.mpr ⟨L, hL, rfl⟩, ?_, ?_⟩
  · refine List.mem_filter.mpr ⟨hr, ?_⟩
    rw [decide_eq_true h1, decide_eq_true h2]
    rfl
  · have e1 : flr s s' L = (L.filter (fun q => decide (q ≠ s))).filter (fun q => decide (q ≠ s')) := by
      rw [List.filter_filter]
      exact List.filter_congr (fun q _ => Bool.and_comm _ _)
    have q1 := sc_fil (L := L) (r := s) (p := r) nL hr h1
    rw [e, if_neg h3] at q1
    have q2 := sc_fil (L := L.filter (fun q => decide (q ≠ s))) (r := s') (p := r) (List.Sublist.nodup List.filter_sublist nL) (List.mem_filter.mpr ⟨hr, decide_eq_true h1⟩) h2
    rw [q1, if_neg h4] at q2
    rw [e1]
    exact q2
end XTB3
end
section
/-! 99zzzzzzzzzzzzb.xtb4 -/
/-! moves are taken back: kind 2 by kind 3 -/
section XTB4
variable {A A' : rn_L} {sg sg' : Nat → Bool} {R RB Q : ow_NT} {f : Nat → Nat}
theorem fl_two {x y : Nat} {s s' : vT} (hu : ∀ p, p ∈ A.flatten → p.2 < 2) (hs : s = (x, 1) ∧ s' = (y, 1) ∨ s = (y, 1) ∧ s' = (x, 1)) : flA (x, 0) (y, 0) (flA s s' A) = woA x y A := by
  unfold flA woA
  rw [List.map_map]
  refine List.map_congr_left (fun L hL => ?_)
  show List.filter _ (List.filter _ L) = _
  rw [List.filter_filter]
  refine List.filter_congr (fun p hp => ?_)
  have h2 := hu p (List.mem_flatten.mpr ⟨L, hL, hp⟩)
  rw [Bool.eq_iff_iff]
  simp only [Bool.and_eq_true, decide_eq_true_iff]
  have key : ∀ t : Nat, (p.1 ≠ t) ↔ (p ≠ (t, 0) ∧ p ≠ (t, 1)) := by
    intro t
    constructor
    · intro h9
      exact ⟨fun e => h9 (by rw [e]), fun e => h9 (by rw [e])⟩
    · rintro ⟨g1, g2⟩ e
      rcases (show p.2 = 0 ∨ p.2 = 1 by omega) with e2 | e2
      · exact g1 (Prod.ext e e2)
      · exact g2 (Prod.ext e e2)
  rw [key x, key y]
  rcases hs with ⟨rfl, rfl⟩ | ⟨rfl, rfl⟩
  · exact ⟨fun ⟨⟨a, b⟩, c, d⟩ => ⟨⟨a, c⟩, b, d⟩, fun ⟨⟨a, c⟩, b, d⟩ => ⟨⟨a, b⟩, c, d⟩⟩
  · exact ⟨fun ⟨⟨a, b⟩, c, d⟩ => ⟨⟨a, d⟩, b, c⟩, fun ⟨⟨a, d⟩, b, c⟩ => ⟨⟨a, b⟩, c, d⟩⟩
theorem flA_mem {s s' p : vT} : p ∈ (flA s s' A).flatten ↔ p ∈ A.flatten ∧ p ≠ s ∧ p ≠ s' := by
  have e : (flA s s' A).flatten = A.flatten.filter (fun q => decide (q ≠ s) && decide (q ≠ s')) := (List.filter_flatten).symm
  rw [e, List.mem_filter, Bool.and_eq_true, decide_eq_true_iff, decide_eq_true_iff]
/-- what kind 2 takes away, kind 3 puts back -/
theorem tb_23 (hR : isoV A sg idN R) (hO : OM A sg R.1 2 A' sg') (hV : isoV A' sg' f RB) (hp : pm1 RB) (hM : mM3 RB) (hpl : plnA A sg) : tBk 3 A sg RB := by
  obtain ⟨rfl, v, hv, ⟨t1, t2, t3, t4, t5⟩, e1⟩ := hO
  have hok := isoV_ok hR
  have hn := hok.1
  have hc0 := hR.1.2.2.1
  have hu : ∀ p, p ∈ A.flatten → p.2 < 2 := fun p hp => ((hok.2 p).mp hp).2
  have hd := wkF_ok hR.1.1
  have hvn := rn_nx_lt (A := A) hv
  obtain ⟨x, hx⟩ : ∃ x, x = crs A v := ⟨_, rfl⟩
  obtain ⟨y, hy⟩ : ∃ y, y = crs A (rn_nx A v) := ⟨_, rfl⟩
  have ev : vAt A v = (x, 0) := Prod.ext hx.symm t1
  have ew : vAt A (rn_nx A v) = (y, 0) := Prod.ext hy.symm t2
  have emv : vAt A (mtf A v) = (x, 1) := by
    rw [vAt_mtf hR.1.1 hv, ev]
    rfl
  have emw : vAt A (mtf A (rn_nx A v)) = (y, 1) := by
    rw [vAt_mtf hR.1.1 hvn, ew]
    rfl
  rw [← hx, ← hy] at t3 t4 e1
  have hov : bsA A (x, 0) (y, 0) := by
    have := bs_v hn hv
    rw [ev, ew] at this
    exact this
  obtain ⟨s, s', hs, hun⟩ : ∃ s s' : vT, (s = (x, 1) ∧ s' = (y, 1) ∨ s = (y, 1) ∧ s' = (x, 1)) ∧ bsA A s s' := by
    rcases t5 with e | e
    · have := bs_v hn (mtf_lt hd hv)
      rw [e, emv, emw] at this
      exact ⟨_, _, Or.inl ⟨rfl, rfl⟩, this⟩
    · have := bs_v hn (mtf_lt hd hvn)
      rw [e, emv, emw] at this
      exact ⟨_, _, Or.inr ⟨rfl, rfl⟩, this⟩
  have hxc : x < R.1 := ((hok.2 _).mp (by rw [← ev]; exact vAt_mem hv : ((x, 0) : vT) ∈ A.flatten)).1
  have hyc : y < R.1 := ((hok.2 _).mp (by rw [← ew]; exact vAt_mem hvn : ((y, 0) : vT) ∈ A.flatten)).1
  have s1 : s.2 = 1 ∧ s'.2 = 1 ∧ (s.1 = x ∨ s.1 = y) ∧ (s'.1 = x ∨ s'.1 = y) ∧ s ≠ s' := by
    rcases hs with ⟨rfl, rfl⟩ | ⟨rfl, rfl⟩
    · exact ⟨rfl, rfl, Or.inl rfl, Or.inr rfl, fun e9 => t3 (congrArg Prod.fst e9)⟩
    · exact ⟨rfl, rfl, Or.inr rfl, Or.inl rfl, fun e9 => t3 (congrArg Prod.fst e9).symm⟩
  have ne0 : ∀ {z : Nat} {t : vT}, t.2 = 1 → ((z, 0) : vT) ≠ t := fun {z t} h9 e9 => by
    rw [← e9] at h9
    exact absurd (show 0 = 1 from h9) (by decide)
  have eF := fl_two (A := A) (x := x) (y := y) hu hs
  have n1 : (flA s s' A).flatten.Nodup := by
    have e : (flA s s' A).flatten = A.flatten.filter (fun q => decide (q ≠ s) && decide (q ≠ s')) := (List.filter_flatten).symm
    rw [e]
    exact List.Sublist.nodup List.filter_sublist hn
  have hov1 : bsA (flA s s' A) (x, 0) (y, 0) := bs_fl9 hn hov (ne0 s1.1) (ne0 s1.2.1) (ne0 s1.1) (ne0 s1.2.1)
  have m0x : ((x, 0) : vT) ∈ A.flatten := (hok.2 _).mpr ⟨hxc, by show 0 < 2; omega⟩
  have m0y : ((y, 0) : vT) ∈ A.flatten := (hok.2 _).mpr ⟨hyc, by show 0 < 2; omega⟩
  have hlen : RB.1 + 2 = R.1 := by
    obtain ⟨f', j1, -⟩ := iso_rm hR m0x
    obtain ⟨f2, i1, -⟩ := iso_rm j1 (x0 := y) ((wox_mem hu).mpr ⟨m0y, fun e9 => t3 e9.symm⟩)
    rw [← woA_wox hu y, ← e1] at i1
    have l1 := i1.1.2.1
    have l2 := hV.1.2.1
    have l1 : A'.flatten.length = 2 * (R.1 - 1 - 1) := l1
    omega
  have memA : ∀ {p : vT}, p ∈ A.flatten → p.1 ≠ x → p.1 ≠ y → p ∈ A'.flatten := fun {p} hp h1 h2 => by
    rw [e1, woA_fl, List.mem_filter]
    refine ⟨hp, ?_⟩
    rw [decide_eq_true h1, decide_eq_true h2]
    rfl
  have memB : ∀ {p : vT}, p ∈ A'.flatten → p.1 ≠ x ∧ p.1 ≠ y := fun {p} hp => by
    rw [e1, woA_fl, List.mem_filter] at hp
    have := Bool.and_eq_true_iff.mp hp.2
    exact ⟨of_decide_eq_true this.1, of_decide_eq_true this.2⟩
  obtain ⟨f1, hf1⟩ : ∃ f1 : Nat → Nat, f1 = fun z => if z = x then RB.1 else if z = y then RB.1 + 1 else f z := ⟨_, rfl⟩
  have f1x : f1 x = RB.1 := by rw [hf1]; exact if_pos rfl
  have f1y : f1 y = RB.1 + 1 := by
    rw [hf1]
    show (if y = x then _ else _) = _
    rw [if_neg (fun e9 => t3 e9.symm), if_pos rfl]
  have f1n : ∀ {z : Nat}, z ≠ x → z ≠ y → f1 z = f z := fun {z} h1 h2 => by
    rw [hf1]
    show (if z = x then _ else _) = _
    rw [if_neg h1, if_neg h2]
  have flt : ∀ {z : Nat}, z < R.1 → z ≠ x → z ≠ y → f z < RB.1 := fun {z} h1 h2 h3 => hV.1.2.2.2.1 (z, 0) (memA ((hok.2 _).mpr ⟨h1, by show 0 < 2; omega⟩) h2 h3)
  have cas : ∀ z, z < RB.1 + 2 → z = x ∧ f1 z = RB.1 ∨ z = y ∧ f1 z = RB.1 + 1 ∨ z ≠ x ∧ z ≠ y ∧ f1 z = f z ∧ f z < RB.1 := by
    intro z hz
    by_cases ex : z = x
    · exact Or.inl ⟨ex, by rw [ex]; exact f1x⟩
    · by_cases ey : z = y
      · exact Or.inr (Or.inl ⟨ey, by rw [ey]; exact f1y⟩)
      · exact Or.inr (Or.inr ⟨ex, ey, f1n ex ey, flt (by omega) ex ey⟩)
  have finj : ∀ z w, z < RB.1 + 2 → w < RB.1 + 2 → f1 z = f1 w → z = w := by
    intro z w hz hw h9
    rcases cas z hz with ⟨a1, a2⟩ | ⟨a1, a2⟩ | ⟨a1, a2, a3, a4⟩ <;> rcases cas w hw with ⟨b1, b2⟩ | ⟨b1, b2⟩ | ⟨b1, b2, b3, b4⟩
    · rw [a1, b1]
    · omega
    · omega
    · omega
    · rw [a1, b1]
    · omega
    · omega
    · omega
    · rw [a3, b3] at h9
      exact hV.1.2.2.2.2.1 (z, 0) (w, 0) (memA ((hok.2 _).mpr ⟨by show z < R.1; omega, by show 0 < 2; omega⟩) a1 a2) (memA ((hok.2 _).mpr ⟨by show w < R.1; omega, by show 0 < 2; omega⟩) b1 b2) h9
  have hgin : gin (gl f1) A.flatten := by
    intro p q hp hq e9
    have h1 := (hok.2 p).mp hp
    have h2 := (hok.2 q).mp hq
    have e9 : 2 * f1 p.1 + p.2 = 2 * f1 q.1 + q.2 := e9
    exact Prod.ext (finj _ _ (by omega) (by omega) (by omega)) (by omega)
  have hgin1 : gin (gl f1) (flA s s' A).flatten := gin_sub hgin (fun a ha => (flA_mem.mp ha).1)
  have hne0 : ((x, 0) : vT) ≠ (y, 0) := fun e9 => t3 (congrArg Prod.fst e9)
  obtain ⟨af1, haf1, hput1⟩ := rput (g := gl f1) n1 hov1 hne0 hgin1
  obtain ⟨af2, haf2, hput2⟩ := rput (g := gl f1) hn hun s1.2.2.2.2 hgin
  rw [eF, ← e1] at haf1 hput1
  have gx : gl f1 (x, 0) = 2 * RB.1 := by
    show 2 * f1 x + 0 = _
    rw [f1x]
    omega
  have gy : gl f1 (y, 0) = 2 * RB.1 + 2 := by
    show 2 * f1 y + 0 = _
    rw [f1y]
    omega
  rw [gx, gy] at hput1
  have gA : ∀ {p : vT}, p ∈ A'.flatten → gl f1 p = gl f p ∧ gl f1 p < 2 * RB.1 := fun {p} hp => by
    obtain ⟨h1, h2⟩ := memB hp
    have h3 := hV.1.2.2.2.1 p hp
    have h4 := (hV.1.1.2 p hp).2.1
    have e9 : gl f1 p = gl f p := by
      show 2 * f1 p.1 + p.2 = 2 * f p.1 + p.2
      rw [f1n h1 h2]
    refine ⟨e9, ?_⟩
    rw [e9]
    show 2 * f p.1 + p.2 < _
    omega
  obtain ⟨c1, hc1⟩ : ∃ c1 : Nat, c1 = if sg' x then 1 else 0 := ⟨_, rfl⟩
  obtain ⟨c2, hc2⟩ : ∃ c2 : Nat, c2 = if s = (x, 1) then 0 else 1 := ⟨_, rfl⟩
  have c1l : c1 < 2 := by rw [hc1]; split <;> omega
  have c2l : c2 < 2 := by rw [hc2]; split <;> omega
  obtain ⟨ch, hch⟩ : ∃ ch : Nat, ch = c1 + 2 * c2 := ⟨_, rfl⟩
  have ch4 : ch < 4 := by omega
  have ch2 : ch % 2 = if sg' x then 1 else 0 := by rw [← hc1]; omega
  have ch3 : ch / 2 % 2 = if s = (x, 1) then 0 else 1 := by rw [← hc2]; omega
  have gss : gl f1 s = (if ch / 2 % 2 = 0 then 2 * RB.1 + 1 else 2 * RB.1 + 3) ∧ gl f1 s' = if ch / 2 % 2 = 0 then 2 * RB.1 + 3 else 2 * RB.1 + 1 := by
    rw [ch3]
    rcases hs with ⟨e, e'⟩ | ⟨e, e'⟩
    · rw [if_pos e, if_pos rfl, if_pos rfl, e, e']
      show 2 * f1 x + 1 = _ ∧ 2 * f1 y + 1 = _
      rw [f1x, f1y]
      omega
    · rw [if_neg (fun e9 => t3 (congrArg Prod.fst (e.symm.trans e9)).symm), if_neg (by decide), if_neg (by decide), e, e']
      show 2 * f1 y + 1 = _ ∧ 2 * f1 x + 1 = _
      rw [f1x, f1y]
      omega
  rw [gss.1, gss.2] at hput2
  obtain ⟨o, o1, o2, o3⟩ : ∃ o, o ≤ 2 * RB.1 ∧ mv_af RB o = af1 ∧ (o = 2 * RB.1 → af1 = none ∧ 0 < RB.2.1) := by
    rcases haf1 with ⟨p, hp, -, e9⟩ | ⟨e9, h9⟩
    · have := (gA hp).2
      refine ⟨gl f1 p, by omega, ?_, fun h8 => by omega⟩
      unfold mv_af
      rw [if_neg (by omega), e9]
    · refine ⟨2 * RB.1, Nat.le_refl _, ?_, fun _ => ⟨e9, ?_⟩⟩
      · unfold mv_af
        rw [if_pos rfl, e9]
      · rw [← hV.1.2.2.2.2.2.2.2]
        exact h9
  have hC0 : cirs A' = RB.2.1 := hV.1.2.2.2.2.2.2.2
  have hS0 : ∀ Q : ow_NT, shP (nt_add (nt_add (nt_copy Q RB) (mv_s1 ch)) (mv_s2 ch)).2.2.1 (gl f1) A' := fun Q => shP_gcg hV.1.1.1 (fun p hp => (gA hp).1) (isoV_cpy (Q := Q) hV).2
  have step1 : ∀ Q : ow_NT, shP (mv_t3a Q RB o ch).2.2.1 (gl f1) (flA s s' A) ∧ cirs (flA s s' A) = (mv_t3a Q RB o ch).2.1 := fun Q => by
    unfold mv_t3a
    rw [o2]
    exact hput1 _ (hS0 Q) hC0
  obtain ⟨u, u1, u2, u3⟩ : ∃ u, u < 2 * RB.1 + 2 ∧ mv_au RB u = af2 ∧ (u = 2 * RB.1 + 1 → 0 < cirs (flA s s' A)) := by
    rcases haf2 with ⟨p, hp, hps, e9⟩ | ⟨e9, h9⟩
    · have hp2 := flA_mem.mp hp
      have hpo := (hok.2 p).mp hp2.1
      by_cases ex : p.1 = x
      · -- the first visit over has the second one behind it
        have e2 : p.2 = 0 := by
          rcases (show p.2 = 0 ∨ p.2 = 1 by omega) with e2 | e2
          · exact e2
          · exfalso
            have ep : p = (x, 1) := Prod.ext ex e2
            rcases hs with ⟨h8, h7⟩ | ⟨h8, h7⟩
            · exact hp2.2.1 (ep.trans h8.symm)
            · exact hp2.2.2 (ep.trans h7.symm)
        have ep : p = (x, 0) := Prod.ext ex e2
        rw [ep] at hps
        have := bs_uni hn hov hps
        exact absurd this (ne0 s1.1)
      · by_cases ey : p.1 = y
        · have e2 : p.2 = 0 := by
            rcases (show p.2 = 0 ∨ p.2 = 1 by omega) with e2 | e2
            · exact e2
            · exfalso
              have ep : p = (y, 1) := Prod.ext ey e2
              rcases hs with ⟨h8, h7⟩ | ⟨h8, h7⟩
              · exact hp2.2.2 (ep.trans h7.symm)
              · exact hp2.2.1 (ep.trans h8.symm)
          have ep : p = (y, 0) := Prod.ext ey e2
          refine ⟨2 * RB.1, by omega, ?_, fun h8 => by omega⟩
          unfold mv_au
          rw [if_neg (by omega), if_pos rfl, e9, ep, gy]
        · have := (gA (memA hp2.1 ex ey)).2
          refine ⟨gl f1 p, by omega, ?_, fun h8 => by omega⟩
          unfold mv_au
          rw [if_pos this, e9]
    · refine ⟨2 * RB.1 + 1, by omega, ?_, fun _ => h9⟩
      unfold mv_au
      rw [if_neg (by omega), if_neg (by omega), e9]
  have hnd : mv_nd RB o u ≤ RB.2.1 := by
    have hA1 := (step1 RB).2
    have eT : (mv_t3a RB RB o ch).2.1 = if af1 = none then RB.2.1 - 1 else RB.2.1 := by
      unfold mv_t3a
      rw [o2]
      cases af1 <;> rfl
    rw [eT] at hA1
    unfold mv_nd
    by_cases ho : o = 2 * RB.1
    · obtain ⟨q1, q2⟩ := o3 ho
      rw [if_pos q1] at hA1
      rw [if_pos ho]
      by_cases hu9 : u = 2 * RB.1 + 1
      · have := u3 hu9
        rw [if_pos hu9]
        omega
      · rw [if_neg hu9]
        omega
    · rw [if_neg ho]
      by_cases hu9 : u = 2 * RB.1 + 1
      · have := u3 hu9
        rw [if_pos hu9]
        split at hA1 <;> omega
      · rw [if_neg hu9]
        omega
  have iso9 : ∀ Q : ow_NT, isoV A sg' f1 (mv_t3b Q RB o u ch) := fun Q => by
    obtain ⟨q1, q2⟩ := hput2 (mv_t3a Q RB o ch) (step1 Q).1 (step1 Q).2
    rw [← u2] at q1 q2
    refine iso_mk (c := RB.1 + 2) (by rw [hlen]; exact hok) (by omega) t3b_1 (fun z hz => ?_) finj q1 (fun z hz => ?_) q2
    · rcases cas z hz with ⟨-, a2⟩ | ⟨-, a2⟩ | ⟨-, -, a3, a4⟩ <;> omega
    · rw [t3b_G, su_at]
      rcases cas z hz with ⟨a1, a2⟩ | ⟨a1, a2⟩ | ⟨a1, a2, a3, a4⟩
      · rw [a2, if_neg (by omega), su_at, if_pos rfl, a1]
        unfold mv_s1
        rw [ch2]
        cases sg' x <;> decide
      · rw [a2, if_pos rfl, a1]
        unfold mv_s2
        rw [ch2]
        have t4' : sg' y = !sg' x := by
          revert t4
          cases sg' x <;> cases sg' y <;> simp
        rw [t4']
        cases sg' x <;> decide
      · rw [a3, if_neg (by omega), su_at, if_neg (by omega)]
        exact (isoV_cpy (Q := Q) hV).1.2.2.2.2.2.2.1 (z, 0) (memA ((hok.2 _).mpr ⟨by show z < R.1; omega, by show 0 < 2; omega⟩) a1 a2)
  have hcn : mv_cnt RB.1 3 = (2 * RB.1 + 1) * (2 * RB.1 + 2) * 4 := if_pos (by omega)
  refine ⟨(o * (2 * RB.1 + 2) + u) * 4 + ch, ?_, fun F P Q hmk hQ => ?_⟩
  · rw [hcn]
    have m1 := Nat.mul_le_mul_right (2 * RB.1 + 2) o1
    have m2 : (2 * RB.1 + 1) * (2 * RB.1 + 2) = 2 * RB.1 * (2 * RB.1 + 2) + (2 * RB.1 + 2) := Nat.succ_mul _ _
    generalize (2 * RB.1 + 1) * (2 * RB.1 + 2) = m3 at m2 ⊢
    generalize 2 * RB.1 * (2 * RB.1 + 2) = m4 at m1 m2
    generalize o * (2 * RB.1 + 2) = m5 at m1 ⊢
    omega
  · have d1 : ((o * (2 * RB.1 + 2) + u) * 4 + ch) / 4 = o * (2 * RB.1 + 2) + u := by omega
    have d2 : ((o * (2 * RB.1 + 2) + u) * 4 + ch) % 4 = ch := by omega
    have d3 : (o * (2 * RB.1 + 2) + u) / (2 * RB.1 + 2) = o := by
      rw [Nat.mul_comm, Nat.mul_add_div (by omega), Nat.div_eq_of_lt (by omega), Nat.add_zero]
    have d4 : (o * (2 * RB.1 + 2) + u) % (2 * RB.1 + 2) = u := by
      rw [Nat.mul_comm, Nat.mul_add_mod, Nat.mod_eq_of_lt (by omega)]
    have hi := iso9 Q
    have hpl9 : nt_plane (mv_t3b Q RB o u ch) = true := hpl _ _ hi (t3b_p hp)
    have hb3 : mv_b3 RB F P o u = true := by
      unfold mv_b3
      rw [decide_eq_true hnd, Bool.true_and]
      by_cases h1 : o < 2 * RB.1
      · by_cases h2 : u < 2 * RB.1
        · rw [hM F P Q o u ch hmk hQ (by omega) ch4 h1 h2 hpl9]
          rw [Bool.not_true, Bool.and_false, Bool.and_false]
          rfl
        · rw [decide_eq_false h2, Bool.false_and, Bool.and_false]
          rfl
      · rw [decide_eq_false h1, Bool.false_and]
        rfl
    show (mv_b3 RB F P (((o * (2 * RB.1 + 2) + u) * 4 + ch) / 4 / (2 * RB.1 + 2)) (((o * (2 * RB.1 + 2) + u) * 4 + ch) / 4 % (2 * RB.1 + 2)) && nt_plane (mv_t3b Q RB (((o * (2 * RB.1 + 2) + u) * 4 + ch) / 4 / (2 * RB.1 + 2)) (((o * (2 * RB.1 + 2) + u) * 4 + ch) / 4 % (2 * RB.1 + 2)) (((o * (2 * RB.1 + 2) + u) * 4 + ch) % 4))) = true ∧ ∃ f, isoV _ _ f (mv_t3 Q RB F P (((o * (2 * RB.1 + 2) + u) * 4 + ch) / 4 / (2 * RB.1 + 2)) (((o * (2 * RB.1 + 2) + u) * 4 + ch) / 4 % (2 * RB.1 + 2)) (((o * (2 * RB.1 + 2) + u) * 4 + ch) % 4))
    rw [d1, d2, d3, d4, hb3, hpl9]
    refine ⟨rfl, f1, ?_⟩
    unfold mv_t3
    rw [if_pos hb3]
    exact hi
end XTB4
end
section
/-! 99zzzzzzzzzzzzc.xtb5 -/
/-! moves are taken back: kind 4 -/
section XTB5
variable {A A' : rn_L} {sg sg' : Nat → Bool} {R RB Q : ow_NT} {f : Nat → Nat} {p q r r' : vT}
theorem swv_l : swv p q p = q := if_pos rfl
theorem swv_r : swv p q q = p := by
  unfold swv
  by_cases e : q = p
  · rw [if_pos e, e]
  · rw [if_neg e, if_pos rfl]
theorem swv_n (h1 : r ≠ p) (h2 : r ≠ q) : swv p q r = r := by
  unfold swv
  rw [if_neg h1, if_neg h2]
theorem swv_c : swv p q r = swv q p r := by
  unfold swv
  by_cases e1 : r = p
  · by_cases e2 : r = q
    · rw [if_pos e1, if_pos e2, ← e1, ← e2]
    · rw [if_pos e1, if_neg e2, if_pos e1]
  · by_cases e2 : r = q
    · rw [if_neg e1, if_pos e2, if_pos e2]
    · rw [if_neg e1, if_neg e2, if_neg e2, if_neg e1]
theorem map3 (f g h : vT → vT) : ((A.map (List.map f)).map (List.map g)).map (List.map h) = A.map (List.map (fun p => h (g (f p)))) := by
  simp [List.map_map, Function.comp_def]
theorem bs_map {σ : vT → vT} (hn : A.flatten.Nodup) (hi : ∀ a b, σ a = σ b → a = b) (hb : bsA A r r') : bsA (A.map (List.map σ)) (σ r) (σ r') := by
  obtain ⟨L, hL, hr, e⟩ := hb
  refine ⟨L.map σ, List.mem_map.mpr ⟨L, hL, rfl⟩, List.mem_map.mpr ⟨r, hr, rfl⟩, ?_⟩
  rw [sc_map (L_nd hn hL) (fun a b _ _ => hi a b) hr, e]
theorem bs_pv (h : isoV A sg f R) (hb : bsA A r r') : R.2.2.1.2 (gl f r') = gl f r := by
  obtain ⟨L, hL, hr, e⟩ := hb
  rw [← e]
  exact (h.2 L hL r hr).2
/-- the visits of a side -/
def s4p (A : rn_L) (t : Nat) : vT := vAt A (t / 2)
def s4q (A : rn_L) (t : Nat) : vT := vAt A (rn_nx A (t / 2))
/-- the side of the net that the move has made -/
def s4n (A : rn_L) (f : Nat → Nat) (t : Nat) : Nat := 2 * gl f (s4q A t) + (1 - t % 2)
theorem s4_e {t : Nat} : vAt A (hdv A t) = if t % 2 = 0 then s4q A t else s4p A t := by
  unfold hdv s4p s4q
  by_cases e : t % 2 = 0
  · rw [if_pos e, if_pos e]
  · rw [if_neg e, if_neg e]
/-- the sides go on as before, in the other way -/
theorem s4_on (hF : wkF A.flatten) (hV : isoV A' sg f RB) (hp : pm1 RB) (hm : ∀ {p : vT}, p ∈ A.flatten → p ∈ A'.flatten) {t : Nat} (ht : t < 2 * A.flatten.length) (h1 : bsA A' (s4q A t) (s4p A t)) (h2 : bsA A' (s4q A (phi A sg t)) (s4p A (phi A sg t))) : fc_end RB.2.2.1.1 (s4n A f t) = gl f (vAt A (hdv A t)) ∧ fc_on RB.2.2.1 RB.2.2.2 (s4n A f t) = s4n A f (phi A sg t) := by
  have hd := wkF_ok hF
  have hh := hdv_lt (A := A) ht
  have n1 := bs_nx hV h1
  have v2 := bs_pv hV h2
  have e1 : s4n A f t / 2 = gl f (s4q A t) := by unfold s4n; omega
  have e2 : s4n A f t % 2 = 1 - t % 2 := by unfold s4n; omega
  have en : fc_end RB.2.2.1.1 (s4n A f t) = gl f (vAt A (hdv A t)) := by
    unfold fc_end
    rw [e1, e2, s4_e]
    by_cases e : t % 2 = 0
    · rw [if_pos e, if_neg (by omega)]
    · rw [if_neg e, if_pos (by omega), n1]
  refine ⟨en, ?_⟩
  have hmE := hm (vAt_mem hh)
  have hu2 := (hF.2 _ (vAt_mem hh)).2.1
  have hsg := iso_sg1 hV hp hmE
  obtain ⟨E, hE⟩ : ∃ E, E = vAt A (hdv A t) := ⟨_, rfl⟩
  have hst : stG RB.2.2.2 (gl f E) = smv A sg (hdv A t) := by
    have e3 : uns A (hdv A t) = E.2 := by rw [hE]; rfl
    have e4 : crs A (hdv A t) = E.1 := by rw [hE]; rfl
    rw [← hE] at hsg hu2
    unfold smv
    rw [e3, e4]
    have e5 : stG RB.2.2.2 (gl f E) = (decide (gl f E % 2 = 0) == decide (0 < RB.2.2.2 (gl f E / 2))) := rfl
    have e6 : gl f E % 2 = E.2 := by
      show (2 * f E.1 + E.2) % 2 = _
      omega
    have e7 : gl f E / 2 = f E.1 := by
      show (2 * f E.1 + E.2) / 2 = _
      omega
    rw [e5, e6, e7, hsg]
    rcases (show E.2 = 0 ∨ E.2 = 1 by omega) with e | e <;> rw [e] <;> cases sg E.1 <;> decide
  have hmt : mt (gl f E) = gl f (E.1, 1 - E.2) := by
    rw [← hE] at hu2
    show mt (2 * f E.1 + E.2) = 2 * f E.1 + (1 - E.2)
    unfold mt
    rcases (show E.2 = 0 ∨ E.2 = 1 by omega) with e | e <;> rw [e]
    · rw [if_pos (by omega)]
    · rw [if_neg (by omega)]
      omega
  have em : vAt A (mtf A (hdv A t)) = (E.1, 1 - E.2) := by rw [vAt_mtf hF hh, hE]
  have m1 := mtf_lt hd hh
  have e0 : fc_on RB.2.2.1 RB.2.2.2 (s4n A f t) = if (stG RB.2.2.2 (fc_end RB.2.2.1.1 (s4n A f t)) == decide (s4n A f t % 2 = 0)) = true then 2 * mt (fc_end RB.2.2.1.1 (s4n A f t)) else 2 * RB.2.2.1.2 (mt (fc_end RB.2.2.1.1 (s4n A f t))) + 1 := rfl
  rw [e0, en, ← hE, hst, e2, hmt, ← em]
  have key0 : wyv A sg t = 0 → 2 * RB.2.2.1.2 (gl f (vAt A (mtf A (hdv A t)))) + 1 = s4n A f (phi A sg t) := by
    intro hw
    have ep : phi A sg t = 2 * mtf A (hdv A t) := by
      unfold phi
      rw [if_pos hw]
    have q1 : s4p A (phi A sg t) = vAt A (mtf A (hdv A t)) := by
      unfold s4p
      rw [ep, show 2 * mtf A (hdv A t) / 2 = mtf A (hdv A t) by omega]
    rw [← q1, v2]
    unfold s4n
    rw [show phi A sg t % 2 = 0 by rw [ep]; omega]
  have key1 : wyv A sg t ≠ 0 → 2 * gl f (vAt A (mtf A (hdv A t))) = s4n A f (phi A sg t) := by
    intro hw
    have ep : phi A sg t = 2 * rn_pv A (mtf A (hdv A t)) + 1 := by
      unfold phi
      rw [if_neg hw]
    have q1 : s4q A (phi A sg t) = vAt A (mtf A (hdv A t)) := by
      unfold s4q
      rw [ep, show (2 * rn_pv A (mtf A (hdv A t)) + 1) / 2 = rn_pv A (mtf A (hdv A t)) by omega, nx_pv m1]
    rw [← q1]
    unfold s4n
    rw [show phi A sg t % 2 = 1 by rw [ep]; omega]
    omega
  unfold wyv at key0 key1
  rcases (show t % 2 = 0 ∨ t % 2 = 1 by omega) with e | e <;> rw [e] at key0 key1 ⊢ <;> cases hs : smv A sg (hdv A t) <;> rw [hs] at key0 key1
  · rw [if_pos (by decide)]
    exact key1 (by decide)
  · rw [if_neg (by decide)]
    exact key0 (by decide)
  · rw [if_neg (by decide)]
    exact key0 (by decide)
  · rw [if_pos (by decide)]
    exact key1 (by decide)
/-- what kind 4 makes, kind 4 takes back -/
theorem tb_44 (hR : isoV A sg idN R) (hO : OM A sg R.1 4 A' sg') (hV : isoV A' sg' f RB) (hp : pm1 RB) : tBk 4 A sg RB := by
  obtain ⟨s, hs, rfl, b3, b4, b5, b6⟩ := hO
  have hF := hR.1.1
  have hd := wkF_ok hF
  have hn := hF.1
  have hu : ∀ p, p ∈ A.flatten → p.2 < 2 := fun p hp => (hF.2 p hp).2.1
  have main : ∀ t, t < 2 * A.flatten.length → phi A sg' (phi A sg' (phi A sg' t)) = t → t4P A t (phi A sg' t) (phi A sg' (phi A sg' t)) A' → dj3 A t (phi A sg' t) (phi A sg' (phi A sg' t)) → s4n A f t < s4n A f (phi A sg' t) → s4n A f t < s4n A f (phi A sg' (phi A sg' t)) → tBk 4 A sg' RB := by
    rintro t ht c1 ⟨c2, c3, c4⟩ dj l1 l2
    have htb := phi_lt (sg := sg') hd ht
    have htd := phi_lt (sg := sg') hd htb
    obtain ⟨u, hu9⟩ : ∃ u, u = phi A sg' t := ⟨_, rfl⟩
    obtain ⟨w, hw9⟩ : ∃ w, w = phi A sg' u := ⟨_, rfl⟩
    have c1 : phi A sg' w = t := by rw [hw9, hu9]; exact c1
    rw [← hu9] at c2 c3 c4 dj l1 l2 htb htd
    rw [← hw9] at c2 c3 c4 dj l2 htd
    have nl : ∀ {k : Nat}, k < 2 * A.flatten.length → k / 2 < A.flatten.length ∧ rn_nx A (k / 2) < A.flatten.length := fun {k} hk => ⟨by omega, rn_nx_lt (by omega)⟩
    obtain ⟨t1, t2⟩ := nl ht
    obtain ⟨u1, u2⟩ := nl htb
    obtain ⟨w1, w2⟩ := nl htd
    have vne : ∀ {a b : Nat}, a < A.flatten.length → b < A.flatten.length → a ≠ b → vAt A a ≠ vAt A b := fun ha hb h9 e => h9 ((vAt_ij hn ha hb).mp e)
    obtain ⟨⟨x1, x2, x3, x4⟩, ⟨y1, y2, y3, y4⟩, z1, z2, z3, z4⟩ := dj
    obtain ⟨σ, hσ⟩ : ∃ σ : vT → vT, σ = fun r => swv (s4p A t) (s4q A t) (swv (s4p A u) (s4q A u) (swv (s4p A w) (s4q A w) r)) := ⟨_, rfl⟩
    have eA : A' = A.map (List.map σ) := by
      rw [c4, t4_swv hn ht htb htd, map3, hσ]
      rfl
    have hin : ∀ a b, σ a = σ b → a = b := fun a b e => by
      rw [hσ] at e
      exact swv_inj (swv_inj (swv_inj e))
    have st : σ (s4p A t) = s4q A t ∧ σ (s4q A t) = s4p A t := by
      rw [hσ]
      constructor
      · show swv _ _ (swv _ _ (swv _ _ (s4p A t))) = _
        unfold s4p s4q
        rw [swv_n (vne t1 w1 (fun e => z1 e.symm)) (vne t1 w2 (fun e => z3 e.symm)), swv_n (vne t1 u1 x1) (vne t1 u2 x2), swv_l]
      · show swv _ _ (swv _ _ (swv _ _ (s4q A t))) = _
        unfold s4p s4q
        rw [swv_n (vne t2 w1 (fun e => z2 e.symm)) (vne t2 w2 (fun e => z4 e.symm)), swv_n (vne t2 u1 x3) (vne t2 u2 x4), swv_r]
    have su9 : σ (s4p A u) = s4q A u ∧ σ (s4q A u) = s4p A u := by
      rw [hσ]
      constructor
      · show swv _ _ (swv _ _ (swv _ _ (s4p A u))) = _
        unfold s4p s4q
        rw [swv_n (vne u1 w1 y1) (vne u1 w2 y2), swv_l, swv_n (vne u2 t1 (fun e => x2 e.symm)) (vne u2 t2 (fun e => x4 e.symm))]
      · show swv _ _ (swv _ _ (swv _ _ (s4q A u))) = _
        unfold s4p s4q
        rw [swv_n (vne u2 w1 y3) (vne u2 w2 y4), swv_r, swv_n (vne u1 t1 (fun e => x1 e.symm)) (vne u1 t2 (fun e => x3 e.symm))]
    have sw9 : σ (s4p A w) = s4q A w ∧ σ (s4q A w) = s4p A w := by
      rw [hσ]
      constructor
      · show swv _ _ (swv _ _ (swv _ _ (s4p A w))) = _
        unfold s4p s4q
        rw [swv_l, swv_n (vne w2 u1 (fun e => y2 e.symm)) (vne w2 u2 (fun e => y4 e.symm)), swv_n (vne w2 t1 z3) (vne w2 t2 z4)]
      · show swv _ _ (swv _ _ (swv _ _ (s4q A w))) = _
        unfold s4p s4q
        rw [swv_r, swv_n (vne w1 u1 (fun e => y1 e.symm)) (vne w1 u2 (fun e => y3 e.symm)), swv_n (vne w1 t1 z1) (vne w1 t2 z2)]
    have bt : bsA A' (s4q A t) (s4p A t) := by
      have := bs_map hn hin (bs_v hn t1)
      rw [← eA] at this
      have this : bsA A' (σ (s4p A t)) (σ (s4q A t)) := this
      rw [st.1, st.2] at this
      exact this
    have bu : bsA A' (s4q A u) (s4p A u) := by
      have := bs_map hn hin (bs_v hn u1)
      rw [← eA] at this
      have this : bsA A' (σ (s4p A u)) (σ (s4q A u)) := this
      rw [su9.1, su9.2] at this
      exact this
    have bw : bsA A' (s4q A w) (s4p A w) := by
      have := bs_map hn hin (bs_v hn w1)
      rw [← eA] at this
      have this : bsA A' (σ (s4p A w)) (σ (s4q A w)) := this
      rw [sw9.1, sw9.2] at this
      exact this
    have mT : ∀ {v : Nat}, v < A.flatten.length → vAt A v ∈ A.flatten := fun hv => vAt_mem hv
    have pmA : A'.flatten.Perm A.flatten := by
      rw [c4, t4_swv hn ht htb htd]
      have q1 := swA_pm hn (mT w1) (mT w2)
      have nn1 := q1.nodup_iff.mpr hn
      have q2 := swA_pm nn1 (q1.mem_iff.mpr (mT u1)) (q1.mem_iff.mpr (mT u2))
      have q3 := swA_pm (q2.nodup_iff.mpr nn1) ((q2.trans q1).mem_iff.mpr (mT t1)) ((q2.trans q1).mem_iff.mpr (mT t2))
      exact q3.trans (q2.trans q1)
    have hm : ∀ {p : vT}, p ∈ A.flatten → p ∈ A'.flatten := fun h9 => pmA.mem_iff.mpr h9
    obtain ⟨ent, ont⟩ := s4_on hF hV hp hm ht bt (by rw [← hu9]; exact bu)
    obtain ⟨enu, onu⟩ := s4_on hF hV hp hm htb bu (by rw [← hw9]; exact bw)
    obtain ⟨enw, onw⟩ := s4_on hF hV hp hm htd bw (by rw [c1]; exact bt)
    rw [← hu9] at ont
    rw [← hw9] at onu
    rw [c1] at onw
    have cr : ∀ {k : Nat}, k < 2 * A.flatten.length → gl f (vAt A (hdv A k)) / 2 = f (crs A (hdv A k)) := fun {k} hk => by
      have := hu _ (vAt_mem (hdv_lt (A := A) hk))
      show (2 * f (vAt A (hdv A k)).1 + (vAt A (hdv A k)).2) / 2 = f (vAt A (hdv A k)).1
      omega
    have fne : ∀ {k m : Nat}, k < 2 * A.flatten.length → m < 2 * A.flatten.length → crs A (hdv A k) ≠ crs A (hdv A m) → f (crs A (hdv A k)) ≠ f (crs A (hdv A m)) := fun {k m} hk hm9 h9 e9 => h9 (hV.1.2.2.2.2.1 _ _ (hm (vAt_mem (hdv_lt hk))) (hm (vAt_mem (hdv_lt hm9))) e9)
    have ov : ∀ {k : Nat}, k < 2 * A.flatten.length → bsA A' (s4q A k) (s4p A k) → t4o A k → mv_ov RB.2.2.1.1 (s4n A f k) = true := by
      rintro k hk hbk ⟨o1, o2⟩
      have n1 := bs_nx hV hbk
      unfold mv_ov
      rw [show s4n A f k / 2 = gl f (s4q A k) by unfold s4n; omega, n1, Bool.and_eq_true, decide_eq_true_iff, decide_eq_true_iff]
      have o1 : (s4p A k).2 = 0 := o1
      have o2 : (s4q A k).2 = 0 := o2
      constructor
      · show (2 * f (s4q A k).1 + (s4q A k).2) % 2 = 0
        omega
      · show (2 * f (s4p A k).1 + (s4p A k).2) % 2 = 0
        omega
    have hB : mv_b4 RB (s4n A f t) = true := by
      unfold mv_b4 mv_pass
      rw [ont, onu, onw, ent, enu, enw, cr ht, cr htb, cr htd]
      simp only [Bool.and_eq_true, Bool.or_eq_true, decide_eq_true_iff]
      refine ⟨l1, l2, trivial, fne ht htb c2.1, fne htb htd c2.2.2, fne ht htd c2.2.1, ?_⟩
      rcases c3 with h9 | h9 | h9
      · exact Or.inl (ov ht bt h9)
      · exact Or.inr (Or.inl (ov htb bu h9))
      · exact Or.inr (Or.inr (ov htd bw h9))
    have hlt : s4n A f t < 2 * (2 * RB.1) := by
      have h1 := hV.1.2.2.2.1 _ (hm (mT t2))
      have h2 := hu _ (mT t2)
      have : gl f (s4q A t) < 2 * RB.1 := by
        show 2 * f (vAt A (rn_nx A (t / 2))).1 + (vAt A (rn_nx A (t / 2))).2 < _
        omega
      unfold s4n
      omega
    refine ⟨s4n A f t, hlt, fun F P Q hmk hQ => ⟨hB, f, ?_⟩⟩
    show isoV A sg' f (mv_t4 Q RB (s4n A f t))
    unfold mv_t4
    rw [if_pos hB, ont, onu]
    have nsw : ∀ (T : ow_NT) {k : Nat}, bsA A' (s4q A k) (s4p A k) → nt_sw RB T (s4n A f k) = nt_swap T (gl f (s4q A k)) (gl f (s4p A k)) := fun T {k} hbk => by
      unfold nt_sw
      rw [show s4n A f k / 2 = gl f (s4q A k) by unfold s4n; omega, bs_nx hV hbk]
    rw [nsw _ bt, nsw _ bu, nsw _ bw]
    have i1 := iso_swv (isoV_cpy (Q := Q) hV) (hm (mT t2)) (hm (mT t1))
    have p1 := swA_pm hV.1.1.1 (hm (mT t2)) (hm (mT t1))
    have i2 := iso_swv i1 (p1.mem_iff.mpr (hm (mT u2))) (p1.mem_iff.mpr (hm (mT u1)))
    have p2 := (swA_pm i1.1.1.1 (p1.mem_iff.mpr (hm (mT u2))) (p1.mem_iff.mpr (hm (mT u1)))).trans p1
    have i3 := iso_swv i2 (p2.mem_iff.mpr (hm (mT w2))) (p2.mem_iff.mpr (hm (mT w1)))
    rw [map3] at i3
    have eid : A'.map (List.map (fun r => swv (vAt A (rn_nx A (w / 2))) (vAt A (w / 2)) (swv (vAt A (rn_nx A (u / 2))) (vAt A (u / 2)) (swv (vAt A (rn_nx A (t / 2))) (vAt A (t / 2)) r)))) = A := by
      rw [eA, List.map_map]
      refine (List.map_congr_left (fun L hL => ?_)).trans (List.map_id _)
      show List.map _ (List.map σ L) = L
      rw [List.map_map]
      refine (List.map_congr_left (fun r hr => ?_)).trans (List.map_id _)
      show swv _ _ (swv _ _ (swv _ _ (σ r))) = r
      rw [hσ]
      show swv _ _ (swv _ _ (swv _ _ (swv (vAt A (t / 2)) (vAt A (rn_nx A (t / 2))) (swv (vAt A (u / 2)) (vAt A (rn_nx A (u / 2))) (swv (vAt A (w / 2)) (vAt A (rn_nx A (w / 2))) r))))) = r
      rw [swv_c (p := vAt A (rn_nx A (t / 2))), swv_i, swv_c (p := vAt A (rn_nx A (u / 2))), swv_i, swv_c (p := vAt A (rn_nx A (w / 2))), swv_i]
    rw [eid] at i3
    exact i3
  obtain ⟨x, hx⟩ : ∃ x, x = phi A sg' s := ⟨_, rfl⟩
  obtain ⟨y, hy⟩ : ∃ y, y = phi A sg' x := ⟨_, rfl⟩
  have hP : t4P A s x y A' := by rw [hy, hx]; exact ⟨b4, b5, b6⟩
  have hxl : x < 2 * A.flatten.length := by rw [hx]; exact phi_lt hd hs
  have hyl : y < 2 * A.flatten.length := by rw [hy]; exact phi_lt hd hxl
  have hys : phi A sg' y = s := by rw [hy, hx]; exact b3
  have nxy : s ≠ x ∧ s ≠ y ∧ x ≠ y := ⟨fun e => hP.1.1 (by rw [← e]), fun e => hP.1.2.1 (by rw [← e]), fun e => hP.1.2.2 (by rw [← e])⟩
  have dj : dj3 A s x y := (tri_pairs (sg := sg') hd ⟨hs, hxl, hyl⟩ nxy (fun t ht => by
    rcases ht with e | e | e <;> rw [e]
    · exact Or.inr (Or.inl hx.symm)
    · exact Or.inr (Or.inr hy.symm)
    · exact Or.inl hys) hP.1.1 hP.1.2.1 hP.1.2.2).2.2.2
  have pmA : ∀ {p : vT}, p ∈ A.flatten → p ∈ A'.flatten := fun {p} h9 => by
    have nl : ∀ {k : Nat}, k < 2 * A.flatten.length → vAt A (k / 2) ∈ A.flatten ∧ vAt A (rn_nx A (k / 2)) ∈ A.flatten := fun {k} hk => ⟨vAt_mem (by omega), vAt_mem (rn_nx_lt (by omega))⟩
    rw [hP.2.2, t4_swv hn hs hxl hyl]
    have q1 := swA_pm hn (nl hyl).1 (nl hyl).2
    have nn1 := q1.nodup_iff.mpr hn
    have q2 := swA_pm nn1 (q1.mem_iff.mpr (nl hxl).1) (q1.mem_iff.mpr (nl hxl).2)
    have q3 := swA_pm (q2.nodup_iff.mpr nn1) ((q2.trans q1).mem_iff.mpr (nl hs).1) ((q2.trans q1).mem_iff.mpr (nl hs).2)
    exact (q3.trans (q2.trans q1)).mem_iff.mpr h9
  have inj9 : ∀ {a b : Nat}, a < 2 * A.flatten.length → b < 2 * A.flatten.length → rn_nx A (a / 2) ≠ rn_nx A (b / 2) → s4n A f a ≠ s4n A f b := by
    intro a b ha hb h9 e9
    unfold s4n at e9
    have h1 : vAt A (rn_nx A (a / 2)) ∈ A.flatten := vAt_mem (rn_nx_lt (by omega))
    have h2 : vAt A (rn_nx A (b / 2)) ∈ A.flatten := vAt_mem (rn_nx_lt (by omega))
    have := gl_gin hV.1 _ _ (pmA h1) (pmA h2) (show gl f (s4q A a) = gl f (s4q A b) by omega)
    exact h9 ((vAt_ij hn (rn_nx_lt (by omega)) (rn_nx_lt (by omega))).mp this)
  have m1 := inj9 hs hxl dj.1.2.2.2
  have m2 := inj9 hs hyl (fun e => dj.2.2.2.2.2 e.symm)
  have m3 := inj9 hxl hyl dj.2.1.2.2.2
  have ms := main s hs
  have mx := main x hxl
  have my := main y hyl
  rw [← hx, ← hy, hys] at ms
  rw [← hy, hys, ← hx] at mx
  rw [hys, ← hx, ← hy] at my
  by_cases c1 : s4n A f s < s4n A f x ∧ s4n A f s < s4n A f y
  · exact ms rfl hP dj c1.1 c1.2
  · by_cases c2 : s4n A f x < s4n A f y ∧ s4n A f x < s4n A f s
    · exact mx rfl ((t4P_rot dj).mp hP) (dj3_rot dj) c2.1 c2.2
    · exact my rfl ((t4P_rot (dj3_rot dj)).mp ((t4P_rot dj).mp hP)) (dj3_rot (dj3_rot dj)) (by omega) (by omega)
end XTB5
end
section
/-! 99zzzzzzzzzzzzd.xnet -/
/-! nets that show one list -/
section XNT
variable {A B E : rn_L} {sg sB sE : Nat → Bool} {T T2 R : ow_NT} {f g h k : Nat → Nat}
theorem iso_vis (hV : isoV A sg f T) {y u : Nat} (hy : y < T.1) (hu : u < 2) : ∃ x, ((x, u) : vT) ∈ A.flatten ∧ f x = y := by
  have hi := isoS_iff.mp hV.1
  obtain ⟨v, hv, e⟩ := lbv_sur hi (k := 2 * y + u) (by omega)
  obtain ⟨e1, e2⟩ := lbv_hf hi hv
  rw [e] at e1 e2
  refine ⟨crs A v, ?_, by omega⟩
  have := vAt_mem hv
  rw [show vAt A v = (crs A v, u) from Prod.ext rfl (by show uns A v = u; omega)] at this
  exact this
/-- what shows a list shows what that list shows -/
theorem iso_tr (hB : isoV B sB g T) (hE : isoV E sE h T) (hR : isoV E sE k R) : ∃ g', isoV B sB g' R := by
  have ex : ∀ y, ∃ x, y < T.1 → ((x, 0) : vT) ∈ E.flatten ∧ ((x, 1) : vT) ∈ E.flatten ∧ h x = y := fun y => by
    by_cases hy : y < T.1
    · obtain ⟨x, x1, x2⟩ := iso_vis hE hy (u := 0) (by omega)
      obtain ⟨x', y1, y2⟩ := iso_vis hE hy (u := 1) (by omega)
      have := hE.1.2.2.2.2.1 _ _ x1 y1 (x2.trans y2.symm)
      have this : x = x' := this
      rw [← this] at y1
      exact ⟨x, fun _ => ⟨x1, y1, x2⟩⟩
    · exact ⟨0, fun h9 => absurd h9 hy⟩
  obtain ⟨τ, hτ⟩ := Classical.axiomOfChoice ex
  have hu : ∀ {p : vT}, p ∈ B.flatten → p.2 < 2 := fun {p} hp => (hB.1.1.2 p hp).2.1
  have huE : ∀ {p : vT}, p ∈ E.flatten → p.2 < 2 := fun {p} hp => (hE.1.1.2 p hp).2.1
  have tB : ∀ {p : vT}, p ∈ B.flatten → ((τ (g p.1), p.2) : vT) ∈ E.flatten ∧ h (τ (g p.1)) = g p.1 := fun {p} hp => by
    obtain ⟨a1, a2, a3⟩ := hτ (g p.1) (hB.1.2.2.2.1 p hp)
    refine ⟨?_, a3⟩
    have := hu hp
    rcases (show p.2 = 0 ∨ p.2 = 1 by omega) with e | e <;> rw [e]
    · exact a1
    · exact a2
  have tE : ∀ {q : vT}, q ∈ E.flatten → τ (h q.1) = q.1 := fun {q} hq => by
    obtain ⟨a1, a2, a3⟩ := hτ (h q.1) (hE.1.2.2.2.1 q hq)
    have := hE.1.2.2.2.2.1 _ _ a1 hq a3
    exact this
  refine ⟨fun x => k (τ (g x)), ⟨hB.1.1, ?_, hR.1.2.2.1, fun p hp => hR.1.2.2.2.1 _ (tB hp).1, fun p q hp hq e => ?_, fun L hL p hp => ?_, fun p hp => ?_, ?_⟩, fun L hL p hp => ?_⟩
  · rw [hB.1.2.1, ← hE.1.2.1, hR.1.2.1]
  · have e1 := hR.1.2.2.2.2.1 _ _ (tB hp).1 (tB hq).1 e
    have e1 : τ (g p.1) = τ (g q.1) := e1
    have e2 : g p.1 = g q.1 := by rw [← (tB hp).2, ← (tB hq).2, e1]
    exact hB.1.2.2.2.2.1 p q hp hq e2
  · have hpB : p ∈ B.flatten := List.mem_flatten.mpr ⟨L, hL, hp⟩
    have hsB : sc L p ∈ B.flatten := List.mem_flatten.mpr ⟨L, hL, sc_in hp (L_nd hB.1.1.1 hL)⟩
    obtain ⟨m1, m2⟩ := tB hpB
    obtain ⟨M, hM, hq⟩ := List.mem_flatten.mp m1
    have hsE : sc M (τ (g p.1), p.2) ∈ E.flatten := List.mem_flatten.mpr ⟨M, hM, sc_in hq (L_nd hE.1.1.1 hM)⟩
    have a1 := (hB.2 L hL p hp).1
    have a2 := (hE.2 M hM _ hq).1
    have a3 := (hR.2 M hM _ hq).1
    have e0 : gl h (τ (g p.1), p.2) = gl g p := by
      show 2 * h (τ (g p.1)) + p.2 = 2 * g p.1 + p.2
      rw [m2]
    rw [e0, a1] at a2
    have a2 : 2 * g (sc L p).1 + (sc L p).2 = 2 * h (sc M (τ (g p.1), p.2)).1 + (sc M (τ (g p.1), p.2)).2 := a2
    have u1 := hu hsB
    have u2 := huE hsE
    have e1 : g (sc L p).1 = h (sc M (τ (g p.1), p.2)).1 := by omega
    have e2 : (sc L p).2 = (sc M (τ (g p.1), p.2)).2 := by omega
    show R.2.2.1.1 (gl k (τ (g p.1), p.2)) = 2 * k (τ (g (sc L p).1)) + (sc L p).2
    rw [a3, e1, tE hsE, e2]
    rfl
  · obtain ⟨m1, m2⟩ := tB hp
    have a1 := hR.1.2.2.2.2.2.2.1 _ m1
    have a2 := hE.1.2.2.2.2.2.2.1 _ m1
    have a3 := hB.1.2.2.2.2.2.2.1 p hp
    have a2 : T.2.2.2 (h (τ (g p.1))) < 0 ↔ sE (τ (g p.1)) = true := a2
    rw [m2] at a2
    exact a1.trans (a2.symm.trans a3)
  · rw [hB.1.2.2.2.2.2.2.2, ← hE.1.2.2.2.2.2.2.2, hR.1.2.2.2.2.2.2.2]
  · have hpB : p ∈ B.flatten := List.mem_flatten.mpr ⟨L, hL, hp⟩
    have hsB : sc L p ∈ B.flatten := List.mem_flatten.mpr ⟨L, hL, sc_in hp (L_nd hB.1.1.1 hL)⟩
    obtain ⟨m1, m2⟩ := tB hpB
    obtain ⟨M, hM, hq⟩ := List.mem_flatten.mp m1
    have hsE : sc M (τ (g p.1), p.2) ∈ E.flatten := List.mem_flatten.mpr ⟨M, hM, sc_in hq (L_nd hE.1.1.1 hM)⟩
    have a1 := (hB.2 L hL p hp).1
    have a2 := (hE.2 M hM _ hq).1
    have a3 := (hR.2 M hM _ hq)
    have e0 : gl h (τ (g p.1), p.2) = gl g p := by
      show 2 * h (τ (g p.1)) + p.2 = 2 * g p.1 + p.2
      rw [m2]
    rw [e0, a1] at a2
    have a2 : 2 * g (sc L p).1 + (sc L p).2 = 2 * h (sc M (τ (g p.1), p.2)).1 + (sc M (τ (g p.1), p.2)).2 := a2
    have u1 := hu hsB
    have u2 := huE hsE
    have e1 : g (sc L p).1 = h (sc M (τ (g p.1), p.2)).1 := by omega
    have e2 : (sc L p).2 = (sc M (τ (g p.1), p.2)).2 := by omega
    have e3 : gl (fun x => k (τ (g x))) (sc L p) = gl k (sc M (τ (g p.1), p.2)) := by
      show 2 * k (τ (g (sc L p).1)) + (sc L p).2 = 2 * k (sc M (τ (g p.1), p.2)).1 + (sc M (τ (g p.1), p.2)).2
      rw [e1, tE hsE, e2]
    rw [e3]
    exact a3
/-- a net with the list's own numbers -/
theorem net_id (hV : isoV A sg f T) (ho : okF A.flatten T.1) (h6 : A.length ≤ 6) (hp : pm1 T) : ∃ R, isoV A sg idN R ∧ nv R ∧ pm1 R ∧ R.1 = T.1 := by
  have hc := hV.1.2.2.1
  have hvn := isoV_vn hV
  have fl : ∀ {x : Nat}, x < T.1 → f x < T.1 := fun {x} hx => hV.1.2.2.2.1 (x, 0) ((ho.2 _).mpr ⟨hx, by show 0 < 2; omega⟩)
  have fi : ∀ {x y : Nat}, x < T.1 → y < T.1 → f x = f y → x = y := fun {x y} hx hy e => hV.1.2.2.2.2.1 (x, 0) (y, 0) ((ho.2 _).mpr ⟨hx, by show 0 < 2; omega⟩) ((ho.2 _).mpr ⟨hy, by show 0 < 2; omega⟩) e
  have ex : ∀ y, ∃ x, y < T.1 → x < T.1 ∧ f x = y := fun y => by
    by_cases hy : y < T.1
    · obtain ⟨x, x1, x2⟩ := iso_vis hV hy (u := 0) (by omega)
      exact ⟨x, fun _ => ⟨((ho.2 _).mp x1).1, x2⟩⟩
    · exact ⟨0, fun h9 => absurd h9 hy⟩
  obtain ⟨τ, hτ⟩ := Classical.axiomOfChoice ex
  have tf : ∀ {x : Nat}, x < T.1 → τ (f x) = x := fun {x} hx => by
    obtain ⟨a1, a2⟩ := hτ (f x) (fl hx)
    exact fi a1 hx a2
  let cv : (Nat → Nat) → Nat → Nat := fun N q => if q < 2 * T.1 then 2 * τ (N (2 * f (q / 2) + q % 2) / 2) + N (2 * f (q / 2) + q % 2) % 2 else 0
  have cvp : ∀ {N : Nat → Nat} {p q : vT}, p ∈ A.flatten → q ∈ A.flatten → N (gl f p) = gl f q → cv N (gl idN p) = gl idN q := by
    intro N p q hpA hqA e
    have p1 := (ho.2 p).mp hpA
    have q1 := (ho.2 q).mp hqA
    have eN : gl idN p = 2 * p.1 + p.2 := rfl
    show (if gl idN p < 2 * T.1 then _ else _) = _
    rw [if_pos (by omega), eN, show (2 * p.1 + p.2) / 2 = p.1 by omega, show (2 * p.1 + p.2) % 2 = p.2 by omega]
    have e : N (2 * f p.1 + p.2) = 2 * f q.1 + q.2 := e
    rw [e, show (2 * f q.1 + q.2) / 2 = f q.1 by omega, show (2 * f q.1 + q.2) % 2 = q.2 by omega, tf q1.1]
    rfl
  let R : ow_NT := (T.1, T.2.1, (cv T.2.2.1.1, cv T.2.2.1.2), fun x => T.2.2.2 (f x))
  have hS : shP R.2.2.1 (gl idN) A := fun L hL p hp9 => by
    have hpA : p ∈ A.flatten := List.mem_flatten.mpr ⟨L, hL, hp9⟩
    have hsA : sc L p ∈ A.flatten := List.mem_flatten.mpr ⟨L, hL, sc_in hp9 (L_nd ho.1 hL)⟩
    obtain ⟨a1, a2⟩ := hV.2 L hL p hp9
    exact ⟨cvp hpA hsA a1, cvp hsA hpA a2⟩
  have hI : isoV A sg idN R := iso_mk (c := T.1) ho hc rfl (fun x hx => hx) (fun x y _ _ e => e) hS (fun x hx => hV.1.2.2.2.2.2.2.1 (x, 0) ((ho.2 _).mpr ⟨hx, by show 0 < 2; omega⟩)) hV.1.2.2.2.2.2.2.2
  have b24 : ∀ {N : Nat → Nat}, (∀ q, q < 2 * T.1 → N q < 2 * T.1) → ∀ q, cv N q < 24 := by
    intro N hN q
    show (if q < 2 * T.1 then _ else _) < 24
    by_cases hq : q < 2 * T.1
    · rw [if_pos hq]
      have h1 := fl (x := q / 2) (by omega)
      have h2 := hN (2 * f (q / 2) + q % 2) (by omega)
      have h3 := (hτ (N (2 * f (q / 2) + q % 2) / 2) (by omega)).1
      omega
    · rw [if_neg hq]
      omega
  have hvR := isoV_vn hI
  have hrg := iso_rge (isoS_iff.mp hI.1) hvR
  exact ⟨R, hI, ⟨hvR, hc, ⟨b24 (fun q hq => (hvn q hq).1), b24 (fun q hq => (hvn q hq).2.1)⟩, by omega⟩, fun x hx => hp _ (fl hx), rfl⟩
/-- every net has a code -/
theorem cp_ex (hT : nv T) : ∃ Cs os, cpZ T (np_parts T.1 T.2.2.1.1).2 Cs os := by
  let y : ow_MS := (fun g => if g = 4008 then nI T.1 else nI T.2.1, fun g v => if g = 4001 then nI (T.2.2.1.1 v) else if g = 4002 then nI (T.2.2.1.2 v) else if g = 4003 then T.2.2.2 v else 0, fun _ _ => 0)
  have hy : cAt y 4000 T := ⟨rfl, rfl, fun _ => rfl, fun _ => rfl, fun _ => rfl⟩
  have hb : ∀ g, g = 8001 ∨ g = 9001 ∨ g = 10001 → byR y g := fun g hg i => by
    rcases hg with rfl | rfl | rfl <;> rfl
  obtain ⟨r, -, ⟨Cs, os, h1, -⟩, -⟩ := tc_encode (vl := fun _ => 0) (k := 7000) (h := 4000) (Or.inl rfl) nH4 hy hT (hb 8001 (Or.inl rfl)) (hb 9001 (Or.inr (Or.inl rfl))) (hb 10001 (Or.inr (Or.inr rfl)))
  exact ⟨Cs, os, h1⟩
/-- nets that show one list have one code -/
theorem cd_same {Cs Ds : List cdT} {os qs : List Nat} (h1 : isoV A sg f T) (h2 : isoV A sg g T2) (h6 : A.length ≤ 6) (n1 : nv T) (n2 : nv T2) (z1 : cpZ T (np_parts T.1 T.2.2.1.1).2 Cs os) (z2 : cpZ T2 (np_parts T2.1 T2.2.2.1.1).2 Ds qs) : enC T Cs os = enC T2 Ds qs := by
  obtain ⟨m, P, hk⟩ := mk_ex A
  obtain ⟨A1, s1, a1, a2, a3, -⟩ := enc_pk (isoS_iff.mp h1.1) h6 n1 hk z1
  obtain ⟨A2, s2, b1, b2, b3, -⟩ := enc_pk (isoS_iff.mp h2.1) h6 n2 hk z2
  rw [a3, b3]
  exact (clC_tk a2 b2).mpr (a1.symm.trans b1)
end XNT
end
section
/-! 99zzzzzzzzzzzze.xway1 -/
/-! way: both sides ask for the same -/
def rvK (kd : Nat) : Nat := if kd = 0 then 1 else if kd = 1 then 0 else if kd = 2 then 3 else if kd = 3 then 2 else 4
section XW1
variable {A A' B E : rn_L} {sg sg' sgB sgE : Nat → Bool} {R RB T : ow_NT} {f : Nat → Nat} {kd c cE : Nat}
theorem tb_all (hk : kd < 5) (hR : isoV A sg idN R) (hO : OM A sg R.1 kd A' sg') (hV : isoV A' sg' f RB) (hp : pm1 RB) (hpl : nt_plane RB = true) (hA : plnA A sg) : tBk (rvK kd) A sg RB := by
  have hM : mM3 RB := m3_meet (isoV_vn hV) hV.1.2.2.1 hpl
  rcases (show kd = 0 ∨ kd = 1 ∨ kd = 2 ∨ kd = 3 ∨ kd = 4 by omega) with rfl | rfl | rfl | rfl | rfl
  · exact tb_01 hR hO hV
  · exact tb_10 (isoV_ok hR) hO hV
  · exact tb_23 hR hO hV hp hM hA
  · exact tb_32 (isoV_ok hR) hO hV hp
  · exact tb_44 hR hO hV hp
theorem rvK_5 (hk : kd < 5) : rvK kd < 5 := by
  rcases (show kd = 0 ∨ kd = 1 ∨ kd = 2 ∨ kd = 3 ∨ kd = 4 by omega) with rfl | rfl | rfl | rfl | rfl <;> decide
/-- the list is that of its own code -/
def nrm (A : rn_L) (sg : Nat → Bool) : Prop := ∃ T g Ds qs, nv T ∧ pm1 T ∧ isoV A sg g T ∧ cpZ T (np_parts T.1 T.2.2.1.1).2 Ds qs ∧ enC T Ds qs = clC sg A
/-- a code and a row of one list, which is that of its own code -/
def crN (C : cdT) (r : List Nat) : Prop := ∃ A sg c, okL A c ∧ C = clC sg A ∧ r = tk sg A ∧ A ≠ [] ∧ plnA A sg ∧ nrm A sg
theorem nx_iso (h : nxC A sg c R) (hpl : plnA A sg) : isoV A sg idN R ∧ pm1 R ∧ nt_plane R = true ∧ R.1 = c := by
  obtain ⟨k1, k2, k3, k4⟩ := h
  have hV : isoV A sg idN R := isoV_of k2 k3.1
  have hp : pm1 R := fun x hx => by
    rw [k4.2 x (by have := k4.1; omega)]
    cases sg x
    · exact Or.inl rfl
    · exact Or.inr rfl
  exact ⟨hV, hp, hpl _ _ hV hp, k4.1⟩
theorem jnN9 {F P : Nat → Int32} {Q : ow_NT} {j : Nat} {Ds : List cdT} {qs : List Nat} {r : List Nat} (hR : nv R) (hp : pm1 R) (hpl : nt_plane R = true) (h6 : A.length ≤ 6) (hne : A ≠ []) (hk : kd < 5) (hO : OM A sg R.1 kd A' sg') (hj : j < mv_cnt R.1 kd) (hmk : mv_mk kd R F P) (hQ : ow_b24 Q.2.2.1) (hB : mv_B kd j Q R F P = true) (hi : isoV A' sg' f (mv_T kd j Q R F P)) (hZ : cpZ (mv_T kd j Q R F P) (np_parts (mv_T kd j Q R F P).1 (mv_T kd j Q R F P).2.2.1.1).2 Ds qs) (hr : nfR A' sg' r) : crN (enC (mv_T kd j Q R F P) Ds qs) r := by
  obtain ⟨m, Pp, hmk9, rfl⟩ := hr
  have hl9 := OM_len hO
  have hnv := (mv_nv hR hk F P Q j hmk hQ hj).2 hB
  obtain ⟨A2, sg2, e1, e2, e3, e4, f', e5⟩ := enc_iso (isoS_iff.mp hi.1) (by omega) hnv hmk9 hZ
  have hpp := mv_pl hR hp hpl hk hQ hj hB
  refine ⟨A2, sg2, _, e2, e3, e1, fun e => ?_, plnA_of e5 hpp.2 hpp.1, _, f', Ds, qs, hnv, hpp.2, e5, hZ, e3⟩
  rw [e] at e4
  have : A.length ≠ 0 := fun e9 => hne (List.eq_nil_of_length_eq_zero e9)
  have e4 : 0 = _ := e4
  omega
/-- what stands near a code, on the class's side -/
def surC (A : rn_L) (sg : Nat → Bool) (c : Nat) (X : List cdT) : Prop := (∀ C, C ∈ X → ∃ kd R j, kd < 5 ∧ nxC A sg c R ∧ j < mv_cnt R.1 kd ∧ mvD kd R j C) ∧ ∀ kd, kd < 5 → ∃ R, nxC A sg c R ∧ ∀ j, j < mv_cnt R.1 kd → mvN kd R j ∨ ∃ C, mvD kd R j C ∧ C ∈ X
/-- and on the reference's -/
def nerR (A : rn_L) (sg : Nat → Bool) (c : Nat) (N : List (List Nat)) : Prop := (∀ r, r ∈ N → ∃ kd A' sg', kd < 5 ∧ OM A sg c kd A' sg' ∧ nfR A' sg' r) ∧ ∀ kd A' sg', kd < 5 → OM A sg c kd A' sg' → ∃ r, r ∈ N ∧ nfR A' sg' r
theorem w_rc {X : List cdT} {N : List (List Nat)} (hA : okL A c) (hne : A ≠ []) (hpl : plnA A sg) (hX : surC A sg c X) (hN : ∀ r, r ∈ N → ∃ kd A' sg', kd < 5 ∧ OM A sg c kd A' sg' ∧ nfR A' sg' r) : ∀ r, r ∈ N → ∃ C, C ∈ X ∧ crN C r := by
  intro r hr
  obtain ⟨kd, A', sg', hk, hO, hn⟩ := hN r hr
  obtain ⟨R, hR, hall⟩ := hX.2 kd hk
  obtain ⟨hV, hp, hpn, ec⟩ := nx_iso hR hpl
  have mb := mb_all hV hp hA.2.2.2.2 hpn hk
  rw [← ec] at hO
  obtain ⟨j, hj, hj2⟩ := mb.2 A' sg' hO
  rcases hall j hj with ⟨F, P, Q, d1, d2, d3⟩ | ⟨C, hD, hCX⟩
  · have := (hj2 F P Q d1 d2).1
    rw [d3] at this
    cases this
  · obtain ⟨F, P, Q, Ds, qs, d1, d2, d3, d4, rfl⟩ := hD
    obtain ⟨-, f, hf⟩ := hj2 F P Q d1 d2
    exact ⟨_, hCX, jnN9 hR.2.2.1 hp hpn hA.2.2.2.2 hne hk hO hj d1 d2 d3 hf d4 hn⟩
theorem w_cr {X : List cdT} {N : List (List Nat)} (hA : okL A c) (hne : A ≠ []) (hpl : plnA A sg) (hX : surC A sg c X) (hN : nerR A sg c N) : ∀ C, C ∈ X → ∃ r, r ∈ N ∧ crN C r := by
  intro C hC
  obtain ⟨kd, R, j, hk, hR, hj, F, P, Q, Ds, qs, d1, d2, d3, d4, rfl⟩ := hX.1 C hC
  obtain ⟨hV, hp, hpn, ec⟩ := nx_iso hR hpl
  have mb := mb_all hV hp hA.2.2.2.2 hpn hk
  obtain ⟨A', sg', hO, hall⟩ := mb.1 j hj ⟨F, P, Q, d1, d2, d3⟩
  obtain ⟨-, f, hf⟩ := hall F P Q d1 d2
  obtain ⟨r, r1, r2⟩ := hN.2 kd A' sg' hk (by rw [← ec]; exact hO)
  exact ⟨r, r1, jnN9 hR.2.2.1 hp hpn hA.2.2.2.2 hne hk hO hj d1 d2 d3 hf d4 r2⟩
theorem mk9 (kd : Nat) (R : ow_NT) : mv_mk kd R (np_faces R.1 R.2.2.1 R.2.2.2).1 (np_parts R.1 R.2.2.1.1).1 := fun _ => ⟨fun _ _ => rfl, fun _ _ => rfl⟩
/-- a row of a normal list, and the list of which it is the normal form, show one net -/
theorem nf_show (hV : isoV A' sg' f T) (h6 : A'.length ≤ 6) (hT : nv T) (hE : okL E cE) (hn : nfR A' sg' (tk sgE E)) : ∃ f', isoV E sgE f' T := by
  obtain ⟨m, P, hk, e⟩ := hn
  obtain ⟨Cs, os, hZ⟩ := cp_ex hT
  obtain ⟨A2, sg2, e1, e2, -, -, f', e5⟩ := enc_iso (isoS_iff.mp hV.1) h6 hT hk hZ
  obtain ⟨q1, q2⟩ := tk_inj E A2 (okL_u hE) (okL_u e2) (e.trans e1)
  subst q1
  exact ⟨f', isoV_sg e5 q2⟩
def kdm (a b kd : Nat) : Prop := kd = 0 ∧ a + 1 = b ∨ kd = 1 ∧ a = b + 1 ∨ kd = 2 ∧ a + 2 = b ∨ kd = 3 ∧ a = b + 2 ∨ kd = 4 ∧ a = b
theorem mvT_1 {F P : Nat → Int32} {Q : ow_NT} {j : Nat} (hk : kd < 5) (hj : j < mv_cnt R.1 kd) (hB : mv_B kd j Q R F P = true) : kdm (mv_T kd j Q R F P).1 R.1 kd := by
  rcases (show kd = 0 ∨ kd = 1 ∨ kd = 2 ∨ kd = 3 ∨ kd = 4 by omega) with rfl | rfl | rfl | rfl | rfl
  · have hj : j < R.1 := hj
    have hB : mv_bs R.2.2.1.1 (2 * j) (2 * j + 1) = true := hB
    have e : (mv_T 0 j Q R F P).1 = R.1 - 1 := by
      show (mv_t0 Q R j).1 = _
      unfold mv_t0
      rw [if_pos hB]
      rfl
    exact Or.inl ⟨rfl, by omega⟩
  · have hB : mv_b1 R (j / 4) = true := hB
    have e : (mv_T 1 j Q R F P).1 = R.1 + 1 := by
      show (mv_t1 Q R (j / 4) (j % 4)).1 = _
      unfold mv_t1
      rw [if_pos hB, nt_pair_c]
      rfl
    exact Or.inr (Or.inl ⟨rfl, e⟩)
  · have hj : j < R.1 * R.1 := hj
    have hB : mv_b2 R (j / R.1) (j % R.1) = true := hB
    have hc : 0 < R.1 := by
      rcases Nat.eq_zero_or_pos R.1 with e | e
      · rw [e] at hj
        omega
      · exact e
    have h1 : j / R.1 < R.1 := Nat.div_lt_of_lt_mul hj
    have h2 : j % R.1 < j / R.1 := by
      unfold mv_b2 at hB
      exact of_decide_eq_true (Bool.and_eq_true_iff.mp hB).1
    have e : (mv_T 2 j Q R F P).1 = R.1 - 1 - 1 := by
      show (mv_t2 Q R (j / R.1) (j % R.1)).1 = _
      unfold mv_t2
      rw [if_pos hB]
      rfl
    exact Or.inr (Or.inr (Or.inl ⟨rfl, by omega⟩))
  · have hB : (mv_b3 R F P (j / 4 / (2 * R.1 + 2)) (j / 4 % (2 * R.1 + 2)) && nt_plane (mv_t3b Q R (j / 4 / (2 * R.1 + 2)) (j / 4 % (2 * R.1 + 2)) (j % 4))) = true := hB
    have e : (mv_T 3 j Q R F P).1 = R.1 + 2 := by
      show (mv_t3 Q R F P (j / 4 / (2 * R.1 + 2)) (j / 4 % (2 * R.1 + 2)) (j % 4)).1 = _
      unfold mv_t3
      rw [if_pos (Bool.and_eq_true_iff.mp hB).1, t3b_1]
    exact Or.inr (Or.inr (Or.inr (Or.inl ⟨rfl, e⟩)))
  · have hB : mv_b4 R j = true := hB
    have e : (mv_T 4 j Q R F P).1 = R.1 := by
      show (mv_t4 Q R j).1 = _
      unfold mv_t4
      rw [if_pos hB]
      rfl
    exact Or.inr (Or.inr (Or.inr (Or.inr ⟨rfl, e⟩)))
theorem way_fw {X XE : List cdT} {N : List (List Nat)} (hA : okL A c) (hne : A ≠ []) (hpl : plnA A sg) (hX : surC A sg c X) (hN : nerR A sg c N) (hE : okL E cE) (hEp : plnA E sgE) (hXE : surC E sgE cE XE) (h : ∃ r B sgB cB kd B' sg', r ∈ N ∧ nxR r B sgB cB ∧ kd < 5 ∧ OM B sgB cB kd B' sg' ∧ nfR B' sg' (tk sgE E)) : ∃ C, C ∈ X ∧ C ∈ XE := by
  obtain ⟨r, B, sgB, cB, kd, B', sg', hr, ⟨n1, n2, n3, n4⟩, hk, hO, hnf⟩ := h
  obtain ⟨C, hC, B2, sB, c2, o1, o2, o3, o4, o5, T2, g2, Ds2, qs2, t1, t2, t3, t4, t5⟩ := w_rc hA hne hpl hX hN.1 r hr
  obtain ⟨q1, q2⟩ := tk_inj B2 B (okL_u o1) (fun p hp => ((n2.2 p).mp hp).2) (o3.symm.trans n1)
  subst q1
  have t3' : isoV B2 sgB g2 T2 := isoV_sg t3 (fun p hp => (q2 p hp).symm)
  have l1 := okF_len n2
  have l2 := t3.1.2.1
  have ecB : cB = T2.1 := by omega
  subst ecB
  obtain ⟨RB, i1, i2, i3, i4⟩ := net_id t3' n2 n4 t2
  have hplB : plnA B2 sgB := fun f9 T9 h9 hp9 => o5 f9 T9 (isoV_sg h9 q2) hp9
  have hpnB : nt_plane RB = true := hplB _ _ i1 i3
  have mb := mb_all i1 i3 n4 hpnB hk
  have hO9 := hO
  rw [← i4] at hO
  obtain ⟨j, hj, hall⟩ := mb.2 B' sg' hO
  obtain ⟨b1, f1, b2⟩ := hall _ _ RB (mk9 kd RB) i2.2.2.1
  have nT3 := (mv_nv i2 hk _ _ RB j (mk9 kd RB) i2.2.2.1 hj).2 b1
  have l3 := OM_len hO
  obtain ⟨f3, b3⟩ := nf_show b2 (by omega) nT3 hE hnf
  obtain ⟨RE, hRE, hallE⟩ := hXE.2 (rvK kd) (rvK_5 hk)
  obtain ⟨v1, v2, v3, v4⟩ := nx_iso hRE hEp
  obtain ⟨f4, b4⟩ := iso_tr b2 b3 v1
  obtain ⟨j', hj', hall'⟩ := tb_all hk i1 hO b4 v2 v3 hplB
  rcases hallE j' hj' with ⟨F, P, Q, d1, d2, d3⟩ | ⟨C', ⟨F, P, Q, Ds, qs, d1, d2, d3, d4, rfl⟩, hCX⟩
  · have := (hall' F P Q d1 d2).1
    rw [d3] at this
    cases this
  · obtain ⟨w1, f5, w2⟩ := hall' F P Q d1 d2
    have nT5 := (mv_nv hRE.2.2.1 (rvK_5 hk) F P Q j' d1 d2 hj').2 w1
    refine ⟨C, hC, ?_⟩
    rw [o2, ← t5, cd_same t3' w2 n4 t1 nT5 t4 d4]
    exact hCX
theorem way_bw {X XE : List cdT} {N : List (List Nat)} (hA : okL A c) (hne : A ≠ []) (hpl : plnA A sg) (hX : surC A sg c X) (hN : nerR A sg c N) (hE : okL E cE) (hEp : plnA E sgE) (hEm : nrm E sgE) (hXE : surC E sgE cE XE) (h : ∃ C, C ∈ X ∧ C ∈ XE) : ∃ r, r ∈ N ∧ ∀ B sgB cB, nxR r B sgB cB → ∃ kd B' sg', kdm cE cB kd ∧ OM B sgB cB kd B' sg' ∧ ∀ r', nfR B' sg' r' → r' = tk sgE E := by
  obtain ⟨C, hC, hCE⟩ := h
  obtain ⟨r, hr, B, sB, cB, o1, o2, o3, o4, o5, T2, g2, Ds2, qs2, t1, t2, t3, t4, t5⟩ := w_cr hA hne hpl hX hN C hC
  refine ⟨r, hr, ?_⟩
  rintro B9 sgB cB9 ⟨n1, n2, n3, n4⟩
  obtain ⟨p1, p2⟩ := tk_inj B B9 (okL_u o1) (fun p hp => ((n2.2 p).mp hp).2) (o3.symm.trans n1)
  subst p1
  have t3' : isoV B sgB g2 T2 := isoV_sg t3 (fun p hp => (p2 p hp).symm)
  have hplB : plnA B sgB := fun f9 T9 h9 hp9 => o5 f9 T9 (isoV_sg h9 p2) hp9
  obtain ⟨kd, RE, j, hk, hRE, hj, F, P, Q, Ds, qs, d1, d2, d3, d4, e9⟩ := hXE.1 C hCE
  obtain ⟨v1, v2, v3, v4⟩ := nx_iso hRE hEp
  have mbE := mb_all v1 v2 hE.2.2.2.2 v3 hk
  obtain ⟨E', sg', hO, hall⟩ := mbE.1 j hj ⟨F, P, Q, d1, d2, d3⟩
  obtain ⟨-, f1, b1⟩ := hall F P Q d1 d2
  have nT5 := (mv_nv hRE.2.2.1 hk F P Q j d1 d2 hj).2 d3
  have l3 := OM_len hO
  obtain ⟨m, Pp, hmk⟩ := mk_ex E'
  obtain ⟨A2, sg2, e1, e2, e3, -, f2, e5⟩ := enc_iso (isoS_iff.mp b1.1) (by have := hE.2.2.2.2; omega) nT5 hmk d4
  obtain ⟨q1, q2, q3⟩ := clC_inj e2 o1 (e3.symm.trans (e9.symm.trans o2))
  subst q1
  have b2 : isoV A2 sgB f2 (mv_T kd j Q RE F P) := isoV_sg e5 (fun p hp => by rw [← p2 p hp, q3 p.1 ((e2.1.2 p).mp hp).1])
  have l1 := okF_len n2
  have l2 := t3.1.2.1
  have ecB : cB9 = T2.1 := by omega
  subst ecB
  obtain ⟨RB, i1, i2, i3, i4⟩ := net_id t3' n2 n4 t2
  have hpnB : nt_plane RB = true := hplB _ _ i1 i3
  obtain ⟨f4, b4⟩ := iso_tr b1 b2 i1
  obtain ⟨j', hj', hall'⟩ := tb_all hk v1 hO b4 i3 hpnB hEp
  obtain ⟨w1, f5, w2⟩ := hall' _ _ RB (mk9 (rvK kd) RB) i2.2.2.1
  have mbB := mb_all i1 i3 n4 hpnB (rvK_5 hk)
  obtain ⟨B', sg9, hO2, hall2⟩ := mbB.1 j' hj' ⟨_, _, RB, mk9 (rvK kd) RB, i2.2.2.1, w1⟩
  obtain ⟨-, f6, w3⟩ := hall2 _ _ RB (mk9 (rvK kd) RB) i2.2.2.1
  have nT6 := (mv_nv i2 (rvK_5 hk) _ _ RB j' (mk9 (rvK kd) RB) i2.2.2.1 hj').2 w1
  obtain ⟨Ds6, qs6, z6⟩ := cp_ex nT6
  have l4 := OM_len hO2
  obtain ⟨TE, gE, DE, qE, x1, x2, x3, x4, x5⟩ := hEm
  have eC := cd_same x3 w2 hE.2.2.2.2 x1 nT6 x4 z6
  have fin : ∀ r', nfR B' sg9 r' → r' = tk sgE E := by
    rintro r' ⟨m9, P9, hk9, e8⟩
    obtain ⟨A9, s9, a1, a2, a3, -⟩ := enc_pk (isoS_iff.mp w3.1) (by omega) nT6 hk9 z6
    have eD := eC
    rw [x5, a3] at eD
    exact e8.trans (a1.trans ((clC_tk hE a2).mp eD).symm)
  have cnt := mvT_1 (rvK_5 hk) hj' w1
  have l5 := w2.1.2.1
  have l6 := okF_len hE.1
  rw [show (mv_T (rvK kd) j' RB RB (np_faces RB.1 RB.2.2.1 RB.2.2.2).1 (np_parts RB.1 RB.2.2.1.1).1).1 = cE by omega, i4] at cnt
  exact ⟨rvK kd, B', sg9, cnt, by rw [← i4]; exact hO2, fin⟩
/-- one move: the code stands there if and only if the row does -/
theorem way_one {X : List cdT} {N : List (List Nat)} (hA : okL A c) (hne : A ≠ []) (hpl : plnA A sg) (hX : surC A sg c X) (hN : nerR A sg c N) (hE : okL E cE) : tk sgE E ∈ N ↔ clC sgE E ∈ X := by
  constructor
  · intro h
    obtain ⟨C, hC, B, sB, c2, o1, o2, o3, -⟩ := w_rc hA hne hpl hX hN.1 _ h
    rw [(clC_tk hE o1).mpr o3, ← o2]
    exact hC
  · intro h
    obtain ⟨r, hr, B, sB, c2, o1, o2, o3, -⟩ := w_cr hA hne hpl hX hN _ h
    rw [(clC_tk hE o1).mp o2, ← o3]
    exact hr
end XW1
end
section
/-! 99zzzzzzzzzzzzf.xway2 -/
/-! the reference's way, exactly -/
def fB2 (g : Nat) : Prop := 2 ≤ g ∧ g ≤ 9 ∨ g = 23 ∨ g = 24 ∨ g = 27 ∨ g = 29 ∨ 31 ≤ g ∧ g ≤ 34 ∨ 1000 ≤ g
def snk2 (X : (Nat → Nat → Int32) → Prop) (z0 z : ow_MS) (S : List Nat → Prop) (n : Nat) : Prop := gI X z ∧ z.1 30 = nI 2 ∧ fr fB2 z0 z ∧ ∃ Ls, z.1 24 = nI Ls.length ∧ rwS 23 z Ls ∧ Ls.length ≤ 1000 ∧ (∀ r, r ∈ Ls → S r) ∧ (Ls.length < 1000 → ∀ r, S r → r ∈ Ls)
theorem snk2_ok {X : (Nat → Nat → Int32) → Prop} {z0 : ow_MS} : snkF (snk2 X z0) := by
  refine ⟨fun P z z1 S n hf hP h => ?_, fun z S n A sg hn h hA hG hF h24 h6 => ?_, fun z S n n' hn h => h⟩
  · obtain ⟨h1, h2, h3, Ls, h4, h5, h6⟩ := h
    refine ⟨gI_fr hf (fun g hg => by have := hP g hg; unfold per; omega) h1, by rw [(hf 30 (fun h9 => by have := hP _ h9; omega)).1]; exact h2, fr_tr h3 (fr_mono (fun g hg => by have := hP g hg; unfold fB2; omega) hf), Ls, by rw [(hf 24 (fun h9 => by have := hP _ h9; omega)).1]; exact h4, rwS_fr hf (fun h9 => by have := hP _ h9; omega) h5, h6⟩
  · obtain ⟨h1, h2, h3, Ls, h4, h5, h7, h9, h10⟩ := h
    refine e_X13_offer ?_; unfold qm_X13_offer_0
    refine w_cs0 (tr_pack (o := 0) pn3 (by omega) ml27 (by omega) (by omega) (by omega) (by omega) hF hA hG) (fun z1 ⟨m, P, g1, g2, g3, g4, _, _⟩ => ?_)
    have i1 : gI X z1 := gI_fr g3 (fun g hg => by unfold frQ at hg; unfold per; omega) h1
    have i2 : z1.1 30 = nI 2 := by rw [(g3 30 (by unfold frQ; omega)).1]; exact h2
    have i3 : rwS 23 z1 Ls := rwS_fr g3 (by unfold frQ; omega) h5
    have i4 : z1.1 24 = nI Ls.length := by rw [(g3 24 (by unfold frQ; omega)).1]; exact h4
    have f1 : fr fB2 z z1 := fr_mono (fun g hg => by unfold frQ at hg; unfold fB2; omega) g3
    refine w_rdF i2 (w_ifF (by decide) (w_ifF (by decide) (w_ifF (by decide) (w_ifT (by decide) (w_rdF i4 (w_cs1 (xm_offerRow (M := 1000) ml23 (by omega) (by omega) h7 (by omega) g2 (dRow_pack hF g1 h24 h6 g2) i3) (fun a z2 ⟨Ls', k1, k2, k3, k4, k5⟩ => w_wrF (w_some ?_))))))))
    have k1 : a = nI Ls'.length := k1
    have f2 : fr (fun g => g = 23 ∨ g = 24) z1 (usF z2 24 a) := fr_F2 (fr_mono (fun g hg => Or.inl hg) k2) (Or.inr rfl)
    refine ⟨⟨fun r => r = pkR A sg m P ∨ S r, ⟨fun r hr => Or.inr hr, fun r hr => ?_, fun A' sg' ⟨e1, e2⟩ => ?_⟩, gI_fr f2 (fun g hg => by unfold per; omega) i1, by rw [(f2 30 (by omega)).1]; exact i2, fr_tr h3 (fr_tr f1 (fr_mono (fun g hg => by unfold fB2; omega) f2)), Ls', by rw [po_usF_at, k1], rwS_fr (P := fun g => g = 24) (fr_F rfl) (by decide) k3, k4, fun r hr => ?_, fun hlt r hr => ?_⟩, ?_⟩
    · rcases hr with hr | hr
      · exact Or.inr ⟨A, sg, ⟨rfl, rfl⟩, m, P, g1, hr⟩
      · exact Or.inl hr
    · rw [e1, e2]
      exact ⟨_, Or.inl rfl, m, P, g1, rfl⟩
    · rcases k5 with ⟨e, -⟩ | ⟨-, e⟩
      · rw [e] at hr
        exact Or.inr (h9 r hr)
      · rw [e] at hr
        rcases List.mem_append.mp hr with hr | hr
        · exact Or.inr (h9 r hr)
        · exact Or.inl (List.mem_singleton.mp hr)
    · rcases k5 with ⟨e, hm⟩ | ⟨-, e⟩
      · rw [e] at hlt ⊢
        rcases hr with hr | hr
        · rcases hm with hm | hm
          · rw [hr]
            exact hm
          · omega
        · exact h10 hlt r hr
      · rw [e] at hlt ⊢
        rw [List.length_append] at hlt
        rcases hr with hr | hr
        · rw [hr]
          exact List.mem_append_right _ (List.mem_singleton.mpr rfl)
        · exact List.mem_append_left _ (h10 (by omega) r hr)
    · exact fr_tr (fr_mono (fun g hg => by unfold frQ at hg; unfold frO; omega) g3) (fr_mono (fun g hg => Or.inl (by omega)) f2)
/-- offers that are only looked at -/
def snk1 (X : (Nat → Nat → Int32) → Prop) (z0 : ow_MS) (T0 : List Nat) (z : ow_MS) (S : List Nat → Prop) (n : Nat) : Prop := gI X z ∧ z.1 30 = nI 1 ∧ fr (fun g => fB2 g ∧ g ≠ 23 ∧ g ≠ 24) z0 z ∧ rc_At z 28 0 T0 ∧ (z.1 29 = 1 ∧ S T0 ∨ z.1 29 = 0 ∧ ¬ S T0)
theorem snk1_ok {X : (Nat → Nat → Int32) → Prop} {z0 : ow_MS} {T0 : List Nat} : snkF (snk1 X z0 T0) := by
  refine ⟨fun P z z1 S n hf hP h => ?_, fun z S n A sg hn h hA hG hF h24 h6 => ?_, fun z S n n' hn h => h⟩
  · obtain ⟨h1, h2, h3, h4, h5⟩ := h
    refine ⟨gI_fr hf (fun g hg => by have := hP g hg; unfold per; omega) h1, by rw [(hf 30 (fun h9 => by have := hP _ h9; omega)).1]; exact h2, fr_tr h3 (fr_mono (fun g hg => by have := hP g hg; unfold fB2; omega) hf), rc_fr hf (fun h9 => by have := hP _ h9; omega) h4, ?_⟩
    rw [(hf 29 (fun h9 => by have := hP _ h9; omega)).1]
    exact h5
  · obtain ⟨h1, h2, h3, h4, h5⟩ := h
    have hT := h4.1
    refine e_X13_offer ?_; unfold qm_X13_offer_0
    refine w_cs0 (tr_pack (o := 0) pn3 (by omega) ml27 (by omega) (by omega) (by omega) (by omega) hF hA hG) (fun z1 ⟨m, P, g1, g2, g3, g4, _, _⟩ => ?_)
    have i1 : gI X z1 := gI_fr g3 (fun g hg => by unfold frQ at hg; unfold per; omega) h1
    have i2 : z1.1 30 = nI 1 := by rw [(g3 30 (by unfold frQ; omega)).1]; exact h2
    have i3 : rc_At z1 28 0 T0 := rc_fr g3 (by unfold frQ; omega) h4
    have i4 : z1.1 29 = z.1 29 := (g3 29 (by unfold frQ; omega)).1
    have hl := g2.1
    have f1 : fr (fun g => fB2 g ∧ g ≠ 23 ∧ g ≠ 24) z z1 := fr_mono (fun g hg => by unfold frQ at hg; unfold fB2; omega) g3
    refine w_rdF i2 (w_ifF (by decide) (w_ifF (by decide) (w_ifT (by decide) (w_rdF i4 (w_cs1 (tr_same (o := 0) (p := 0) ml27 ml28 (by omega) (by omega) (by omega) (by omega) g2 i3) (fun a z2 ea => ?_))))))
    cases ea
    have hv : z.1 29 ||| bZ (decide (pkR A sg m P = T0)) = 1 ∧ (pkR A sg m P = T0 ∨ S T0) ∨ z.1 29 ||| bZ (decide (pkR A sg m P = T0)) = 0 ∧ ¬ (pkR A sg m P = T0 ∨ S T0) := by
      by_cases e : pkR A sg m P = T0
      · refine Or.inl ⟨?_, Or.inl e⟩
        rw [decide_eq_true e]
        rcases h5 with ⟨h5, -⟩ | ⟨h5, -⟩ <;> rw [h5] <;> decide
      · rw [decide_eq_false e]
        rcases h5 with ⟨h5, h6⟩ | ⟨h5, h6⟩ <;> rw [h5]
        · exact Or.inl ⟨by decide, Or.inr h6⟩
        · exact Or.inr ⟨by decide, fun h9 => h9.elim e h6⟩
    refine w_okZ (by rcases hv with ⟨hv, -⟩ | ⟨hv, -⟩ <;> rw [hv] <;> simp) (w_wrF (w_some ?_))
    have f2 : fr (fun g => g = 29) z1 (usF z1 29 (z.1 29 ||| bZ (decide (pkR A sg m P = T0)))) := fr_F rfl
    refine ⟨⟨fun r => pkR A sg m P = r ∨ S r, ⟨fun r hr => Or.inr hr, fun r hr => ?_, fun A' sg' ⟨e1, e2⟩ => ?_⟩, gI_fr f2 (fun g hg => by unfold per; omega) i1, by rw [(f2 30 (by omega)).1]; exact i2, fr_tr h3 (fr_tr f1 (fr_mono (fun g hg => by unfold fB2; omega) f2)), rc_fr f2 (by decide) i3, ?_⟩, ?_⟩
    · rcases hr with hr | hr
      · exact Or.inr ⟨A, sg, ⟨rfl, rfl⟩, m, P, g1, hr.symm⟩
      · exact Or.inl hr
    · rw [e1, e2]
      exact ⟨_, Or.inl rfl, m, P, g1, rfl⟩
    · rw [po_usF_at]
      exact hv
    · exact fr_tr (fr_mono (fun g hg => by unfold frQ at hg; unfold frO; omega) g3) (fr_mono (fun g hg => Or.inl (by omega)) f2)
end
section
/-! 99zzzzzzzzzzzzg.xway3 -/
/-! the reference's way: its answer -/
def wyZ (g : Nat) : Prop := g = 1 ∨ g = 28 ∨ g = 30 ∨ fB2 g
def way9 (A : rn_L) (sg : Nat → Bool) (E : rn_L) (sgE : Nat → Bool) (v : Int32) : Prop := v = 0 ∧ tk sg A = tk sgE E ∨ tk sg A ≠ tk sgE E ∧ ∃ (N : List (List Nat)) (c : Nat), okF A.flatten c ∧ N.Nodup ∧ (∀ r, r ∈ N → ∃ kd A' sg', kd < 5 ∧ OM A sg c kd A' sg' ∧ nfR A' sg' r) ∧ (N.length < 1000 → ∀ kd A' sg', kd < 5 → OM A sg c kd A' sg' → ∃ r, r ∈ N ∧ nfR A' sg' r) ∧ (v = 1 ∧ tk sgE E ∈ N ∨ tk sgE E ∉ N ∧ (v = 2 ∧ (∃ r B sgB cB kd B' sg', r ∈ N ∧ nxR r B sgB cB ∧ kd < 5 ∧ OM B sgB cB kd B' sg' ∧ nfR B' sg' (tk sgE E)) ∨ v = -1 ∧ ∀ r, r ∈ N → ∃ B sgB cB, nxR r B sgB cB ∧ ∀ kd B' sg', kdm (E.flatten.length / 2) cB kd → OM B sgB cB kd B' sg' → ∃ r', nfR B' sg' r' ∧ r' ≠ tk sgE E))
section XW3
variable {X : (Nat → Nat → Int32) → Prop} {z : ow_MS} {St : plT} {x x' : Int32}
theorem nx_uni {r : List Nat} {A : rn_L} {sg : Nat → Bool} {c : Nat} (h : nxR r A sg c) : vOf r = 2 * c := by
  rw [h.1, vOf_tk, okF_len h.2.1]
theorem xq_way (h : gI X z) (hR : relR z St) : Te (fun K => qe_X13_way K x x' z) (fun r => (rFl X z 1 r ∧ ((∀ d, d < 40 → x = nI d → St d = none) ∨ ∀ d, d < 40 → x' = nI d → St d = none)) ∨ ∃ d A sg e E sgE, d < 40 ∧ x = nI d ∧ St d = some (A, sg) ∧ e < 40 ∧ x' = nI e ∧ St e = some (E, sgE) ∧ (rFl X z 2 r ∧ (8 < A.flatten.length ∨ 8 < E.flatten.length) ∨ A.flatten.length ≤ 8 ∧ E.flatten.length ≤ 8 ∧ gI X r.2 ∧ r.2.1 1 = 0 ∧ fr wyZ z r.2 ∧ way9 A sg E sgE r.1)) := by
  let Q : Int32 × ow_MS → Prop := fun r => (rFl X z 1 r ∧ ((∀ d, d < 40 → x = nI d → St d = none) ∨ ∀ d, d < 40 → x' = nI d → St d = none)) ∨ ∃ d A sg e E sgE, d < 40 ∧ x = nI d ∧ St d = some (A, sg) ∧ e < 40 ∧ x' = nI e ∧ St e = some (E, sgE) ∧ (rFl X z 2 r ∧ (8 < A.flatten.length ∨ 8 < E.flatten.length) ∨ A.flatten.length ≤ 8 ∧ E.flatten.length ≤ 8 ∧ gI X r.2 ∧ r.2.1 1 = 0 ∧ fr wyZ z r.2 ∧ way9 A sg E sgE r.1)
  have h1 := gI_1 (c := 0) h
  have hR1 := relR_1 (c := 0) hR
  have c1 : ((∀ d, d < 40 → x = nI d → St d = none) ∨ ∀ d, d < 40 → x' = nI d → St d = none) → Tt (fun K k => q_X13_way K k 1 x x' 0 0 0 0 0 (usF z 1 0)) Q := by
    intro h0
    refine u_X13_way_1 ?_; unfold qm_X13_way_1
    exact w_mono (w_failX (k := 1) h1 fr_1) (fun r hr => Or.inl ⟨hr, h0⟩)
  refine e_X13_way ?_
  refine u_X13_way_0 ?_; unfold qm_X13_way_0
  refine w_wrF (w_hasX hR1 (fun h0 => w_ifT rfl (c1 (Or.inl h0))) (fun d9 A sg hd9 hx hSt hv hne => w_ifF (by decide) (w_hasX hR1 (fun h0 => w_ifT rfl (c1 (Or.inr h0))) (fun e9 E sg2 he9 hy hSe hw hne2 => w_ifF (by decide) ?_))))
  subst hx
  subst hy
  have c2 : (8 < A.flatten.length ∨ 8 < E.flatten.length) → Tt (fun K k => q_X13_way K k 2 (nI d9) (nI e9) 0 0 0 0 0 (usF z 1 0)) Q := by
    intro h0
    refine u_X13_way_2 ?_; unfold qm_X13_way_2
    exact w_mono (w_failX (k := 2) h1 fr_1) (fun r hr => Or.inr ⟨d9, A, sg, e9, E, sg2, hd9, rfl, hSt, he9, rfl, hSe, Or.inl ⟨hr, h0⟩⟩)
  have l1 := hv.1.1
  have l2 := hw.1.1
  have v1 := vOf_le (tk sg A)
  have v2 := vOf_le (tk sg2 E)
  have va : vOf (tk sg A) = A.flatten.length := vOf_tk A
  have vb : vOf (tk sg2 E) = E.flatten.length := vOf_tk E
  rw [show (32 : Int32) * nI d9 = nI (32 * d9) from pk_mul 32 d9, show (32 : Int32) * nI e9 = nI (32 * e9) from pk_mul 32 e9]
  refine w_cs1 (tr_visits ml12 (by omega) (by omega) hv.1) (fun a y ea => ?_)
  cases ea
  rw [va]
  refine w_lt (a := 8) (by omega) (by omega) (fun h9 => c2 (Or.inl h9)) (fun hA8 => w_cs1 (tr_visits ml12 (by omega) (by omega) hw.1) (fun a y ea => ?_))
  cases ea
  rw [vb]
  refine w_le (b := 8) (by omega) (by omega) (fun hE8 => ?_) (fun h9 => c2 (Or.inr (by omega)))
  have hA8 : A.flatten.length ≤ 8 := by omega
  refine w_cs1 (xq_alike h1 hR1) (fun a y ⟨⟨ia, ie, ifr⟩, hal⟩ => ?_)
  have ia : gI X y := ia
  have ie : y.1 1 = 0 := ie
  have ifr : fr rPs (usF z 1 0) y := ifr
  have hfy : fr wyZ z y := fr_tr (fr_F (Or.inl rfl)) (fr_mono (fun g hg => by unfold rPs rSc at hg; unfold wyZ fB2; omega) ifr)
  have fin : ∀ {v : Int32} {y1 : ow_MS}, gI X y1 → y1.1 1 = 0 → fr wyZ z y1 → way9 A sg E sg2 v → Q (v, y1) := fun q1 q2 q3 q4 => Or.inr ⟨d9, A, sg, e9, E, sg2, hd9, rfl, hSt, he9, rfl, hSe, Or.inr ⟨hA8, hE8, q1, q2, q3, q4⟩⟩
  have alq : alG St (nI d9) (nI e9) ↔ tk sg A = tk sg2 E := by
    constructor
    · rintro ⟨d, A1, s1, e, B1, s2, k1, k2, k3, k4, k5, k6, k7⟩
      have ed := nI_inj9 (a := d9) (b := d) (by omega) (by omega) k2
      have ee := nI_inj9 (a := e9) (b := e) (by omega) (by omega) k5
      subst ed
      subst ee
      rw [hSt] at k3
      rw [hSe] at k6
      cases k3
      cases k6
      exact k7
    · intro e
      exact ⟨d9, A, sg, e9, E, sg2, hd9, rfl, hSt, he9, rfl, hSe, e⟩
  have hal : a = 1 ∧ alG St (nI d9) (nI e9) ∨ a = 0 ∧ ¬ alG St (nI d9) (nI e9) := hal
  refine w_if (fun h0 => ?_) (fun h0 => ?_)
  rotate_left
  · rcases hal with ⟨-, q⟩ | ⟨q, -⟩
    · exact w_some (fin ia ie hfy (Or.inl ⟨rfl, alq.mp q⟩))
    · exact absurd q h0
  have hneq : tk sg A ≠ tk sg2 E := by
    rcases hal with ⟨q, -⟩ | ⟨-, q⟩
    · rw [q] at h0
      exact absurd h0 (by decide)
    · exact fun e => q (alq.mpr e)
  have e12y : y.2.1 12 = (usF z 1 0).2.1 12 := (ifr 12 (by unfold rPs rSc; omega)).2.1
  have hvy : vRow y 12 (32 * d9) A sg := ⟨⟨hv.1.1, hv.1.2.1, by rw [e12y]; exact hv.1.2.2.1, fun k t hk => by rw [e12y]; exact hv.1.2.2.2 k t hk⟩, hv.2⟩
  have hwy : vRow y 12 (32 * e9) E sg2 := ⟨⟨hw.1.1, hw.1.2.1, by rw [e12y]; exact hw.1.2.2.1, fun k t hk => by rw [e12y]; exact hw.1.2.2.2 k t hk⟩, hw.2⟩
  obtain ⟨c, hcA, hc12⟩ := hv.2.1
  obtain ⟨cE, hcE, hcE12⟩ := hw.2.1
  have lE := okF_len hcE
  obtain ⟨T0, hT0⟩ : ∃ T0, T0 = tk sg2 E := ⟨_, rfl⟩
  -- what is known of the near rows
  let GN : List (List Nat) → Prop := fun N => N.Nodup ∧ (∀ r, r ∈ N → ∃ kd A' sg', kd < 5 ∧ OM A sg c kd A' sg' ∧ nfR A' sg' r) ∧ (N.length < 1000 → ∀ kd A' sg', kd < 5 → OM A sg c kd A' sg' → ∃ r, r ∈ N ∧ nfR A' sg' r)
  let J : List (List Nat) → ow_MS → Prop := fun N y1 => gI X y1 ∧ y1.1 1 = 0 ∧ fr wyZ z y1 ∧ rc_At y1 28 0 T0 ∧ y1.1 24 = nI N.length ∧ N.length ≤ 1000 ∧ rwS 23 y1 N
  have ways : ∀ {N : List (List Nat)} {v : Int32}, GN N → (v = 1 ∧ tk sg2 E ∈ N ∨ tk sg2 E ∉ N ∧ (v = 2 ∧ (∃ r B sgB cB kd B' sg', r ∈ N ∧ nxR r B sgB cB ∧ kd < 5 ∧ OM B sgB cB kd B' sg' ∧ nfR B' sg' (tk sg2 E)) ∨ v = -1 ∧ ∀ r, r ∈ N → ∃ B sgB cB, nxR r B sgB cB ∧ ∀ kd B' sg', kdm (E.flatten.length / 2) cB kd → OM B sgB cB kd B' sg' → ∃ r', nfR B' sg' r' ∧ r' ≠ tk sg2 E)) → way9 A sg E sg2 v := fun {N v} g1 g2 => Or.inr ⟨hneq, N, c, hcA, g1.1, g1.2.1, g1.2.2, g2⟩
  have c9a : ∀ (x3 x4 : Int32) (N : List (List Nat)) (y1 : ow_MS), J N y1 → GN N → tk sg2 E ∉ N → y1.1 29 = 1 → (∃ r B sgB cB kd B' sg', r ∈ N ∧ nxR r B sgB cB ∧ kd < 5 ∧ OM B sgB cB kd B' sg' ∧ nfR B' sg' (tk sg2 E)) → Tt (fun K i => q_X13_way K i 9 (nI d9) (nI e9) x3 x4 0 0 0 y1) Q := by
    rintro x3 x4 N y1 ⟨j1, j2, j3, -⟩ hg hno h29 hf
    refine u_X13_way_9 ?_; unfold qm_X13_way_9
    exact w_rdF h29 (w_ifF (by decide) (w_some (fin j1 j2 j3 (ways hg (Or.inr ⟨hno, Or.inl ⟨rfl, hf⟩⟩)))))
  have l6 : ∀ (k t : Nat) (N : List (List Nat)) (y1 : ow_MS), t + k = N.length → J N y1 → GN N → tk sg2 E ∉ N → y1.1 30 = nI 1 → y1.1 29 = 0 → (∀ (i : Nat) r, i < t → N[i]? = some r → ∃ B sgB cB, nxR r B sgB cB ∧ ∀ kd B' sg', kdm (E.flatten.length / 2) cB kd → OM B sgB cB kd B' sg' → ∃ r', nfR B' sg' r' ∧ r' ≠ tk sg2 E) → Tt (fun K i => q_X13_way K i 6 (nI d9) (nI e9) (nI cE) (nI t) 0 0 0 y1) Q := by
    intro k
    induction k with
    | zero =>
      intro t N y1 ht hj hg hno h30 h29 hI
      obtain ⟨j1, j2, j3, j4, j5, j6, j7⟩ := hj
      refine u_X13_way_6 ?_; unfold qm_X13_way_6
      refine w_rdF j5 (w_leT (by omega) (by omega) ?_)
      refine u_X13_way_9 ?_; unfold qm_X13_way_9
      refine w_rdF h29 (w_ifT rfl (w_some (fin j1 j2 j3 (ways hg (Or.inr ⟨hno, Or.inr ⟨rfl, fun r hr => ?_⟩⟩)))))
      obtain ⟨i, hi, e⟩ := List.getElem_of_mem hr
      exact hI i r (by omega) (by rw [List.getElem?_eq_getElem hi, e])
    | succ k ih =>
      intro t N y1 ht hj hg hno h30 h29 hI
      obtain ⟨j1, j2, j3, j4, j5, j6, j7⟩ := id hj
      have htN : t < N.length := by omega
      have hat : N[t]? = some N[t] := List.getElem?_eq_getElem htN
      obtain ⟨B, sg3, hD⟩ := j7.2.1 t htN
      have eB : tk sg3 B = N[t] := rc_uni hD.1 (j7.1 t _ hat)
      obtain ⟨cB, hcB, hcB12⟩ := hD.2.1
      have hnx : nxR N[t] B sg3 cB := ⟨eB.symm, hcB, hcB12, hD.2.2⟩
      have ld := hD.1.1
      have vd := vOf_le (tk sg3 B)
      have vdB : vOf (tk sg3 B) = 2 * cB := by rw [eB]; exact nx_uni hnx
      have c7 : ∀ (x5 : Int32) (kd : Nat), kd < 5 → (∀ kd', kdm (E.flatten.length / 2) cB kd' → kd' = kd) → Tt (fun K i => q_X13_way K i 7 (nI d9) (nI e9) (nI cE) (nI t) x5 0 (nI kd) y1) Q := by
        intro x5 kd hkd hku
        refine u_X13_way_7 ?_; unfold qm_X13_way_7
        rw [show (32 : Int32) * nI t = nI (32 * t) from pk_mul 32 t]
        refine w_ifF (rn_neg1 (by omega)) (w_cs0 (to_unpack (by omega) ml23 (by omega) (by omega) hD) (fun y2 ⟨a1, a2, a3⟩ => w_cs0 (to_link hD a1 a2) (fun y3 ⟨b1, b2⟩ => ?_)))
        have f13 : fr (fun g => 1001 ≤ g ∧ g ≤ 1011) y1 y3 := fr_tr (fr_mono (fun g hg => by omega) a3) (fr_mono (fun g hg => by omega) b2)
        have hs : snk1 X y3 T0 y3 (fun _ => False) 0 := by
          refine ⟨gI_net pn1 f13 (fun g hg => by omega) j1, ?_, fr_rf, rc_fr f13 (by omega) j4, Or.inr ⟨?_, fun h9 => h9⟩⟩
          · rw [(f13 30 (by omega)).1]
            exact h30
          · rw [(f13 29 (by omega)).1]
            exact h29
        refine w_cs0 (xr_try snk1_ok pn1 (by omega) hcB hkd b1 hs) (fun y4 ⟨⟨S', s1, s2, s3, s4, s5, s6⟩, _⟩ => ?_)
        have f34 : fr (fun g => fB2 g ∧ g ≠ 23 ∧ g ≠ 24) y1 y4 := fr_tr (fr_mono (fun g hg => by unfold fB2; omega) f13) s4
        have hj4 : J N y4 := ⟨s2, by rw [(f34 1 (by unfold fB2; omega)).1]; exact j2, fr_tr j3 (fr_mono (fun g hg => Or.inr (Or.inr (Or.inr hg.1))) f34), s5, by rw [(f34 24 (by omega)).1]; exact j5, j6, rwS_fr f34 (by omega) j7⟩
        refine u_X13_way_8 ?_; unfold qm_X13_way_8
        rw [nI_1]
        rcases s6 with ⟨q1, q2⟩ | ⟨q1, q2⟩
        · rcases s1.2.1 T0 q2 with h9 | ⟨B', sg', hO, hn⟩
          · exact h9.elim
          · have hf : ∃ r B sgB cB kd B' sg', r ∈ N ∧ nxR r B sgB cB ∧ kd < 5 ∧ OM B sgB cB kd B' sg' ∧ nfR B' sg' (tk sg2 E) := ⟨_, B, sg3, cB, kd, B', sg', List.getElem_mem htN, hnx, hkd, hO, by rw [← hT0]; exact hn⟩
            refine u_X13_way_6 ?_; unfold qm_X13_way_6
            refine w_rdF hj4.2.2.2.2.1 (w_le (by omega) (by omega) (fun _ => c9a _ _ N y4 hj4 hg hno q1 hf) (fun _ => w_rdF q1 (w_ifF (by decide) (c9a _ _ N y4 hj4 hg hno q1 hf))))
        · refine ih (t + 1) N y4 (by omega) hj4 hg hno s3 q1 (fun i r hi hr => ?_)
          by_cases e : i = t
          · subst e
            rw [hat] at hr
            cases hr
            refine ⟨B, sg3, cB, hnx, fun kd' B' sg' hkm hO => ?_⟩
            have := hku kd' hkm
            subst this
            obtain ⟨r', w1, w2⟩ := s1.2.2 B' sg' hO
            exact ⟨r', w2, fun e9 => q2 (by rw [hT0, ← e9]; exact w1)⟩
          · exact hI i r (by omega) hr
      have c7n : ∀ (x5 : Int32), (∀ kd', ¬ kdm (E.flatten.length / 2) cB kd') → Tt (fun K i => q_X13_way K i 7 (nI d9) (nI e9) (nI cE) (nI t) x5 0 (-1) y1) Q := by
        intro x5 hku
        refine u_X13_way_7 ?_; unfold qm_X13_way_7
        refine w_ifT rfl ?_
        refine u_X13_way_8 ?_; unfold qm_X13_way_8
        rw [nI_1]
        refine ih (t + 1) N y1 (by omega) hj hg hno h30 h29 (fun i r hi hr => ?_)
        by_cases e : i = t
        · subst e
          rw [hat] at hr
          cases hr
          exact ⟨B, sg3, cB, hnx, fun kd' B' sg' hkm => absurd hkm (hku kd')⟩
        · exact hI i r (by omega) hr
      have eE : E.flatten.length / 2 = cE := by omega
      rw [eE] at c7 c7n
      refine u_X13_way_6 ?_; unfold qm_X13_way_6
      rw [show (32 : Int32) * nI t = nI (32 * t) from pk_mul 32 t]
      refine w_rdF j5 (w_leF (by omega) (by omega) (w_rdF h29 (w_ifT rfl (w_cs1 (tr_visits ml23 (by omega) (by omega) hD.1) (fun a y9 ea => ?_)))))
      cases ea
      rw [vdB, show nI (2 * cB) / 2 = nI cB from by rw [show nI (2 * cB) / 2 = nI (2 * cB / 2) from pk_div (d := 2) (by omega) (by omega) (by omega)]; congr 1; omega]
      have ed : ∀ i : Int, -100 ≤ i → i ≤ 100 → (nI cE - nI cB = iI i ↔ (cE : Int) - cB = i) := fun i i1 i2 => by
        rw [nI_iI, nI_iI, iI_sub]
        exact iI_eq (by omega) (by omega) (by omega) (by omega)
      have dm1 := ed (-1) (by omega) (by omega)
      have d1 := ed 1 (by omega) (by omega)
      have dm2 := ed (-2) (by omega) (by omega)
      have d2 := ed 2 (by omega) (by omega)
      have d0 := ed 0 (by omega) (by omega)
      refine w_nzI (by decide) (w_if (fun g => c7 _ 0 (by omega) (fun kd' hk' => ?_)) (fun g1 => w_if (fun g => c7 _ 1 (by omega) (fun kd' hk' => ?_)) (fun g2 => w_if (fun g => c7 _ 2 (by omega) (fun kd' hk' => ?_)) (fun g3 => w_if (fun g => c7 _ 3 (by omega) (fun kd' hk' => ?_)) (fun g4 => w_if (fun g => c7 _ 4 (by omega) (fun kd' hk' => ?_)) (fun g5 => c7n _ (fun kd' hk' => ?_)))))))
      · have := dm1.mp g
        unfold kdm at hk'
        omega
      · have := d1.mp g
        unfold kdm at hk'
        omega
      · have := dm2.mp g
        unfold kdm at hk'
        omega
      · have := d2.mp g
        unfold kdm at hk'
        omega
      · have := d0.mp g
        unfold kdm at hk'
        omega
      · have n1 : ¬ ((cE : Int) - cB = -1) := fun h9 => g1 (dm1.mpr h9)
        have n2 : ¬ ((cE : Int) - cB = 1) := fun h9 => g2 (d1.mpr h9)
        have n3 : ¬ ((cE : Int) - cB = -2) := fun h9 => g3 (dm2.mpr h9)
        have n4 : ¬ ((cE : Int) - cB = 2) := fun h9 => g4 (d2.mpr h9)
        have n5 : ¬ ((cE : Int) - cB = 0) := fun h9 => g5 (d0.mpr h9)
        unfold kdm at hk'
        omega
  have l5 : ∀ (k t : Nat) (N : List (List Nat)) (y1 : ow_MS), t + k = N.length → J N y1 → GN N → (∀ (i : Nat) r, i < t → N[i]? = some r → r ≠ T0) → Tt (fun K i => q_X13_way K i 5 (nI d9) (nI e9) (nI t) 0 0 0 0 y1) Q := by
    intro k
    induction k with
    | zero =>
      intro t N y1 ht hj hg hI
      obtain ⟨j1, j2, j3, j4, j5, j6, j7⟩ := id hj
      have hTl := j4.1
      have hTv := vOf_le T0
      refine u_X13_way_5 ?_; unfold qm_X13_way_5
      refine w_rdF j5 (w_leT (by omega) (by omega) (w_okZ (Or.inl rfl) (w_wrF (w_wrF ?_))))
      have f3 : fr (fun g => g = 29 ∨ g = 30) y1 (usF (usF y1 29 0) 30 1) := fr_F2 (fr_F (Or.inl rfl)) (Or.inr rfl)
      have hj3 : J N (usF (usF y1 29 0) 30 1) := ⟨gI_fr f3 (fun g hg => by unfold per; omega) j1, by rw [(f3 1 (by omega)).1]; exact j2, fr_tr j3 (fr_mono (fun g hg => by unfold wyZ fB2; omega) f3), rc_fr f3 (by omega) j4, by rw [(f3 24 (by omega)).1]; exact j5, j6, rwS_fr f3 (by omega) j7⟩
      refine w_cs1 (tr_visits (o := 0) ml28 (by omega) (by omega) hj3.2.2.2.1) (fun a y9 ea => ?_)
      cases ea
      rw [hT0, vb, lE, show nI (2 * cE) / 2 = nI cE from by rw [show nI (2 * cE) / 2 = nI (2 * cE / 2) from pk_div (d := 2) (by omega) (by omega) (by omega)]; congr 1; omega]
      refine w_nzI (by decide) (l6 N.length 0 N _ (by omega) hj3 hg (fun h9 => ?_) po_usF_at ?_ (fun i r hi => absurd hi (Nat.not_lt_zero _)))
      · obtain ⟨i, hi, e⟩ := List.getElem_of_mem h9
        exact hI i _ (by omega) (by rw [List.getElem?_eq_getElem hi, e]) hT0.symm
      · show (usF (usF y1 29 0) 30 1).1 29 = 0
        exact rf_ot (by omega) po_usF_at
    | succ k ih =>
      intro t N y1 ht hj hg hI
      obtain ⟨j1, j2, j3, j4, j5, j6, j7⟩ := id hj
      have hTl := j4.1
      have htN : t < N.length := by omega
      have hat : N[t]? = some N[t] := List.getElem?_eq_getElem htN
      have w1 := j7.1 t _ hat
      have wl := w1.1
      refine u_X13_way_5 ?_; unfold qm_X13_way_5
      rw [show (32 : Int32) * nI t = nI (32 * t) from pk_mul 32 t, nI_1]
      refine w_rdF j5 (w_leF (by omega) (by omega) (w_cs1 (tr_same (p := 0) ml23 ml28 (by omega) (by omega) (by omega) (by omega) w1 j4) (fun a y9 ea => ?_)))
      cases ea
      refine w_if (fun h9 => ih (t + 1) N y1 (by omega) hj hg (fun i r hi hr => ?_)) (fun h9 => w_some (fin j1 j2 j3 (ways hg (Or.inl ⟨rfl, ?_⟩))))
      · by_cases e : i = t
        · subst e
          rw [hat] at hr
          cases hr
          intro e9
          rw [decide_eq_true e9] at h9
          exact absurd h9 (by decide)
        · exact hI i r (by omega) hr
      · by_cases e : N[t] = T0
        · rw [← hT0, ← e]
          exact List.getElem_mem htN
        · rw [decide_eq_false e] at h9
          exact absurd rfl h9
  have l4 : ∀ (k t : Nat) (N : List (List Nat)) (y1 : ow_MS), t + k = 5 → J N y1 → (∀ r, r ∈ N → ∃ kd A' sg', kd < t ∧ OM A sg c kd A' sg' ∧ nfR A' sg' r) → (N.length < 1000 → ∀ kd A' sg', kd < t → OM A sg c kd A' sg' → ∃ r, r ∈ N ∧ nfR A' sg' r) → vRow y1 12 (32 * d9) A sg → Tt (fun K i => q_X13_way K i 4 (nI d9) (nI e9) (nI t) 0 0 0 0 y1) Q := by
    intro k
    induction k with
    | zero =>
      intro t N y1 ht hj hg1 hg2 hvy1
      have et : t = 5 := by omega
      subst et
      refine u_X13_way_4 ?_; unfold qm_X13_way_4
      exact w_leT (a := 5) (by omega) (by omega) (l5 N.length 0 N y1 (by omega) hj ⟨hj.2.2.2.2.2.2.2.2, hg1, hg2⟩ (fun i r hi => absurd hi (Nat.not_lt_zero _)))
    | succ k ih =>
      intro t N y1 ht hj hg1 hg2 hvy1
      obtain ⟨j1, j2, j3, j4, j5, j6, j7⟩ := id hj
      refine u_X13_way_4 ?_; unfold qm_X13_way_4
      rw [nI_1]
      refine w_leF (a := 5) (by omega) (by omega) (w_cs0 (to_open pn1 hd9 hvy1) (fun y2 ⟨o1, f1⟩ => w_wrF ?_))
      have f2 : fr (fun g => 1001 ≤ g ∧ g ≤ 1011 ∨ g = 30) y1 (usF y2 30 2) := fr_F2 (fr_mono (fun g hg => Or.inl (by omega)) f1) (Or.inr rfl)
      have hs : snk2 X (usF y2 30 2) (usF y2 30 2) (fun r => r ∈ N) 0 := ⟨gI_fr f2 (fun g hg => by unfold per; omega) j1, po_usF_at, fr_rf, N, by rw [(f2 24 (by omega)).1]; exact j5, rwS_fr f2 (by omega) j7, j6, fun r hr => hr, fun _ r hr => hr⟩
      refine w_cs0 (xr_try snk2_ok pn1 (by omega) hcA (show t < 5 by omega) (oNet_fr (F := fun g => g = 30) (fr_F rfl) (fun g hg => by omega) o1) hs) (fun y3 ⟨⟨S', s1, s2, s3, s4, N3, s5, s6, s7, s8, s9⟩, _⟩ => ?_)
      have f4 : fr (fun g => g = 30 ∨ fB2 g) y1 y3 := fr_tr (fr_mono (fun g hg => by unfold fB2; omega) f2) (fr_mono (fun g hg => Or.inr hg) s4)
      have hj3 : J N3 y3 := ⟨s2, by rw [(f4 1 (by unfold fB2; omega)).1]; exact j2, fr_tr j3 (fr_mono (fun g hg => by unfold wyZ; rcases hg with h9 | h9 <;> simp [h9]) f4), rc_fr f4 (by unfold fB2; omega) j4, s5, s7, s6⟩
      have hlt : N3.length < 1000 → N.length < 1000 := fun h9 => by
        have := nodup_le N N3 j7.2.2 (fun r hr => s9 h9 r (s1.1 r hr))
        omega
      refine ih (t + 1) N3 y3 (by omega) hj3 (fun r hr => ?_) (fun h9 kd A' sg' hkd hO => ?_) ⟨rc_fr f4 (by unfold fB2; omega) hvy1.1, hvy1.2⟩
      · rcases s1.2.1 r (s8 r hr) with h9 | ⟨A', sg', hO, hn⟩
        · obtain ⟨kd, A', sg', q1, q2⟩ := hg1 r h9
          exact ⟨kd, A', sg', by omega, q2⟩
        · exact ⟨t, A', sg', by omega, hO, hn⟩
      · by_cases e : kd = t
        · subst e
          obtain ⟨r', q1, q2⟩ := s1.2.2 A' sg' hO
          exact ⟨r', s9 h9 r' q1, q2⟩
        · obtain ⟨r', q1, q2⟩ := hg2 (hlt h9) kd A' sg' (by omega) hO
          exact ⟨r', s9 h9 r' (s1.1 r' q1), q2⟩
  have cp : ∀ (j k : Nat) (y2 : ow_MS), k + j = (tk sg2 E).length + 1 → fr (fun g => g = 28) y y2 → (∀ i, i < k → y2.2.1 28 i = y.2.1 12 (32 * e9 + i)) → Tt (fun K i => q_X13_way K i 3 (nI d9) (nI e9) (nI k) 0 0 0 0 y2) Q := by
    intro j
    induction j with
    | zero =>
      intro k y2 hk hf2 hc
      have e12 := (hf2 12 (by omega)).2.1
      refine u_X13_way_3 ?_; unfold qm_X13_way_3
      rw [show (32 : Int32) * nI e9 = nI (32 * e9) from pk_mul 32 e9]
      refine w_rdI ml12 rfl (by omega) (x := nI (tk sg2 E).length) (by rw [e12]; exact hwy.1.2.2.1) (w_ltT (by omega) (by omega) (w_wrF ?_))
      have f3 : fr (fun g => g = 24 ∨ g = 28) y (usF y2 24 0) := fr_F2 (fr_mono (fun g hg => Or.inr hg) hf2) (Or.inl rfl)
      have hT : rc_At (usF y2 24 0) 28 0 (tk sg2 E) := (cp_row hwy (fun i hi => hc i (by omega)) : vRow y2 28 0 E sg2).1
      refine l4 5 0 [] _ (by omega) ⟨gI_fr f3 (fun g hg => by unfold per; omega) ia, by rw [(f3 1 (by omega)).1]; exact ie, fr_tr hfy (fr_mono (fun g hg => by unfold wyZ fB2; omega) f3), by rw [hT0]; exact hT, po_usF_at, by decide, ⟨fun k r hr => (by rw [List.getElem?_nil] at hr; cases hr), fun j hj => absurd hj (Nat.not_lt_zero _), List.nodup_nil⟩⟩ (fun r hr => absurd hr List.not_mem_nil) (fun _ kd A' sg' hkd => absurd hkd (Nat.not_lt_zero _)) ⟨rc_fr f3 (by omega) hvy.1, hvy.2⟩
    | succ j ih =>
      intro k y2 hk hf2 hc
      have e12 := (hf2 12 (by omega)).2.1
      refine u_X13_way_3 ?_; unfold qm_X13_way_3
      rw [show (32 : Int32) * nI e9 = nI (32 * e9) from pk_mul 32 e9, nI_add, nI_1]
      refine w_rdI ml12 rfl (by omega) (x := nI (tk sg2 E).length) (by rw [e12]; exact hwy.1.2.2.1) (w_ltF (by omega) (by omega) (w_rdI ml12 rfl (by omega) (by rw [e12]) (w_wrI ml28 rfl (by omega) (ih (k + 1) _ (by omega) (fr_I2 hf2 rfl) (fun i hi => ?_)))))
      by_cases hik : i = k
      · rw [hik, po_usI_at]
      · exact rd_ne hik (hc i (by omega))
  exact cp ((tk sg2 E).length + 1) 0 y (by omega) fr_rf (fun i hi => by omega)
end XW3
end
section
/-! 99zzzzzzzzzzzzh.xway4 -/
/-! the class's way, exactly; both sides answer the same -/
theorem pig_le {α : Type} {P : Nat → α → Prop} {n : Nat} (X : List α) (hX : X.Nodup) (h1 : ∀ C, C ∈ X → ∃ j, j < n ∧ P j C) (h2 : ∀ j C C', j < n → P j C → P j C' → C = C') : X.length ≤ n := by
  have key : ∀ X : List α, X.Nodup → (∀ C, C ∈ X → ∃ j, j < n ∧ P j C) → ∃ Js : List Nat, Js.length = X.length ∧ Js.Nodup ∧ ∀ j, j ∈ Js → j < n ∧ ∃ C, C ∈ X ∧ P j C := by
    intro X
    induction X with
    | nil => exact fun _ _ => ⟨[], rfl, List.nodup_nil, fun j hj => absurd hj List.not_mem_nil⟩
    | cons C X ih =>
      intro hn h9
      obtain ⟨n1, n2⟩ := List.nodup_cons.mp hn
      obtain ⟨Js, j1, j2, j3⟩ := ih n2 (fun D hD => h9 D (List.mem_cons_of_mem _ hD))
      obtain ⟨j, k1, k2⟩ := h9 C List.mem_cons_self
      refine ⟨j :: Js, by rw [List.length_cons, List.length_cons, j1], List.nodup_cons.mpr ⟨fun h8 => ?_, j2⟩, fun a ha => ?_⟩
      · obtain ⟨-, D, d1, d2⟩ := j3 j h8
        exact n1 (by rw [h2 j C D k1 k2 d2]; exact d1)
      · rcases List.mem_cons.mp ha with e | ha
        · rw [e]
          exact ⟨k1, C, List.mem_cons_self, k2⟩
        · obtain ⟨a1, D, a2, a3⟩ := j3 a ha
          exact ⟨a1, D, List.mem_cons_of_mem _ a2, a3⟩
  obtain ⟨Js, j1, j2, j3⟩ := key X hX h1
  have := nodup_le Js (List.range n) j2 (fun j hj => List.mem_range.mpr (j3 j hj).1)
  rw [List.length_range] at this
  omega
section XW4
variable {A : rn_L} {sg : Nat → Bool} {R : ow_NT} {kd c j : Nat} {C C' : cdT}
/-- a move's number gives one code -/
theorem mv_det (hR : nxC A sg c R) (hpl : plnA A sg) (hk : kd < 5) (hj : j < mv_cnt R.1 kd) (h1 : mvD kd R j C) (h2 : mvD kd R j C') : C = C' := by
  obtain ⟨hV, hp, hpn, ec⟩ := nx_iso hR hpl
  have h6 := hR.1.2.2.2.2
  have mb := mb_all hV hp h6 hpn hk
  obtain ⟨F, P, Q, Ds, qs, d1, d2, d3, d4, rfl⟩ := h1
  obtain ⟨F', P', Q', Ds', qs', d1', d2', d3', d4', rfl⟩ := h2
  obtain ⟨A', sg', hO, hall⟩ := mb.1 j hj ⟨F, P, Q, d1, d2, d3⟩
  obtain ⟨-, f, hf⟩ := hall F P Q d1 d2
  obtain ⟨-, f', hf'⟩ := hall F' P' Q' d1' d2'
  have l3 := OM_len hO
  exact cd_same hf hf' (by omega) ((mv_nv hR.2.2.1 hk F P Q j d1 d2 hj).2 d3) ((mv_nv hR.2.2.1 hk F' P' Q' j d1' d2' hj).2 d3') d4 d4'
/-- how many moves there are of the first kinds -/
def cS (c : Nat) : Nat → Nat
  | 0 => 0
  | t + 1 => cS c t + mv_cnt c t
theorem cS_le : ∀ c, c < 5 → ∀ t, t < 6 → cS c t ≤ 432 := by decide
theorem sts_nd {X : List cdT} {os : List Nat} (hl : X.length = os.length) (ho : ∀ (j s : Nat), os[j]? = some s → s < X.length) (hs : sts X os) : X.Nodup := by
  have nd : os.Nodup := by
    rw [List.nodup_iff_pairwise_ne, List.pairwise_iff_getElem]
    intro a b ha hb hab e9
    have h1 := hs a b hab hb
    have : atC X os a = atC X os b := by
      unfold atC
      rw [List.getD_eq_getElem?_getD (l := os), List.getD_eq_getElem?_getD (l := os), List.getElem?_eq_getElem ha, List.getElem?_eq_getElem hb, e9]
    rw [this, cmpC_rf] at h1
    omega
  have him : ∀ i, i < X.length → ∃ k, k < os.length ∧ os[k]? = some i := by
    intro i hi
    rcases Classical.em (i ∈ os) with h9 | h9
    · obtain ⟨k, hk, e⟩ := List.getElem_of_mem h9
      exact ⟨k, hk, by rw [List.getElem?_eq_getElem hk, e]⟩
    · exfalso
      have := nodup_le (i :: os) (List.range X.length) (List.nodup_cons.mpr ⟨h9, nd⟩) (fun a ha => by
        rw [List.mem_range]
        rcases List.mem_cons.mp ha with e | ha
        · rw [e]
          exact hi
        · obtain ⟨j, hj, e⟩ := List.getElem_of_mem ha
          exact ho j a (by rw [List.getElem?_eq_getElem hj, e]))
      rw [List.length_cons, List.length_range] at this
      omega
  have hat : ∀ {k i : Nat} (hi : i < X.length), os[k]? = some i → atC X os k = X[i] := by
    intro k i hi e
    unfold atC
    rw [List.getD_eq_getElem?_getD (l := os), e]
    show X.getD i (0, []) = _
    rw [List.getD_eq_getElem?_getD, List.getElem?_eq_getElem hi]
    rfl
  rw [List.nodup_iff_pairwise_ne, List.pairwise_iff_getElem]
  intro a b ha hb hab e9
  obtain ⟨k, k1, k2⟩ := him a ha
  obtain ⟨m, m1, m2⟩ := him b hb
  have e : atC X os k = atC X os m := by rw [hat ha k2, hat hb m2, e9]
  rcases Nat.lt_trichotomy k m with q | q | q
  · have := hs k m q m1
    rw [e, cmpC_rf] at this
    omega
  · rw [q, m2] at k2
    have := Option.some.inj k2
    omega
  · have := hs m k q k1
    rw [e, cmpC_rf] at this
    omega
end XW4
section XW5
variable {vl : Nat → Nat} {y : ow_MS} {St : plT} {x x' : Int32}
theorem xc_surround {g' d c : Nat} {A : rn_L} {sg : Nat → Bool} (hg : g' = 14000 ∨ g' = 15000) (hN : gM y) (hd : d < 40) (hs : slC y 1000 d (clC sg A)) (hA : okL A c) (hpl : plnA A sg) (hc4 : c ≤ 4) : Te (fun K => ce_X6_surround vl K 12000 1000 (nI d) g' y) (fun y1 => gM y1 ∧ fr (coP g') y y1 ∧ ∃ Cs os, tbO y1 g' 480 Cs os ∧ sts Cs os ∧ surC A sg c Cs) := by
  have hg3 : g' = 13000 ∨ g' = 14000 ∨ g' = 15000 := Or.inr hg
  have hg4 : g' = 2000 ∨ g' = 13000 ∨ g' = 14000 ∨ g' = 15000 := Or.inr hg3
  have htH : tH g' 480 := by
    rcases hg with rfl | rfl
    · exact tH14
    · exact tH15
  have hby : byR y (g' + 1) := by
    rcases hg with rfl | rfl
    · exact hN.2.2.2.2.1
    · exact hN.2.2.2.2.2
  let Q0 : ow_MS → Prop := fun y1 => gM y1 ∧ fr (coP g') y y1 ∧ ∃ Cs os, tbO y1 g' 480 Cs os ∧ sts Cs os ∧ surC A sg c Cs
  let I : Nat → List cdT → Prop := fun t Cs => Cs.length ≤ cS c t ∧ (∀ C, C ∈ Cs → ∃ kd R j, kd < 5 ∧ nxC A sg c R ∧ j < mv_cnt R.1 kd ∧ mvD kd R j C) ∧ ∀ kd, kd < t → ∃ R, nxC A sg c R ∧ ∀ j, j < mv_cnt R.1 kd → mvN kd R j ∨ ∃ C, mvD kd R j C ∧ C ∈ Cs
  have c1 : ∀ (k i : Nat) (z : ow_MS) (Cs : List cdT) (os : List Nat), i + k = 5 → gN z → fr (coP g') y z → tbO z g' 480 Cs os → sts Cs os → I i Cs → Tt (fun K t => c_X6_surround vl K t 1 (nI d) (nI i) 12000 1000 g' z) Q0 := by
    intro k
    induction k with
    | zero =>
      intro i z Cs os hi q1 q2 q3 q4 q5
      have e : i = 5 := by omega
      subst e
      refine u_X6_surround_1 ?_; unfold cm_X6_surround_1
      exact w_leT (a := 5) (by omega) (by omega) (w_some ⟨⟨q1, tbs_co hg3 q2 q3.2.2.2.2 hN.2⟩, q2, Cs, os, q3, q4, q5.2.1, q5.2.2⟩)
    | succ k ih =>
      intro i z Cs os hi q1 q2 q3 q4 q5
      have hs1 : slC z 1000 d (clC sg A) := slC_fr q2 (fun q hq h9 => by unfold cW at hq; unfold coP cV at h9; omega) hs
      refine u_X6_surround_1 ?_; unfold cm_X6_surround_1
      refine w_leF (a := 5) (by omega) (by omega) (w_cs0 (xc_collect ch_1000 hd (by omega) hs1 hA htH (by omega) (by omega) (tgk hg4) (show i < 5 by omega) q1 q3 q4) ?_)
      rintro z1 ⟨g1, g2, R, X, os', g3, g4, g5, g6, g7, g8, g9⟩
      rw [nI_1]
      have hR : nxC A sg c R := ⟨hA, g4, g3, g5⟩
      have ec : R.1 = c := g5.1
      have hnd := sts_nd g6.1.2.1 (tabC_os g6.1) g7
      have hXn := (List.nodup_append.mp hnd).2.1
      have hXl : X.length ≤ mv_cnt R.1 i := pig_le X hXn g8 (fun j C C' hj p1 p2 => mv_det hR hpl (show i < 5 by omega) hj p1 p2)
      have hcs : cS c (i + 1) = cS c i + mv_cnt c i := rfl
      have hle := cS_le c (by omega) (i + 1) (by omega)
      rw [ec] at hXl
      have hlen : (Cs ++ X).length ≤ cS c (i + 1) := by
        rw [List.length_append]
        have := q5.1
        omega
      have hno : os'.length ≠ 480 := by
        have := g6.1.2.1
        omega
      refine ih (i + 1) z1 _ os' (by omega) g1 (fr_tr q2 g2) g6 g7 ⟨hlen, fun C hC => ?_, fun kd hkd => ?_⟩
      · rcases List.mem_append.mp hC with h9 | h9
        · exact q5.2.1 C h9
        · obtain ⟨j, j1, j2⟩ := g8 C h9
          exact ⟨i, R, j, by omega, hR, j1, j2⟩
      · by_cases e : kd = i
        · subst e
          refine ⟨R, hR, fun j hj => ?_⟩
          rcases g9 j hj with h9 | ⟨C, h8, h9⟩
          · exact Or.inl h9
          · exact Or.inr ⟨C, h8, h9.elim id (fun h7 => absurd h7 hno)⟩
        · obtain ⟨R', r1, r2⟩ := q5.2.2 kd (by omega)
          refine ⟨R', r1, fun j hj => (r2 j hj).imp id (fun ⟨C, h8, h9⟩ => ⟨C, h8, List.mem_append_left _ h9⟩)⟩
  refine e_X6_surround ?_
  refine u_X6_surround_0 ?_; unfold cm_X6_surround_0
  refine w_wrF (c1 5 0 _ [] [] (by omega) (gN_F (far_cP (by omega)) hN.1) (fr_F (by unfold coP cV; omega)) (tbO_0 hby) (fun i j hij hj => absurd hj (Nat.not_lt_zero _)) ⟨Nat.zero_le _, fun C hC => absurd hC List.not_mem_nil, fun kd hkd => absurd hkd (Nat.not_lt_zero _)⟩)
theorem fnd_neg {Cs : List cdT} {os : List Nat} {B : cdT} {r : Int32} (hl : Cs.length = os.length) (ho : ∀ (j s : Nat), os[j]? = some s → s < Cs.length) (h480 : os.length ≤ 480) (hm : srt Cs os) (hs : sts Cs os) (h : fnd Cs os B r) : r < 0 ↔ B ∉ Cs := by
  rcases h with ⟨k, k1, k2, k3⟩ | ⟨k, k1, k2, k3⟩
  · rw [k2]
    refine ⟨fun h9 => absurd h9 (nI_pos (by omega)), fun h9 => absurd ?_ h9⟩
    rw [← k3]
    exact at_in hl ho k1
  · obtain ⟨a1, a2⟩ := k3 (srt_mo hm B)
    refine ⟨fun _ hB => ?_, fun _ => ?_⟩
    · obtain ⟨i, i1, i2⟩ := at_sur hl ho hs hB
      by_cases e : i < k
      · have := a1 i e
        rw [i2, cmpC_rf] at this
        omega
      · have := a2 i (by omega) i1
        rw [i2, cmpC_rf] at this
        omega
    · rw [k2]
      exact (iI_lt (b := 0) (by omega) (by omega) (by omega) (by omega)).mpr (by omega)
def wyC (g : Nat) : Prop := coP 14000 g ∨ coP 15000 g
def wayC (A : rn_L) (sg : Nat → Bool) (c : Nat) (E : rn_L) (sgE : Nat → Bool) (cE : Nat) (v : Int32) : Prop := v = 0 ∧ clC sg A = clC sgE E ∨ clC sg A ≠ clC sgE E ∧ ∃ X : List cdT, X.length ≤ 480 ∧ surC A sg c X ∧ (v = 1 ∧ clC sgE E ∈ X ∨ clC sgE E ∉ X ∧ ∃ XE, surC E sgE cE XE ∧ (v = 2 ∧ (∃ C, C ∈ X ∧ C ∈ XE) ∨ v = -1 ∧ ¬ ∃ C, C ∈ X ∧ C ∈ XE))
theorem xc_way (hN : gM y) (hC : relC y St) (hS : okS St) : Te (fun K => ce_X11_way vl K 0 x x' y) (fun r => gM r.2.2 ∧ fr wyC y r.2.2 ∧ ((r.1 = 1 ∧ ((∀ d, d < 40 → x = nI d → St d = none) ∨ ∀ d, d < 40 → x' = nI d → St d = none)) ∨ ∃ d A sg c e E sgE cE, d < 40 ∧ x = nI d ∧ St d = some (A, sg) ∧ okL A c ∧ A ≠ [] ∧ plnA A sg ∧ e < 40 ∧ x' = nI e ∧ St e = some (E, sgE) ∧ okL E cE ∧ E ≠ [] ∧ plnA E sgE ∧ (r.1 = 4 ∧ (4 < c ∨ 4 < cE) ∨ c ≤ 4 ∧ cE ≤ 4 ∧ r.1 = 0 ∧ wayC A sg c E sgE cE r.2.1))) := by
  refine e_X11_way ?_; unfold cm_X11_way_0
  refine w_tc0 (xc_need hN.1.1 hC hS) ?_ ?_
  · rintro y1 ⟨h1, rfl⟩
    rcases h1 with h1 | ⟨-, d, A, sg, c, hd, rfl, hSt, hs, hA, hne, hpl⟩
    · exact absurd (show (0 : Nat) = 1 from h1.1) (by decide)
    · refine w_tc0 (xc_need hN.1.1 hC hS) ?_ ?_
      · rintro y2 ⟨h2, rfl⟩
        rcases h2 with h2 | ⟨-, e, E, sg', c', he, rfl, hSe, hs', hE, hne', hpl'⟩
        · exact absurd (show (0 : Nat) = 1 from h2.1) (by decide)
        · have o1 := okL_c (sg := sg) hA
          have o2 := okL_c (sg := sg') hE
          have e3 : y2.2.1 1003 d = nI c := by
            have := hs.1
            rw [o1.1] at this
            exact this
          have e3' : y2.2.1 1003 e = nI c' := by
            have := hs'.1
            rw [o2.1] at this
            exact this
          have hc12 := hA.2.2.2.1
          have hc12' := hE.2.2.2.1
          have fin : ∀ {k : Nat} {v : Int32} {y9 : ow_MS}, gM y9 → fr wyC y2 y9 → (k = 4 ∧ (4 < c ∨ 4 < c') ∨ c ≤ 4 ∧ c' ≤ 4 ∧ k = 0 ∧ wayC A sg c E sg' c' v) → Tt (fun _ _ => some (k, v, y9)) (fun r => gM r.2.2 ∧ fr wyC y2 r.2.2 ∧ ((r.1 = 1 ∧ ((∀ d', d' < 40 → nI d = nI d' → St d' = none) ∨ ∀ d', d' < 40 → nI e = nI d' → St d' = none)) ∨ ∃ d' A sg c e' E sgE cE, d' < 40 ∧ nI d = nI d' ∧ St d' = some (A, sg) ∧ okL A c ∧ A ≠ [] ∧ plnA A sg ∧ e' < 40 ∧ nI e = nI e' ∧ St e' = some (E, sgE) ∧ okL E cE ∧ E ≠ [] ∧ plnA E sgE ∧ (r.1 = 4 ∧ (4 < c ∨ 4 < cE) ∨ c ≤ 4 ∧ cE ≤ 4 ∧ r.1 = 0 ∧ wayC A sg c E sgE cE r.2.1))) := fun q1 q2 q3 => w_some ⟨q1, q2, Or.inr ⟨d, A, sg, c, e, E, sg', c', hd, rfl, hSt, hA, hne, hpl, he, rfl, hSe, hE, hne', hpl', q3⟩⟩
          refine w_crI (tH_3 ch_1000) rfl hd e3 (w_lt (a := 4) (by omega) (by omega) (fun h4 => fin hN fr_rf (Or.inl ⟨rfl, Or.inl h4⟩)) (fun h4 => w_crI (tH_3 ch_1000) rfl he e3' (w_le (b := 4) (by omega) (by omega) (fun h4' => ?_) (fun h4' => fin hN fr_rf (Or.inl ⟨rfl, Or.inr (by omega)⟩)))))
          have hcb := cmpC_b o1.2 o2.2
          refine w_cs1 (tc_compare ch_1000 ch_1000 hd he hs hs' o1.2 o2.2) ?_
          rintro v y3 ⟨ev, e9⟩
          dsimp only at ev e9
          subst e9
          subst ev
          have cmp0 : iI (cmpC (clC sg A) (clC sg' E)) = 0 ↔ clC sg A = clC sg' E := by
            constructor
            · intro e0
              exact cmpC_0 ((iI_eq (by omega) (by omega) (by omega) (by omega)).mp (e0.trans (show (0 : Int32) = iI 0 from rfl)))
            · intro e0
              rw [e0, cmpC_rf]
              rfl
          refine w_if (fun h0 => fin hN fr_rf (Or.inr ⟨by omega, by omega, rfl, Or.inl ⟨rfl, cmp0.mp h0⟩⟩)) (fun h0 => w_cs0 (xc_surround (Or.inl rfl) hN hd hs hA hpl (by omega)) ?_)
          have hneq : clC sg A ≠ clC sg' E := fun e => h0 (cmp0.mpr e)
          rintro y4 ⟨g1, g2, Cs, os, g3, g4, g5⟩
          have f4 : fr wyC y3 y4 := fr_mono (fun g hg => Or.inl hg) g2
          have hs4 : slC y4 1000 e (clC sg' E) := slC_fr g2 (fun q hq h9 => by unfold cW at hq; unfold coP cV at h9; omega) hs'
          have hl4 := g3.1.2.1
          have ho4 := tabC_os g3.1
          have h480 := g3.2.2.2.1
          refine w_cs1 (tc_find tH14 ch_1000 he g3.1 g3.2.2.2.1 hs4 o2.2) ?_
          rintro v5 y5 ⟨hf, e9⟩
          dsimp only at hf e9
          subst e9
          have hfn := fnd_neg hl4 ho4 h480 g3.2.1 g4 hf
          refine w_if (fun hlt => w_cs0 (xc_surround (Or.inr rfl) g1 he hs4 hE hpl' (by omega)) ?_) (fun hge => fin g1 f4 (Or.inr ⟨by omega, by omega, rfl, Or.inr ⟨hneq, Cs, by omega, g5, Or.inl ⟨rfl, ?_⟩⟩⟩))
          rotate_left
          · rcases Classical.em (clC sg' E ∈ Cs) with h9 | h9
            · exact h9
            · exact absurd (hfn.mpr h9) hge
          rintro y6 ⟨g1', g2', Ds, qs, g3', g4', g5'⟩
          have f6 : fr wyC y3 y6 := fr_tr f4 (fr_mono (fun g hg => Or.inr hg) g2')
          have g36 : tbO y6 14000 480 Cs os := tbO_fr g2' (fun q hq h9 => by unfold cV at hq; unfold coP cV at h9; omega) g3
          have hl6 := g3'.1.2.1
          have ho6 := tabC_os g3'.1
          refine w_cs1 (tc_meets tH14 tH15 g36.1 g36.2.2.2.1 g3'.1 g3'.2.2.2.1) ?_
          rintro v7 y7 ⟨hm, e9⟩
          dsimp only at hm e9
          subst e9
          have hno := hfn.mp hlt
          have sm : srt Ds qs := g3'.2.1
          rcases hm with ⟨rfl, i, k, i1, i2, i3⟩ | ⟨rfl, hm⟩
          · refine w_ifF (by decide) (fin g1' f6 (Or.inr ⟨by omega, by omega, rfl, Or.inr ⟨hneq, Cs, by omega, g5, Or.inr ⟨hno, Ds, g5', Or.inl ⟨rfl, _, List.mem_of_getElem? i3, at_in hl6 ho6 i2⟩⟩⟩⟩))
          · refine w_ifT rfl (fin g1' f6 (Or.inr ⟨by omega, by omega, rfl, Or.inr ⟨hneq, Cs, by omega, g5, Or.inr ⟨hno, Ds, g5', Or.inr ⟨rfl, ?_⟩⟩⟩⟩))
            rintro ⟨C, c1, c2⟩
            obtain ⟨k, k1, k2⟩ := at_sur hl6 ho6 g4' c2
            exact hm C c1 (srt_mo sm C) k k1 k2
      · rintro a y2 ha ⟨h2, rfl⟩
        rcases h2 with h2 | h2
        · exact w_some ⟨hN, fr_rf, Or.inl ⟨h2.1, Or.inr h2.2⟩⟩
        · exact absurd h2.1 ha
  · rintro a y1 ha ⟨h1, rfl⟩
    rcases h1 with h1 | h1
    · exact w_some ⟨hN, fr_rf, Or.inl ⟨h1.1, Or.inl h1.2⟩⟩
    · exact absurd h1.1 ha
end XW5
section XW6
variable {X : (Nat → Nat → Int32) → Prop} {vl : Nat → Nat} {z y : ow_MS} {x x' : Int32}
/-- what is kept is the list of its own code -/
def nmC (y : ow_MS) : Prop := ∀ d A sg c, d < 40 → slC y 1000 d (clC sg A) → okL A c → A ≠ [] → nrm A sg
theorem c_way (h : rel3 X z y) (hm : nmC y) : Te (fun K => qe_X13_way K x x' z) (fun rr => Te (fun K => ce_X11_way vl K 0 x x' y) (fun rc => (rel3 X rr.2 rc.2.2 ∧ ansI [(1, 1), (2, 4)] rr rc) ∧ fr wyZ z rr.2 ∧ fr wyC y rc.2.2)) := by
  obtain ⟨⟨St, k⟩, hM, h2⟩ := id h
  refine te_two (xq_way k.1 k.2.2.1) (xc_way (x := x) (x' := x') hM k.2.2.2.1 k.2.2.2.2) (fun rr rc hr ⟨hG, hf, hc⟩ => ?_)
  have hC : relC rc.2.2 St := relC_fr hf (fun q hq h9 => by unfold cW at hq; unfold wyC coP cV at h9; omega) k.2.2.2.1
  have fin : ∀ {P : Nat → Prop}, fr P z rr.2 → (∀ g, P g → wyZ g) → gI X rr.2 → ansI [(1, 1), (2, 4)] rr rc → ((rel3 X rr.2 rc.2.2 ∧ ansI [(1, 1), (2, 4)] rr rc) ∧ fr wyZ z rr.2 ∧ fr wyC y rc.2.2) := fun hz hP hI ha => ⟨⟨⟨⟨St, hI, hG.1, relR_fr hz (fun h9 => by have := hP _ h9; unfold wyZ fB2 at this; omega) k.2.2.1, hC, k.2.2.2.2⟩, hG, rel2_h hz hf (fun g hg h9 => by have := hP _ hg; unfold wyZ fB2 at this; unfold r2Z at h9; omega) (fun g hg h9 => by unfold wyC coP cV at hg; unfold r2Y at h9; omega) h2⟩, ha⟩, fr_mono hP hz, hf⟩
  have rps : ∀ g, rPs g → wyZ g := fun g hg => by unfold rPs rSc at hg; unfold wyZ fB2; omega
  have no1 : ∀ {u : Int32} {d : Nat} {C : rn_L × (Nat → Bool)}, (∀ d, d < 40 → u = nI d → St d = none) → d < 40 → u = nI d → St d = some C → False := fun h9 hd hx hs => by
    rw [h9 _ hd hx] at hs
    cases hs
  rcases hr with ⟨r1, r2⟩ | ⟨d, A, sg, e, E, sgE, hd, rfl, hSt, he, rfl, hSe, hr⟩
  · rcases hc with ⟨c1, -⟩ | ⟨d, A, sg, c, e, E, sgE, cE, hd, hx, hSt, -, -, -, he, hx', hSe, -⟩
    · exact fin r1.2.2 rps r1.1 (Or.inr ⟨1, 1, by simp, r1.2.1, c1⟩)
    · rcases r2 with r2 | r2
      · exact (no1 r2 hd hx hSt).elim
      · exact (no1 r2 he hx' hSe).elim
  · rcases hc with ⟨-, c2⟩ | ⟨d', A', sg', c, e', E', sgE', cE, hd', hx, hSt', hA, hne, hpl, he', hx', hSe', hE, hEn, hEp, hc⟩
    · rcases c2 with c2 | c2
      · exact (no1 c2 hd rfl hSt).elim
      · exact (no1 c2 he rfl hSe).elim
    · have ed := nI_inj9 (a := d) (b := d') (by omega) (by omega) hx
      have ee := nI_inj9 (a := e) (b := e') (by omega) (by omega) hx'
      subst ed
      subst ee
      rw [hSt] at hSt'
      rw [hSe] at hSe'
      cases hSt'
      cases hSe'
      have lA := okF_len hA.1
      have lE := okF_len hE.1
      rcases hr with ⟨r1, r2⟩ | ⟨a1, a2, r1, r2, r3, hw⟩
      · rcases hc with ⟨c1, -⟩ | ⟨c1, c2, -⟩
        · exact fin r1.2.2 rps r1.1 (Or.inr ⟨2, 4, by simp, r1.2.1, c1⟩)
        · omega
      · rcases hc with ⟨-, c1⟩ | ⟨c1, c2, c3, hv⟩
        · omega
        · refine fin r3 (fun g hg => hg) r1 (Or.inl ⟨r2, c3, ?_⟩)
          have hEm : nrm E sgE := hm e E sgE cE he ((k.2.2.2.1 e he).2 E sgE hSe) hE hEn
          rcases hw with ⟨v0, q0⟩ | ⟨q0, N, cA, n1, n2, n3, n4, hw⟩
          · rcases hv with ⟨w0, -⟩ | ⟨p0, -⟩
            · rw [v0, w0]
            · exact absurd ((clC_tk hA hE).mpr q0) p0
          · rcases hv with ⟨-, p0⟩ | ⟨-, X9, x1, x2, hv⟩
            · exact absurd ((clC_tk hA hE).mp p0) q0
            · have ecA : cA = c := by
                have l1 := okF_len n1
                omega
              subst ecA
              have hlt : N.length < 1000 := by
                have := rows_le (Cs := X9) N n2 (fun r hr => by
                  obtain ⟨C, c1, B, sB, c9, o1, o2, o3, o4, o5, -⟩ := w_rc hA hne hpl x2 n3 r hr
                  exact ⟨C, c1, B, sB, c9, o1, o2, o3, o4, o5⟩)
                omega
              have hN : nerR A sg cA N := ⟨n3, n4 hlt⟩
              have one := way_one (sgE := sgE) hA hne hpl x2 hN hE
              rcases hw with ⟨v1, q1⟩ | ⟨q1, hw⟩
              · rcases hv with ⟨w1, -⟩ | ⟨p1, -⟩
                · rw [v1, w1]
                · exact absurd (one.mp q1) p1
              · rcases hv with ⟨-, p1⟩ | ⟨-, XE, x3, hv⟩
                · exact absurd (one.mpr p1) q1
                · rcases hw with ⟨v2, q2⟩ | ⟨v2, q2⟩
                  · have := way_fw hA hne hpl x2 hN hE hEp x3 q2
                    rcases hv with ⟨w2, -⟩ | ⟨-, p2⟩
                    · rw [v2, w2]
                    · exact absurd this p2
                  · rcases hv with ⟨-, p2⟩ | ⟨w2, -⟩
                    · exfalso
                      obtain ⟨r, hr, hall⟩ := way_bw hA hne hpl x2 hN hE hEp hEm x3 p2
                      obtain ⟨B, sgB, cB, b1, b2⟩ := q2 r hr
                      obtain ⟨kd, B', sg9, k1, k2, k3⟩ := hall B sgB cB b1
                      rw [lE, show 2 * cE / 2 = cE by omega] at b2
                      obtain ⟨r', u1, u2⟩ := b2 kd B' sg9 k1 k2
                      exact u2 (k3 r' u1)
                    · rw [v2, w2]
end XW6
end
section
/-! 99zzzzzzzzzzzzia.fo0 -/
/-! which handles a method of the reference may change, read off its text -/
abbrev pf (L R : List Nat) (g : Nat) : Prop := g ∈ L ∨ g ∈ R ∨ 1000 ≤ g
def Fo {O : Type} (st : O → ow_MS) (P : Nat → Prop) (z0 : ow_MS) (e : Option O) : Prop := ∀ r, e = some r → fr P z0 (st r)
section FOB
variable {O α : Type} {st : O → ow_MS} {P P' : Nat → Prop} {z0 z : ow_MS} {h : Nat} {i x : Int32} {y : Int64} {X : ow_Tb}
theorem fo_none : Fo st P z0 (none : Option O) := fun _ h => by cases h
theorem fo_some {r : O} (h : fr P z0 (st r)) : Fo st P z0 (some r) := fun _ e => by cases e; exact h
theorem fo_if {c : Prop} [Decidable c] {a b : Option O} (h1 : Fo st P z0 a) (h2 : Fo st P z0 b) : Fo st P z0 (if c then a else b) := by
  by_cases h : c
  · rw [if_pos h]; exact h1
  · rw [if_neg h]; exact h2
theorem fo_rdF {f : Int32 → Option O} (H : ∀ v, Fo st P z0 (f v)) : Fo st P z0 (rdF z h f) := H _
theorem fo_rdI {f : Int32 → Option O} (H : ∀ v, Fo st P z0 (f v)) : Fo st P z0 (rdI X z h i f) := fo_if fo_none (H _)
theorem fo_rdJ {f : Int64 → Option O} (H : ∀ v, Fo st P z0 (f v)) : Fo st P z0 (rdJ X z h i f) := fo_if fo_none (H _)
theorem fo_rdN {f : Nat → Option O} (H : ∀ n, 1000 ≤ n → Fo st P z0 (f n)) : Fo st P z0 (rdN i f) := fo_if fo_none (H _ (by omega))
theorem fo_nzI {e : Option O} (H : Fo st P z0 e) : Fo st P z0 (nzI x e) := fo_if fo_none H
theorem fo_nzJ {e : Option O} (H : Fo st P z0 e) : Fo st P z0 (nzJ y e) := fo_if fo_none H
theorem fo_okZ {e : Option O} (H : Fo st P z0 e) : Fo st P z0 (okZ x e) := fo_if H fo_none
theorem fo_wrF {f : ow_MS → Option O} (hP : P h) (hz : fr P z0 z) (H : ∀ z1, fr P z0 z1 → Fo st P z0 (f z1)) : Fo st P z0 (wrF z h x f) := H _ (fr_F2 hz hP)
theorem fo_wrI {f : ow_MS → Option O} (hP : P h) (hz : fr P z0 z) (H : ∀ z1, fr P z0 z1 → Fo st P z0 (f z1)) : Fo st P z0 (wrI X z h i x f) := fo_if fo_none (H _ (fr_I2 hz hP))
theorem fo_wrZ {f : ow_MS → Option O} (hP : P h) (hz : fr P z0 z) (H : ∀ z1, fr P z0 z1 → Fo st P z0 (f z1)) : Fo st P z0 (wrZ X z h i x f) := fo_if fo_none (H _ (fr_I2 hz hP))
theorem fo_wrB {f : ow_MS → Option O} (hP : P h) (hz : fr P z0 z) (H : ∀ z1, fr P z0 z1 → Fo st P z0 (f z1)) : Fo st P z0 (wrB X z h i x f) := fo_if fo_none (H _ (fr_I2 hz hP))
theorem fo_wrJ {f : ow_MS → Option O} (hP : P h) (hz : fr P z0 z) (H : ∀ z1, fr P z0 z1 → Fo st P z0 (f z1)) : Fo st P z0 (wrJ X z h i y f) := fo_if fo_none (H _ (fr_J2 hz hP))
theorem fo_cs0 {o : Option ow_MS} {f : ow_MS → Option O} (hc : Fo id P' z o) (hs : ∀ g, P' g → P g) (hz : fr P z0 z) (H : ∀ z1, fr P z0 z1 → Fo st P z0 (f z1)) : Fo st P z0 (cs0 o f) := by
  cases o with
  | none => exact fo_none
  | some r => exact H r (fr_tr hz (fr_mono hs (hc r rfl)))
theorem fo_cs1 {o : Option (α × ow_MS)} {f : α → ow_MS → Option O} (hc : Fo Prod.snd P' z o) (hs : ∀ g, P' g → P g) (hz : fr P z0 z) (H : ∀ a z1, fr P z0 z1 → Fo st P z0 (f a z1)) : Fo st P z0 (cs1 o f) := by
  cases o with
  | none => exact fo_none
  | some r => exact H r.1 r.2 (fr_tr hz (fr_mono hs (hc r rfl)))
theorem fo_ss0 {o : Option ow_MS} {f : ow_MS → Option O} (hc : Fo id P z0 o) (H : ∀ z1, fr P z0 z1 → Fo st P z0 (f z1)) : Fo st P z0 (cs0 o f) := by
  cases o with
  | none => exact fo_none
  | some r => exact H r (hc r rfl)
theorem fo_ss1 {o : Option (α × ow_MS)} {f : α → ow_MS → Option O} (hc : Fo Prod.snd P z0 o) (H : ∀ a z1, fr P z0 z1 → Fo st P z0 (f a z1)) : Fo st P z0 (cs1 o f) := by
  cases o with
  | none => exact fo_none
  | some r => exact H r.1 r.2 (hc r rfl)
theorem pf_sub {L L' R R' : List Nat} (h1 : (L'.all (fun g => L.contains g)) = true) (h2 : ∀ g, g ∈ R' → pf L R g) : ∀ g, pf L' R' g → pf L R g := by
  rintro g (h | h | h)
  · have := List.all_eq_true.mp h1 g h
    exact Or.inl (List.contains_iff_mem.mp this)
  · exact h2 g h
  · exact Or.inr (Or.inr h)
theorem pf_0 {L R : List Nat} : ∀ g, g ∈ ([] : List Nat) → pf L R g := fun _ h => absurd h List.not_mem_nil
theorem pf_1 {L R : List Nat} {a : Nat} (h : pf L R a) : ∀ g, g ∈ [a] → pf L R g := fun g hg => by rw [List.mem_singleton.mp hg]; exact h
/-- a run that ends, and what it may change -/
theorem te_fo {f : Nat → Option O} {Q : O → Prop} (h : Te f Q) (hf : ∀ K, Fo st P z0 (f K)) : Te f (fun r => Q r ∧ fr P z0 (st r)) := by
  obtain ⟨r, ⟨K, hK⟩, hQ⟩ := h
  exact ⟨r, ⟨K, hK⟩, hQ, hf K r (hK K (Nat.le_refl _))⟩
end FOB
theorem ff_X13_fails {K : Nat} {x1 : Int32} {z : ow_MS}  : Fo Prod.snd (pf [1] []) z (qe_X13_fails K x1 z) := by
  unfold qe_X13_fails qm_X13_fails_0
  exact (fo_wrF (Or.inl (by decide)) fr_rf (fun z1 h_z1 => (fo_some h_z1)))
theorem fb_X13_feed_0 {K : Nat} {z0 z : ow_MS}  {go : Nat → Int32 → Int32 → Int32 → Int32 → Int32 → Int32 → Int32 → ow_MS → Option (Int32 × ow_MS)} {x1 : Int32} {x2 : Int32} {x3 : Int32} {x4 : Int32} {x5 : Int32} {x6 : Int32} {t0 : Int32}  (hgo : ∀ (L : Nat) (x1 : Int32) (x2 : Int32) (x3 : Int32) (x4 : Int32) (x5 : Int32) (x6 : Int32) (t0 : Int32) (z : ow_MS), fr (pf [1, 10, 11] []) z0 z → Fo Prod.snd (pf [1, 10, 11] []) z0 (go L x1 x2 x3 x4 x5 x6 t0 z)) (hz : fr (pf [1, 10, 11] []) z0 z)  : Fo Prod.snd (pf [1, 10, 11] []) z0 (qm_X13_feed_0 K go x1 x2 x3 x4 x5 x6 t0 z) := by
  unfold qm_X13_feed_0
  exact (fo_wrF (Or.inl (by decide)) hz (fun z1 h_z1 => (fo_rdF (fun v2 => (fo_if (hgo 1 _ _ _ _ _ _ _ z1 h_z1) (fo_cs1 (ff_X13_fails) (pf_sub (by decide) pf_0) h_z1 (fun v4 z3 h_z3 => (fo_some h_z3))))))))
theorem fb_X13_feed_1 {K : Nat} {z0 z : ow_MS}  {go : Nat → Int32 → Int32 → Int32 → Int32 → Int32 → Int32 → Int32 → ow_MS → Option (Int32 × ow_MS)} {x1 : Int32} {x2 : Int32} {x3 : Int32} {x4 : Int32} {x5 : Int32} {x6 : Int32} {t0 : Int32}  (hgo : ∀ (L : Nat) (x1 : Int32) (x2 : Int32) (x3 : Int32) (x4 : Int32) (x5 : Int32) (x6 : Int32) (t0 : Int32) (z : ow_MS), fr (pf [1, 10, 11] []) z0 z → Fo Prod.snd (pf [1, 10, 11] []) z0 (go L x1 x2 x3 x4 x5 x6 t0 z)) (hz : fr (pf [1, 10, 11] []) z0 z)  : Fo Prod.snd (pf [1, 10, 11] []) z0 (qm_X13_feed_1 K go x1 x2 x3 x4 x5 x6 t0 z) := by
  unfold qm_X13_feed_1
  exact (fo_if (fo_rdF (fun v5 => (fo_some hz))) (fo_if (fo_if (fo_if (fo_if (hgo 2 _ _ _ _ _ _ _ z hz) (hgo 2 _ _ _ _ _ _ _ z hz)) (hgo 2 _ _ _ _ _ _ _ z hz)) (hgo 2 _ _ _ _ _ _ _ z hz)) (hgo 2 _ _ _ _ _ _ _ z hz)))
theorem fb_X13_feed_2 {K : Nat} {z0 z : ow_MS}  {go : Nat → Int32 → Int32 → Int32 → Int32 → Int32 → Int32 → Int32 → ow_MS → Option (Int32 × ow_MS)} {x1 : Int32} {x2 : Int32} {x3 : Int32} {x4 : Int32} {x5 : Int32} {x6 : Int32} {t0 : Int32}  (hgo : ∀ (L : Nat) (x1 : Int32) (x2 : Int32) (x3 : Int32) (x4 : Int32) (x5 : Int32) (x6 : Int32) (t0 : Int32) (z : ow_MS), fr (pf [1, 10, 11] []) z0 z → Fo Prod.snd (pf [1, 10, 11] []) z0 (go L x1 x2 x3 x4 x5 x6 t0 z)) (hz : fr (pf [1, 10, 11] []) z0 z)  : Fo Prod.snd (pf [1, 10, 11] []) z0 (qm_X13_feed_2 K go x1 x2 x3 x4 x5 x6 t0 z) := by
  unfold qm_X13_feed_2
  exact (fo_rdF (fun v6 => (fo_wrB (Or.inl (by decide)) hz (fun z7 h_z7 => (fo_rdF (fun v8 => (fo_wrF (Or.inl (by decide)) h_z7 (fun z9 h_z9 => (hgo 1 _ _ _ _ _ _ _ z9 h_z9)))))))))
theorem fq_X13_feed {K : Nat} {z0 : ow_MS}   : ∀ (k L : Nat) (x1 : Int32) (x2 : Int32) (x3 : Int32) (x4 : Int32) (x5 : Int32) (x6 : Int32) (t0 : Int32) (z : ow_MS), fr (pf [1, 10, 11] []) z0 z → Fo Prod.snd (pf [1, 10, 11] []) z0 (q_X13_feed K k L x1 x2 x3 x4 x5 x6 t0 z)
  | 0 => by
    intros
    exact fo_none
  | k + 1 => by
    intro L x1 x2 x3 x4 x5 x6 t0 z hz 
    show Fo Prod.snd (pf [1, 10, 11] []) z0 (qb_X13_feed K (q_X13_feed K k) L x1 x2 x3 x4 x5 x6 t0 z)
    unfold qb_X13_feed
    split
    · exact fb_X13_feed_0 (fq_X13_feed k) hz 
    · exact fb_X13_feed_1 (fq_X13_feed k) hz 
    · exact fb_X13_feed_2 (fq_X13_feed k) hz 
    · exact fo_none
theorem ff_X13_feed {K : Nat} {x1 : Int32} {x2 : Int32} {x3 : Int32} {x4 : Int32} {x5 : Int32} {z : ow_MS}  : Fo Prod.snd (pf [1, 10, 11] []) z (qe_X13_feed K x1 x2 x3 x4 x5 z) := fq_X13_feed K 0 _ _ _ _ _ _ _ z fr_rf 
theorem fb_X13_end_0 {K : Nat} {z0 z : ow_MS}  {go : Nat → Int32 → ow_MS → Option ow_MS} {x1 : Int32}  (hgo : ∀ (L : Nat) (x1 : Int32) (z : ow_MS), fr (pf [1, 11] []) z0 z → Fo id (pf [1, 11] []) z0 (go L x1 z)) (hz : fr (pf [1, 11] []) z0 z)  : Fo id (pf [1, 11] []) z0 (qm_X13_end_0 K go x1 z) := by
  unfold qm_X13_end_0
  exact (fo_wrF (Or.inl (by decide)) hz (fun z1 h_z1 => (fo_if (hgo 1 _ z1 h_z1) (fo_rdF (fun v2 => (fo_if (fo_wrF (Or.inl (by decide)) h_z1 (fun z3 h_z3 => (fo_some h_z3))) (hgo 1 _ z1 h_z1)))))))
theorem fb_X13_end_1 {K : Nat} {z0 z : ow_MS}  {go : Nat → Int32 → ow_MS → Option ow_MS} {x1 : Int32}  (hgo : ∀ (L : Nat) (x1 : Int32) (z : ow_MS), fr (pf [1, 11] []) z0 z → Fo id (pf [1, 11] []) z0 (go L x1 z)) (hz : fr (pf [1, 11] []) z0 z)  : Fo id (pf [1, 11] []) z0 (qm_X13_end_1 K go x1 z) := by
  unfold qm_X13_end_1
  exact (fo_cs1 (ff_X13_fails) (pf_sub (by decide) pf_0) hz (fun v5 z4 h_z4 => (fo_some h_z4)))
theorem fq_X13_end {K : Nat} {z0 : ow_MS}   : ∀ (k L : Nat) (x1 : Int32) (z : ow_MS), fr (pf [1, 11] []) z0 z → Fo id (pf [1, 11] []) z0 (q_X13_end K k L x1 z)
  | 0 => by
    intros
    exact fo_none
  | k + 1 => by
    intro L x1 z hz 
    show Fo id (pf [1, 11] []) z0 (qb_X13_end K (q_X13_end K k) L x1 z)
    unfold qb_X13_end
    split
    · exact fb_X13_end_0 (fq_X13_end k) hz 
    · exact fb_X13_end_1 (fq_X13_end k) hz 
    · exact fo_none
theorem ff_X13_end {K : Nat} {x1 : Int32} {z : ow_MS}  : Fo id (pf [1, 11] []) z (qe_X13_end K x1 z) := fq_X13_end K 0 _ z fr_rf 
theorem fb_X13_free_0 {K : Nat} {z0 z : ow_MS}  {go : Nat → Int32 → ow_MS → Option (Int32 × ow_MS)} {x1 : Int32}  (hgo : ∀ (L : Nat) (x1 : Int32) (z : ow_MS), fr (pf [] []) z0 z → Fo Prod.snd (pf [] []) z0 (go L x1 z)) (hz : fr (pf [] []) z0 z)  : Fo Prod.snd (pf [] []) z0 (qm_X13_free_0 K go x1 z) := by
  unfold qm_X13_free_0
  exact (hgo 1 _ z hz)
theorem fb_X13_free_1 {K : Nat} {z0 z : ow_MS}  {go : Nat → Int32 → ow_MS → Option (Int32 × ow_MS)} {x1 : Int32}  (hgo : ∀ (L : Nat) (x1 : Int32) (z : ow_MS), fr (pf [] []) z0 z → Fo Prod.snd (pf [] []) z0 (go L x1 z)) (hz : fr (pf [] []) z0 z)  : Fo Prod.snd (pf [] []) z0 (qm_X13_free_1 K go x1 z) := by
  unfold qm_X13_free_1
  exact (fo_if (hgo 2 _ z hz) (fo_rdI (fun v1 => (fo_if (hgo 2 _ z hz) (hgo 1 _ z hz)))))
theorem fb_X13_free_2 {K : Nat} {z0 z : ow_MS}  {go : Nat → Int32 → ow_MS → Option (Int32 × ow_MS)} {x1 : Int32}  (hgo : ∀ (L : Nat) (x1 : Int32) (z : ow_MS), fr (pf [] []) z0 z → Fo Prod.snd (pf [] []) z0 (go L x1 z)) (hz : fr (pf [] []) z0 z)  : Fo Prod.snd (pf [] []) z0 (qm_X13_free_2 K go x1 z) := by
  unfold qm_X13_free_2
  exact (fo_if (fo_some hz) (fo_some hz))
theorem fq_X13_free {K : Nat} {z0 : ow_MS}   : ∀ (k L : Nat) (x1 : Int32) (z : ow_MS), fr (pf [] []) z0 z → Fo Prod.snd (pf [] []) z0 (q_X13_free K k L x1 z)
  | 0 => by
    intros
    exact fo_none
  | k + 1 => by
    intro L x1 z hz 
    show Fo Prod.snd (pf [] []) z0 (qb_X13_free K (q_X13_free K k) L x1 z)
    unfold qb_X13_free
    split
    · exact fb_X13_free_0 (fq_X13_free k) hz 
    · exact fb_X13_free_1 (fq_X13_free k) hz 
    · exact fb_X13_free_2 (fq_X13_free k) hz 
    · exact fo_none
theorem ff_X13_free {K : Nat} {z : ow_MS}  : Fo Prod.snd (pf [] []) z (qe_X13_free K z) := fq_X13_free K 0 _ z fr_rf 
theorem ff_X12_clear {K : Nat} {r0 : Nat} {z : ow_MS} (hr0 : 1000 ≤ r0) : Fo id (pf [] []) z (qe_X12_clear K r0 z) := by
  unfold qe_X12_clear qm_X12_clear_0
  exact (fo_wrF (Or.inr (Or.inr (by omega))) fr_rf (fun z1 h_z1 => (fo_wrF (Or.inr (Or.inr (by omega))) h_z1 (fun z2 h_z2 => (fo_wrI (Or.inr (Or.inr (by omega))) h_z2 (fun z3 h_z3 => (fo_some h_z3)))))))
theorem ff_X12_end {K : Nat} {r0 : Nat} {z : ow_MS} (hr0 : 1000 ≤ r0) : Fo id (pf [] []) z (qe_X12_end K r0 z) := by
  unfold qe_X12_end qm_X12_end_0
  exact (fo_rdF (fun v1 => (fo_wrF (Or.inr (Or.inr (by omega))) fr_rf (fun z2 h_z2 => (fo_rdF (fun v3 => (fo_rdF (fun v4 => (fo_wrI (Or.inr (Or.inr (by omega))) h_z2 (fun z5 h_z5 => (fo_some h_z5)))))))))))
theorem ff_X13_byteAt {K : Nat} {x1 : Int32} {z : ow_MS}  : Fo Prod.snd (pf [] []) z (qe_X13_byteAt K x1 z) := by
  unfold qe_X13_byteAt qm_X13_byteAt_0
  exact (fo_rdF (fun v1 => (fo_if (fo_some fr_rf) (fo_rdI (fun v2 => (fo_some fr_rf))))))
theorem ff_X12_add {K : Nat} {r0 : Nat} {x1 : Int32} {x2 : Int32} {z : ow_MS} (hr0 : 1000 ≤ r0) : Fo id (pf [] []) z (qe_X12_add K r0 x1 x2 z) := by
  unfold qe_X12_add qm_X12_add_0
  exact (fo_rdF (fun v1 => (fo_wrI (Or.inr (Or.inr (by omega))) fr_rf (fun z2 h_z2 => (fo_rdF (fun v3 => (fo_wrI (Or.inr (Or.inr (by omega))) h_z2 (fun z4 h_z4 => (fo_rdF (fun v5 => (fo_wrF (Or.inr (Or.inr (by omega))) h_z4 (fun z6 h_z6 => (fo_some h_z6)))))))))))))
theorem fb_X12_link_0 {K : Nat} {z0 z : ow_MS}  {go : Nat → Int32 → Int32 → Int32 → Nat → Int32 → Int32 → ow_MS → Option ow_MS} {x1 : Int32} {x2 : Int32} {x3 : Int32} {r0 : Nat} {t0 : Int32} {t1 : Int32}  (hgo : ∀ (L : Nat) (x1 : Int32) (x2 : Int32) (x3 : Int32) (r0 : Nat) (t0 : Int32) (t1 : Int32) (z : ow_MS), fr (pf [] []) z0 z → (L = 0 ∨ L = 1 ∨ L = 2 ∨ L = 3 ∨ L = 4 ∨ L = 5 ∨ L = 6 → 1000 ≤ r0) → Fo id (pf [] []) z0 (go L x1 x2 x3 r0 t0 t1 z)) (hz : fr (pf [] []) z0 z) (hr0 : 1000 ≤ r0) : Fo id (pf [] []) z0 (qm_X12_link_0 K go x1 x2 x3 r0 t0 t1 z) := by
  unfold qm_X12_link_0
  exact (hgo 1 _ _ _ _ _ _ z hz (fun _ => (by first | omega | decide)))
theorem fb_X12_link_1 {K : Nat} {z0 z : ow_MS}  {go : Nat → Int32 → Int32 → Int32 → Nat → Int32 → Int32 → ow_MS → Option ow_MS} {x1 : Int32} {x2 : Int32} {x3 : Int32} {r0 : Nat} {t0 : Int32} {t1 : Int32}  (hgo : ∀ (L : Nat) (x1 : Int32) (x2 : Int32) (x3 : Int32) (r0 : Nat) (t0 : Int32) (t1 : Int32) (z : ow_MS), fr (pf [] []) z0 z → (L = 0 ∨ L = 1 ∨ L = 2 ∨ L = 3 ∨ L = 4 ∨ L = 5 ∨ L = 6 → 1000 ≤ r0) → Fo id (pf [] []) z0 (go L x1 x2 x3 r0 t0 t1 z)) (hz : fr (pf [] []) z0 z) (hr0 : 1000 ≤ r0) : Fo id (pf [] []) z0 (qm_X12_link_1 K go x1 x2 x3 r0 t0 t1 z) := by
  unfold qm_X12_link_1
  exact (fo_if (hgo 2 _ _ _ _ _ _ z hz (fun _ => (by first | omega | decide))) (fo_wrI (Or.inr (Or.inr (by omega))) hz (fun z1 h_z1 => (hgo 1 _ _ _ _ _ _ z1 h_z1 (fun _ => (by first | omega | decide))))))
theorem fb_X12_link_2 {K : Nat} {z0 z : ow_MS}  {go : Nat → Int32 → Int32 → Int32 → Nat → Int32 → Int32 → ow_MS → Option ow_MS} {x1 : Int32} {x2 : Int32} {x3 : Int32} {r0 : Nat} {t0 : Int32} {t1 : Int32}  (hgo : ∀ (L : Nat) (x1 : Int32) (x2 : Int32) (x3 : Int32) (r0 : Nat) (t0 : Int32) (t1 : Int32) (z : ow_MS), fr (pf [] []) z0 z → (L = 0 ∨ L = 1 ∨ L = 2 ∨ L = 3 ∨ L = 4 ∨ L = 5 ∨ L = 6 → 1000 ≤ r0) → Fo id (pf [] []) z0 (go L x1 x2 x3 r0 t0 t1 z)) (hz : fr (pf [] []) z0 z) (hr0 : 1000 ≤ r0) : Fo id (pf [] []) z0 (qm_X12_link_2 K go x1 x2 x3 r0 t0 t1 z) := by
  unfold qm_X12_link_2
  exact (fo_rdF (fun v2 => (fo_if (fo_some hz) (fo_rdI (fun v3 => (hgo 3 _ _ _ _ _ _ z hz (fun _ => (by first | omega | decide))))))))
theorem fb_X12_link_3 {K : Nat} {z0 z : ow_MS}  {go : Nat → Int32 → Int32 → Int32 → Nat → Int32 → Int32 → ow_MS → Option ow_MS} {x1 : Int32} {x2 : Int32} {x3 : Int32} {r0 : Nat} {t0 : Int32} {t1 : Int32}  (hgo : ∀ (L : Nat) (x1 : Int32) (x2 : Int32) (x3 : Int32) (r0 : Nat) (t0 : Int32) (t1 : Int32) (z : ow_MS), fr (pf [] []) z0 z → (L = 0 ∨ L = 1 ∨ L = 2 ∨ L = 3 ∨ L = 4 ∨ L = 5 ∨ L = 6 → 1000 ≤ r0) → Fo id (pf [] []) z0 (go L x1 x2 x3 r0 t0 t1 z)) (hz : fr (pf [] []) z0 z) (hr0 : 1000 ≤ r0) : Fo id (pf [] []) z0 (qm_X12_link_3 K go x1 x2 x3 r0 t0 t1 z) := by
  unfold qm_X12_link_3
  exact (fo_rdI (fun v4 => (fo_if (hgo 2 _ _ _ _ _ _ z hz (fun _ => (by first | omega | decide))) (fo_wrI (Or.inr (Or.inr (by omega))) hz (fun z5 h_z5 => (fo_rdI (fun v6 => (fo_if (fo_rdI (fun v7 => (hgo 4 _ _ _ _ _ _ z5 h_z5 (fun _ => (by first | omega | decide))))) (hgo 4 _ _ _ _ _ _ z5 h_z5 (fun _ => (by first | omega | decide)))))))))))
theorem fb_X12_link_4 {K : Nat} {z0 z : ow_MS}  {go : Nat → Int32 → Int32 → Int32 → Nat → Int32 → Int32 → ow_MS → Option ow_MS} {x1 : Int32} {x2 : Int32} {x3 : Int32} {r0 : Nat} {t0 : Int32} {t1 : Int32}  (hgo : ∀ (L : Nat) (x1 : Int32) (x2 : Int32) (x3 : Int32) (r0 : Nat) (t0 : Int32) (t1 : Int32) (z : ow_MS), fr (pf [] []) z0 z → (L = 0 ∨ L = 1 ∨ L = 2 ∨ L = 3 ∨ L = 4 ∨ L = 5 ∨ L = 6 → 1000 ≤ r0) → Fo id (pf [] []) z0 (go L x1 x2 x3 r0 t0 t1 z)) (hz : fr (pf [] []) z0 z) (hr0 : 1000 ≤ r0) : Fo id (pf [] []) z0 (qm_X12_link_4 K go x1 x2 x3 r0 t0 t1 z) := by
  unfold qm_X12_link_4
  exact (fo_wrI (Or.inr (Or.inr (by omega))) hz (fun z8 h_z8 => (fo_rdI (fun v9 => (fo_if (fo_rdI (fun v10 => (hgo 5 _ _ _ _ _ _ z8 h_z8 (fun _ => (by first | omega | decide))))) (hgo 5 _ _ _ _ _ _ z8 h_z8 (fun _ => (by first | omega | decide))))))))
theorem fb_X12_link_5 {K : Nat} {z0 z : ow_MS}  {go : Nat → Int32 → Int32 → Int32 → Nat → Int32 → Int32 → ow_MS → Option ow_MS} {x1 : Int32} {x2 : Int32} {x3 : Int32} {r0 : Nat} {t0 : Int32} {t1 : Int32}  (hgo : ∀ (L : Nat) (x1 : Int32) (x2 : Int32) (x3 : Int32) (r0 : Nat) (t0 : Int32) (t1 : Int32) (z : ow_MS), fr (pf [] []) z0 z → (L = 0 ∨ L = 1 ∨ L = 2 ∨ L = 3 ∨ L = 4 ∨ L = 5 ∨ L = 6 → 1000 ≤ r0) → Fo id (pf [] []) z0 (go L x1 x2 x3 r0 t0 t1 z)) (hz : fr (pf [] []) z0 z) (hr0 : 1000 ≤ r0) : Fo id (pf [] []) z0 (qm_X12_link_5 K go x1 x2 x3 r0 t0 t1 z) := by
  unfold qm_X12_link_5
  exact (fo_wrI (Or.inr (Or.inr (by omega))) hz (fun z11 h_z11 => (fo_rdI (fun v12 => (fo_rdI (fun v13 => (fo_if (fo_wrI (Or.inr (Or.inr (by omega))) h_z11 (fun z18 h_z18 => (hgo 6 _ _ _ _ _ _ z18 h_z18 (fun _ => (by first | omega | decide))))) (fo_rdI (fun v14 => (fo_wrI (Or.inr (Or.inr (by omega))) h_z11 (fun z15 h_z15 => (fo_rdI (fun v16 => (fo_wrI (Or.inr (Or.inr (by omega))) h_z15 (fun z17 h_z17 => (hgo 6 _ _ _ _ _ _ z17 h_z17 (fun _ => (by first | omega | decide))))))))))))))))))
theorem fb_X12_link_6 {K : Nat} {z0 z : ow_MS}  {go : Nat → Int32 → Int32 → Int32 → Nat → Int32 → Int32 → ow_MS → Option ow_MS} {x1 : Int32} {x2 : Int32} {x3 : Int32} {r0 : Nat} {t0 : Int32} {t1 : Int32}  (hgo : ∀ (L : Nat) (x1 : Int32) (x2 : Int32) (x3 : Int32) (r0 : Nat) (t0 : Int32) (t1 : Int32) (z : ow_MS), fr (pf [] []) z0 z → (L = 0 ∨ L = 1 ∨ L = 2 ∨ L = 3 ∨ L = 4 ∨ L = 5 ∨ L = 6 → 1000 ≤ r0) → Fo id (pf [] []) z0 (go L x1 x2 x3 r0 t0 t1 z)) (hz : fr (pf [] []) z0 z) (hr0 : 1000 ≤ r0) : Fo id (pf [] []) z0 (qm_X12_link_6 K go x1 x2 x3 r0 t0 t1 z) := by
  unfold qm_X12_link_6
  exact (hgo 3 _ _ _ _ _ _ z hz (fun _ => (by first | omega | decide)))
theorem fq_X12_link {K : Nat} {z0 : ow_MS}   : ∀ (k L : Nat) (x1 : Int32) (x2 : Int32) (x3 : Int32) (r0 : Nat) (t0 : Int32) (t1 : Int32) (z : ow_MS), fr (pf [] []) z0 z → (L = 0 ∨ L = 1 ∨ L = 2 ∨ L = 3 ∨ L = 4 ∨ L = 5 ∨ L = 6 → 1000 ≤ r0) → Fo id (pf [] []) z0 (q_X12_link K k L x1 x2 x3 r0 t0 t1 z)
  | 0 => by
    intros
    exact fo_none
  | k + 1 => by
    intro L x1 x2 x3 r0 t0 t1 z hz h9_r0
    show Fo id (pf [] []) z0 (qb_X12_link K (q_X12_link K k) L x1 x2 x3 r0 t0 t1 z)
    unfold qb_X12_link
    split
    · exact fb_X12_link_0 (fq_X12_link k) hz (h9_r0 (by decide))
    · exact fb_X12_link_1 (fq_X12_link k) hz (h9_r0 (by decide))
    · exact fb_X12_link_2 (fq_X12_link k) hz (h9_r0 (by decide))
    · exact fb_X12_link_3 (fq_X12_link k) hz (h9_r0 (by decide))
    · exact fb_X12_link_4 (fq_X12_link k) hz (h9_r0 (by decide))
    · exact fb_X12_link_5 (fq_X12_link k) hz (h9_r0 (by decide))
    · exact fb_X12_link_6 (fq_X12_link k) hz (h9_r0 (by decide))
    · exact fo_none
theorem ff_X12_link {K : Nat} {r0 : Nat} {z : ow_MS} (hr0 : 1000 ≤ r0) : Fo id (pf [] []) z (qe_X12_link K r0 z) := fq_X12_link K 0 _ _ _ _ _ _ z fr_rf (fun _ => (by first | omega | decide))
theorem fb_X12_split_0 {K : Nat} {z0 z : ow_MS}  {go : Nat → Int32 → Int32 → Int32 → Nat → ow_MS → Option ow_MS} {x1 : Int32} {x2 : Int32} {x3 : Int32} {r0 : Nat}  (hgo : ∀ (L : Nat) (x1 : Int32) (x2 : Int32) (x3 : Int32) (r0 : Nat) (z : ow_MS), fr (pf [] []) z0 z → (L = 0 ∨ L = 1 ∨ L = 2 ∨ L = 3 ∨ L = 4 ∨ L = 5 ∨ L = 6 → 1000 ≤ r0) → Fo id (pf [] []) z0 (go L x1 x2 x3 r0 z)) (hz : fr (pf [] []) z0 z) (hr0 : 1000 ≤ r0) : Fo id (pf [] []) z0 (qm_X12_split_0 K go x1 x2 x3 r0 z) := by
  unfold qm_X12_split_0
  exact (hgo 1 _ _ _ _ z hz (fun _ => (by first | omega | decide)))
theorem fb_X12_split_1 {K : Nat} {z0 z : ow_MS}  {go : Nat → Int32 → Int32 → Int32 → Nat → ow_MS → Option ow_MS} {x1 : Int32} {x2 : Int32} {x3 : Int32} {r0 : Nat}  (hgo : ∀ (L : Nat) (x1 : Int32) (x2 : Int32) (x3 : Int32) (r0 : Nat) (z : ow_MS), fr (pf [] []) z0 z → (L = 0 ∨ L = 1 ∨ L = 2 ∨ L = 3 ∨ L = 4 ∨ L = 5 ∨ L = 6 → 1000 ≤ r0) → Fo id (pf [] []) z0 (go L x1 x2 x3 r0 z)) (hz : fr (pf [] []) z0 z) (hr0 : 1000 ≤ r0) : Fo id (pf [] []) z0 (qm_X12_split_1 K go x1 x2 x3 r0 z) := by
  unfold qm_X12_split_1
  exact (fo_rdF (fun v1 => (fo_if (fo_wrF (Or.inr (Or.inr (by omega))) hz (fun z2 h_z2 => (hgo 2 _ _ _ _ z2 h_z2 (fun _ => (by first | omega | decide))))) (fo_wrI (Or.inr (Or.inr (by omega))) hz (fun z3 h_z3 => (hgo 1 _ _ _ _ z3 h_z3 (fun _ => (by first | omega | decide))))))))
theorem fb_X12_split_2 {K : Nat} {z0 z : ow_MS}  {go : Nat → Int32 → Int32 → Int32 → Nat → ow_MS → Option ow_MS} {x1 : Int32} {x2 : Int32} {x3 : Int32} {r0 : Nat}  (hgo : ∀ (L : Nat) (x1 : Int32) (x2 : Int32) (x3 : Int32) (r0 : Nat) (z : ow_MS), fr (pf [] []) z0 z → (L = 0 ∨ L = 1 ∨ L = 2 ∨ L = 3 ∨ L = 4 ∨ L = 5 ∨ L = 6 → 1000 ≤ r0) → Fo id (pf [] []) z0 (go L x1 x2 x3 r0 z)) (hz : fr (pf [] []) z0 z) (hr0 : 1000 ≤ r0) : Fo id (pf [] []) z0 (qm_X12_split_2 K go x1 x2 x3 r0 z) := by
  unfold qm_X12_split_2
  exact (fo_rdF (fun v4 => (fo_if (fo_some hz) (fo_rdI (fun v5 => (fo_if (fo_rdF (fun v6 => (fo_wrI (Or.inr (Or.inr (by omega))) hz (fun z7 h_z7 => (hgo 3 _ _ _ _ z7 h_z7 (fun _ => (by first | omega | decide))))))) (hgo 6 _ _ _ _ z hz (fun _ => (by first | omega | decide)))))))))
theorem fb_X12_split_3 {K : Nat} {z0 z : ow_MS}  {go : Nat → Int32 → Int32 → Int32 → Nat → ow_MS → Option ow_MS} {x1 : Int32} {x2 : Int32} {x3 : Int32} {r0 : Nat}  (hgo : ∀ (L : Nat) (x1 : Int32) (x2 : Int32) (x3 : Int32) (r0 : Nat) (z : ow_MS), fr (pf [] []) z0 z → (L = 0 ∨ L = 1 ∨ L = 2 ∨ L = 3 ∨ L = 4 ∨ L = 5 ∨ L = 6 → 1000 ≤ r0) → Fo id (pf [] []) z0 (go L x1 x2 x3 r0 z)) (hz : fr (pf [] []) z0 z) (hr0 : 1000 ≤ r0) : Fo id (pf [] []) z0 (qm_X12_split_3 K go x1 x2 x3 r0 z) := by
  unfold qm_X12_split_3
  exact (fo_if (fo_rdF (fun v8 => (fo_wrF (Or.inr (Or.inr (by omega))) hz (fun z9 h_z9 => (hgo 6 _ _ _ _ z9 h_z9 (fun _ => (by first | omega | decide))))))) (hgo 4 _ _ _ _ z hz (fun _ => (by first | omega | decide))))
theorem fb_X12_split_4 {K : Nat} {z0 z : ow_MS}  {go : Nat → Int32 → Int32 → Int32 → Nat → ow_MS → Option ow_MS} {x1 : Int32} {x2 : Int32} {x3 : Int32} {r0 : Nat}  (hgo : ∀ (L : Nat) (x1 : Int32) (x2 : Int32) (x3 : Int32) (r0 : Nat) (z : ow_MS), fr (pf [] []) z0 z → (L = 0 ∨ L = 1 ∨ L = 2 ∨ L = 3 ∨ L = 4 ∨ L = 5 ∨ L = 6 → 1000 ≤ r0) → Fo id (pf [] []) z0 (go L x1 x2 x3 r0 z)) (hz : fr (pf [] []) z0 z) (hr0 : 1000 ≤ r0) : Fo id (pf [] []) z0 (qm_X12_split_4 K go x1 x2 x3 r0 z) := by
  unfold qm_X12_split_4
  exact (fo_rdF (fun v10 => (fo_if (hgo 3 _ _ _ _ z hz (fun _ => (by first | omega | decide))) (fo_rdI (fun v11 => (fo_rdI (fun v12 => (fo_rdF (fun v13 => (fo_if (fo_rdI (fun v14 => (fo_rdI (fun v15 => (fo_rdI (fun v16 => (fo_if (fo_rdI (fun v17 => (fo_rdI (fun v18 => (fo_rdF (fun v19 => (fo_wrI (Or.inr (Or.inr (by omega))) hz (fun z20 h_z20 => (hgo 5 _ _ _ _ z20 h_z20 (fun _ => (by first | omega | decide))))))))))) (hgo 5 _ _ _ _ z hz (fun _ => (by first | omega | decide)))))))))) (hgo 5 _ _ _ _ z hz (fun _ => (by first | omega | decide)))))))))))))
theorem fb_X12_split_5 {K : Nat} {z0 z : ow_MS}  {go : Nat → Int32 → Int32 → Int32 → Nat → ow_MS → Option ow_MS} {x1 : Int32} {x2 : Int32} {x3 : Int32} {r0 : Nat}  (hgo : ∀ (L : Nat) (x1 : Int32) (x2 : Int32) (x3 : Int32) (r0 : Nat) (z : ow_MS), fr (pf [] []) z0 z → (L = 0 ∨ L = 1 ∨ L = 2 ∨ L = 3 ∨ L = 4 ∨ L = 5 ∨ L = 6 → 1000 ≤ r0) → Fo id (pf [] []) z0 (go L x1 x2 x3 r0 z)) (hz : fr (pf [] []) z0 z) (hr0 : 1000 ≤ r0) : Fo id (pf [] []) z0 (qm_X12_split_5 K go x1 x2 x3 r0 z) := by
  unfold qm_X12_split_5
  exact (hgo 4 _ _ _ _ z hz (fun _ => (by first | omega | decide)))
theorem fb_X12_split_6 {K : Nat} {z0 z : ow_MS}  {go : Nat → Int32 → Int32 → Int32 → Nat → ow_MS → Option ow_MS} {x1 : Int32} {x2 : Int32} {x3 : Int32} {r0 : Nat}  (hgo : ∀ (L : Nat) (x1 : Int32) (x2 : Int32) (x3 : Int32) (r0 : Nat) (z : ow_MS), fr (pf [] []) z0 z → (L = 0 ∨ L = 1 ∨ L = 2 ∨ L = 3 ∨ L = 4 ∨ L = 5 ∨ L = 6 → 1000 ≤ r0) → Fo id (pf [] []) z0 (go L x1 x2 x3 r0 z)) (hz : fr (pf [] []) z0 z) (hr0 : 1000 ≤ r0) : Fo id (pf [] []) z0 (qm_X12_split_6 K go x1 x2 x3 r0 z) := by
  unfold qm_X12_split_6
  exact (hgo 2 _ _ _ _ z hz (fun _ => (by first | omega | decide)))
theorem fq_X12_split {K : Nat} {z0 : ow_MS}   : ∀ (k L : Nat) (x1 : Int32) (x2 : Int32) (x3 : Int32) (r0 : Nat) (z : ow_MS), fr (pf [] []) z0 z → (L = 0 ∨ L = 1 ∨ L = 2 ∨ L = 3 ∨ L = 4 ∨ L = 5 ∨ L = 6 → 1000 ≤ r0) → Fo id (pf [] []) z0 (q_X12_split K k L x1 x2 x3 r0 z)
  | 0 => by
    intros
    exact fo_none
  | k + 1 => by
    intro L x1 x2 x3 r0 z hz h9_r0
    show Fo id (pf [] []) z0 (qb_X12_split K (q_X12_split K k) L x1 x2 x3 r0 z)
    unfold qb_X12_split
    split
    · exact fb_X12_split_0 (fq_X12_split k) hz (h9_r0 (by decide))
    · exact fb_X12_split_1 (fq_X12_split k) hz (h9_r0 (by decide))
    · exact fb_X12_split_2 (fq_X12_split k) hz (h9_r0 (by decide))
    · exact fb_X12_split_3 (fq_X12_split k) hz (h9_r0 (by decide))
    · exact fb_X12_split_4 (fq_X12_split k) hz (h9_r0 (by decide))
    · exact fb_X12_split_5 (fq_X12_split k) hz (h9_r0 (by decide))
    · exact fb_X12_split_6 (fq_X12_split k) hz (h9_r0 (by decide))
    · exact fo_none
theorem ff_X12_split {K : Nat} {r0 : Nat} {z : ow_MS} (hr0 : 1000 ≤ r0) : Fo id (pf [] []) z (qe_X12_split K r0 z) := fq_X12_split K 0 _ _ _ _ z fr_rf (fun _ => (by first | omega | decide))
theorem fb_X12_walk_0 {K : Nat} {z0 z : ow_MS}  {go : Nat → Int32 → Int32 → Int32 → Int32 → Int32 → Int32 → Nat → Int32 → ow_MS → Option ow_MS} {x1 : Int32} {x2 : Int32} {x3 : Int32} {x4 : Int32} {x5 : Int32} {x6 : Int32} {r0 : Nat} {t0 : Int32}  (hgo : ∀ (L : Nat) (x1 : Int32) (x2 : Int32) (x3 : Int32) (x4 : Int32) (x5 : Int32) (x6 : Int32) (r0 : Nat) (t0 : Int32) (z : ow_MS), fr (pf [] []) z0 z → (L = 0 ∨ L = 1 ∨ L = 2 ∨ L = 3 ∨ L = 4 ∨ L = 5 ∨ L = 6 ∨ L = 7 ∨ L = 8 ∨ L = 9 ∨ L = 10 ∨ L = 11 → 1000 ≤ r0) → Fo id (pf [] []) z0 (go L x1 x2 x3 x4 x5 x6 r0 t0 z)) (hz : fr (pf [] []) z0 z) (hr0 : 1000 ≤ r0) : Fo id (pf [] []) z0 (qm_X12_walk_0 K go x1 x2 x3 x4 x5 x6 r0 t0 z) := by
  unfold qm_X12_walk_0
  exact (hgo 1 _ _ _ _ _ _ _ _ z hz (fun _ => (by first | omega | decide)))
theorem fb_X12_walk_1 {K : Nat} {z0 z : ow_MS}  {go : Nat → Int32 → Int32 → Int32 → Int32 → Int32 → Int32 → Nat → Int32 → ow_MS → Option ow_MS} {x1 : Int32} {x2 : Int32} {x3 : Int32} {x4 : Int32} {x5 : Int32} {x6 : Int32} {r0 : Nat} {t0 : Int32}  (hgo : ∀ (L : Nat) (x1 : Int32) (x2 : Int32) (x3 : Int32) (x4 : Int32) (x5 : Int32) (x6 : Int32) (r0 : Nat) (t0 : Int32) (z : ow_MS), fr (pf [] []) z0 z → (L = 0 ∨ L = 1 ∨ L = 2 ∨ L = 3 ∨ L = 4 ∨ L = 5 ∨ L = 6 ∨ L = 7 ∨ L = 8 ∨ L = 9 ∨ L = 10 ∨ L = 11 → 1000 ≤ r0) → Fo id (pf [] []) z0 (go L x1 x2 x3 x4 x5 x6 r0 t0 z)) (hz : fr (pf [] []) z0 z) (hr0 : 1000 ≤ r0) : Fo id (pf [] []) z0 (qm_X12_walk_1 K go x1 x2 x3 x4 x5 x6 r0 t0 z) := by
  unfold qm_X12_walk_1
  exact (fo_rdF (fun v1 => (fo_if (fo_wrF (Or.inr (Or.inr (by omega))) hz (fun z2 h_z2 => (hgo 2 _ _ _ _ _ _ _ _ z2 h_z2 (fun _ => (by first | omega | decide))))) (fo_wrI (Or.inr (Or.inr (by omega))) hz (fun z3 h_z3 => (hgo 1 _ _ _ _ _ _ _ _ z3 h_z3 (fun _ => (by first | omega | decide))))))))
theorem fb_X12_walk_2 {K : Nat} {z0 z : ow_MS}  {go : Nat → Int32 → Int32 → Int32 → Int32 → Int32 → Int32 → Nat → Int32 → ow_MS → Option ow_MS} {x1 : Int32} {x2 : Int32} {x3 : Int32} {x4 : Int32} {x5 : Int32} {x6 : Int32} {r0 : Nat} {t0 : Int32}  (hgo : ∀ (L : Nat) (x1 : Int32) (x2 : Int32) (x3 : Int32) (x4 : Int32) (x5 : Int32) (x6 : Int32) (r0 : Nat) (t0 : Int32) (z : ow_MS), fr (pf [] []) z0 z → (L = 0 ∨ L = 1 ∨ L = 2 ∨ L = 3 ∨ L = 4 ∨ L = 5 ∨ L = 6 ∨ L = 7 ∨ L = 8 ∨ L = 9 ∨ L = 10 ∨ L = 11 → 1000 ≤ r0) → Fo id (pf [] []) z0 (go L x1 x2 x3 x4 x5 x6 r0 t0 z)) (hz : fr (pf [] []) z0 z) (hr0 : 1000 ≤ r0) : Fo id (pf [] []) z0 (qm_X12_walk_2 K go x1 x2 x3 x4 x5 x6 r0 t0 z) := by
  unfold qm_X12_walk_2
  exact (fo_rdF (fun v4 => (fo_if (fo_some hz) (fo_rdI (fun v5 => (fo_if (fo_rdF (fun v6 => (fo_wrI (Or.inr (Or.inr (by omega))) hz (fun z7 h_z7 => (hgo 3 _ _ _ _ _ _ _ _ z7 h_z7 (fun _ => (by first | omega | decide))))))) (hgo 11 _ _ _ _ _ _ _ _ z hz (fun _ => (by first | omega | decide)))))))))
theorem fb_X12_walk_3 {K : Nat} {z0 z : ow_MS}  {go : Nat → Int32 → Int32 → Int32 → Int32 → Int32 → Int32 → Nat → Int32 → ow_MS → Option ow_MS} {x1 : Int32} {x2 : Int32} {x3 : Int32} {x4 : Int32} {x5 : Int32} {x6 : Int32} {r0 : Nat} {t0 : Int32}  (hgo : ∀ (L : Nat) (x1 : Int32) (x2 : Int32) (x3 : Int32) (x4 : Int32) (x5 : Int32) (x6 : Int32) (r0 : Nat) (t0 : Int32) (z : ow_MS), fr (pf [] []) z0 z → (L = 0 ∨ L = 1 ∨ L = 2 ∨ L = 3 ∨ L = 4 ∨ L = 5 ∨ L = 6 ∨ L = 7 ∨ L = 8 ∨ L = 9 ∨ L = 10 ∨ L = 11 → 1000 ≤ r0) → Fo id (pf [] []) z0 (go L x1 x2 x3 x4 x5 x6 r0 t0 z)) (hz : fr (pf [] []) z0 z) (hr0 : 1000 ≤ r0) : Fo id (pf [] []) z0 (qm_X12_walk_3 K go x1 x2 x3 x4 x5 x6 r0 t0 z) := by
  unfold qm_X12_walk_3
  exact (fo_rdI (fun v8 => (fo_if (fo_rdF (fun v11 => (fo_wrI (Or.inr (Or.inr (by omega))) hz (fun z12 h_z12 => (fo_rdF (fun v13 => (fo_rdI (fun v14 => (fo_wrI (Or.inr (Or.inr (by omega))) h_z12 (fun z15 h_z15 => (fo_if (fo_rdI (fun v16 => (hgo 4 _ _ _ _ _ _ _ _ z15 h_z15 (fun _ => (by first | omega | decide))))) (hgo 4 _ _ _ _ _ _ _ _ z15 h_z15 (fun _ => (by first | omega | decide)))))))))))))) (fo_rdF (fun v9 => (fo_wrF (Or.inr (Or.inr (by omega))) hz (fun z10 h_z10 => (hgo 11 _ _ _ _ _ _ _ _ z10 h_z10 (fun _ => (by first | omega | decide))))))))))
theorem fb_X12_walk_4 {K : Nat} {z0 z : ow_MS}  {go : Nat → Int32 → Int32 → Int32 → Int32 → Int32 → Int32 → Nat → Int32 → ow_MS → Option ow_MS} {x1 : Int32} {x2 : Int32} {x3 : Int32} {x4 : Int32} {x5 : Int32} {x6 : Int32} {r0 : Nat} {t0 : Int32}  (hgo : ∀ (L : Nat) (x1 : Int32) (x2 : Int32) (x3 : Int32) (x4 : Int32) (x5 : Int32) (x6 : Int32) (r0 : Nat) (t0 : Int32) (z : ow_MS), fr (pf [] []) z0 z → (L = 0 ∨ L = 1 ∨ L = 2 ∨ L = 3 ∨ L = 4 ∨ L = 5 ∨ L = 6 ∨ L = 7 ∨ L = 8 ∨ L = 9 ∨ L = 10 ∨ L = 11 → 1000 ≤ r0) → Fo id (pf [] []) z0 (go L x1 x2 x3 x4 x5 x6 r0 t0 z)) (hz : fr (pf [] []) z0 z) (hr0 : 1000 ≤ r0) : Fo id (pf [] []) z0 (qm_X12_walk_4 K go x1 x2 x3 x4 x5 x6 r0 t0 z) := by
  unfold qm_X12_walk_4
  exact (fo_rdI (fun v17 => (fo_if (fo_rdI (fun v18 => (fo_rdI (fun v19 => (fo_if (hgo 6 _ _ _ _ _ _ _ _ z hz (fun _ => (by first | omega | decide))) (hgo 5 _ _ _ _ _ _ _ _ z hz (fun _ => (by first | omega | decide)))))))) (hgo 5 _ _ _ _ _ _ _ _ z hz (fun _ => (by first | omega | decide))))))
theorem fb_X12_walk_5 {K : Nat} {z0 z : ow_MS}  {go : Nat → Int32 → Int32 → Int32 → Int32 → Int32 → Int32 → Nat → Int32 → ow_MS → Option ow_MS} {x1 : Int32} {x2 : Int32} {x3 : Int32} {x4 : Int32} {x5 : Int32} {x6 : Int32} {r0 : Nat} {t0 : Int32}  (hgo : ∀ (L : Nat) (x1 : Int32) (x2 : Int32) (x3 : Int32) (x4 : Int32) (x5 : Int32) (x6 : Int32) (r0 : Nat) (t0 : Int32) (z : ow_MS), fr (pf [] []) z0 z → (L = 0 ∨ L = 1 ∨ L = 2 ∨ L = 3 ∨ L = 4 ∨ L = 5 ∨ L = 6 ∨ L = 7 ∨ L = 8 ∨ L = 9 ∨ L = 10 ∨ L = 11 → 1000 ≤ r0) → Fo id (pf [] []) z0 (go L x1 x2 x3 x4 x5 x6 r0 t0 z)) (hz : fr (pf [] []) z0 z) (hr0 : 1000 ≤ r0) : Fo id (pf [] []) z0 (qm_X12_walk_5 K go x1 x2 x3 x4 x5 x6 r0 t0 z) := by
  unfold qm_X12_walk_5
  exact (fo_rdI (fun v20 => (fo_if (fo_rdI (fun v21 => (fo_rdI (fun v22 => (fo_if (hgo 7 _ _ _ _ _ _ _ _ z hz (fun _ => (by first | omega | decide))) (hgo 6 _ _ _ _ _ _ _ _ z hz (fun _ => (by first | omega | decide)))))))) (hgo 7 _ _ _ _ _ _ _ _ z hz (fun _ => (by first | omega | decide))))))
theorem fb_X12_walk_6 {K : Nat} {z0 z : ow_MS}  {go : Nat → Int32 → Int32 → Int32 → Int32 → Int32 → Int32 → Nat → Int32 → ow_MS → Option ow_MS} {x1 : Int32} {x2 : Int32} {x3 : Int32} {x4 : Int32} {x5 : Int32} {x6 : Int32} {r0 : Nat} {t0 : Int32}  (hgo : ∀ (L : Nat) (x1 : Int32) (x2 : Int32) (x3 : Int32) (x4 : Int32) (x5 : Int32) (x6 : Int32) (r0 : Nat) (t0 : Int32) (z : ow_MS), fr (pf [] []) z0 z → (L = 0 ∨ L = 1 ∨ L = 2 ∨ L = 3 ∨ L = 4 ∨ L = 5 ∨ L = 6 ∨ L = 7 ∨ L = 8 ∨ L = 9 ∨ L = 10 ∨ L = 11 → 1000 ≤ r0) → Fo id (pf [] []) z0 (go L x1 x2 x3 x4 x5 x6 r0 t0 z)) (hz : fr (pf [] []) z0 z) (hr0 : 1000 ≤ r0) : Fo id (pf [] []) z0 (qm_X12_walk_6 K go x1 x2 x3 x4 x5 x6 r0 t0 z) := by
  unfold qm_X12_walk_6
  exact (hgo 8 _ _ _ _ _ _ _ _ z hz (fun _ => (by first | omega | decide)))
theorem fb_X12_walk_7 {K : Nat} {z0 z : ow_MS}  {go : Nat → Int32 → Int32 → Int32 → Int32 → Int32 → Int32 → Nat → Int32 → ow_MS → Option ow_MS} {x1 : Int32} {x2 : Int32} {x3 : Int32} {x4 : Int32} {x5 : Int32} {x6 : Int32} {r0 : Nat} {t0 : Int32}  (hgo : ∀ (L : Nat) (x1 : Int32) (x2 : Int32) (x3 : Int32) (x4 : Int32) (x5 : Int32) (x6 : Int32) (r0 : Nat) (t0 : Int32) (z : ow_MS), fr (pf [] []) z0 z → (L = 0 ∨ L = 1 ∨ L = 2 ∨ L = 3 ∨ L = 4 ∨ L = 5 ∨ L = 6 ∨ L = 7 ∨ L = 8 ∨ L = 9 ∨ L = 10 ∨ L = 11 → 1000 ≤ r0) → Fo id (pf [] []) z0 (go L x1 x2 x3 x4 x5 x6 r0 t0 z)) (hz : fr (pf [] []) z0 z) (hr0 : 1000 ≤ r0) : Fo id (pf [] []) z0 (qm_X12_walk_7 K go x1 x2 x3 x4 x5 x6 r0 t0 z) := by
  unfold qm_X12_walk_7
  exact (hgo 8 _ _ _ _ _ _ _ _ z hz (fun _ => (by first | omega | decide)))
theorem fb_X12_walk_8 {K : Nat} {z0 z : ow_MS}  {go : Nat → Int32 → Int32 → Int32 → Int32 → Int32 → Int32 → Nat → Int32 → ow_MS → Option ow_MS} {x1 : Int32} {x2 : Int32} {x3 : Int32} {x4 : Int32} {x5 : Int32} {x6 : Int32} {r0 : Nat} {t0 : Int32}  (hgo : ∀ (L : Nat) (x1 : Int32) (x2 : Int32) (x3 : Int32) (x4 : Int32) (x5 : Int32) (x6 : Int32) (r0 : Nat) (t0 : Int32) (z : ow_MS), fr (pf [] []) z0 z → (L = 0 ∨ L = 1 ∨ L = 2 ∨ L = 3 ∨ L = 4 ∨ L = 5 ∨ L = 6 ∨ L = 7 ∨ L = 8 ∨ L = 9 ∨ L = 10 ∨ L = 11 → 1000 ≤ r0) → Fo id (pf [] []) z0 (go L x1 x2 x3 x4 x5 x6 r0 t0 z)) (hz : fr (pf [] []) z0 z) (hr0 : 1000 ≤ r0) : Fo id (pf [] []) z0 (qm_X12_walk_8 K go x1 x2 x3 x4 x5 x6 r0 t0 z) := by
  unfold qm_X12_walk_8
  exact (fo_if (hgo 9 _ _ _ _ _ _ _ _ z hz (fun _ => (by first | omega | decide))) (hgo 9 _ _ _ _ _ _ _ _ z hz (fun _ => (by first | omega | decide))))
theorem fb_X12_walk_9 {K : Nat} {z0 z : ow_MS}  {go : Nat → Int32 → Int32 → Int32 → Int32 → Int32 → Int32 → Nat → Int32 → ow_MS → Option ow_MS} {x1 : Int32} {x2 : Int32} {x3 : Int32} {x4 : Int32} {x5 : Int32} {x6 : Int32} {r0 : Nat} {t0 : Int32}  (hgo : ∀ (L : Nat) (x1 : Int32) (x2 : Int32) (x3 : Int32) (x4 : Int32) (x5 : Int32) (x6 : Int32) (r0 : Nat) (t0 : Int32) (z : ow_MS), fr (pf [] []) z0 z → (L = 0 ∨ L = 1 ∨ L = 2 ∨ L = 3 ∨ L = 4 ∨ L = 5 ∨ L = 6 ∨ L = 7 ∨ L = 8 ∨ L = 9 ∨ L = 10 ∨ L = 11 → 1000 ≤ r0) → Fo id (pf [] []) z0 (go L x1 x2 x3 x4 x5 x6 r0 t0 z)) (hz : fr (pf [] []) z0 z) (hr0 : 1000 ≤ r0) : Fo id (pf [] []) z0 (qm_X12_walk_9 K go x1 x2 x3 x4 x5 x6 r0 t0 z) := by
  unfold qm_X12_walk_9
  exact (fo_rdI (fun v23 => (fo_if (hgo 10 _ _ _ _ _ _ _ _ z hz (fun _ => (by first | omega | decide))) (fo_rdI (fun v24 => (hgo 10 _ _ _ _ _ _ _ _ z hz (fun _ => (by first | omega | decide))))))))
theorem fb_X12_walk_10 {K : Nat} {z0 z : ow_MS}  {go : Nat → Int32 → Int32 → Int32 → Int32 → Int32 → Int32 → Nat → Int32 → ow_MS → Option ow_MS} {x1 : Int32} {x2 : Int32} {x3 : Int32} {x4 : Int32} {x5 : Int32} {x6 : Int32} {r0 : Nat} {t0 : Int32}  (hgo : ∀ (L : Nat) (x1 : Int32) (x2 : Int32) (x3 : Int32) (x4 : Int32) (x5 : Int32) (x6 : Int32) (r0 : Nat) (t0 : Int32) (z : ow_MS), fr (pf [] []) z0 z → (L = 0 ∨ L = 1 ∨ L = 2 ∨ L = 3 ∨ L = 4 ∨ L = 5 ∨ L = 6 ∨ L = 7 ∨ L = 8 ∨ L = 9 ∨ L = 10 ∨ L = 11 → 1000 ≤ r0) → Fo id (pf [] []) z0 (go L x1 x2 x3 x4 x5 x6 r0 t0 z)) (hz : fr (pf [] []) z0 z) (hr0 : 1000 ≤ r0) : Fo id (pf [] []) z0 (qm_X12_walk_10 K go x1 x2 x3 x4 x5 x6 r0 t0 z) := by
  unfold qm_X12_walk_10
  exact (hgo 3 _ _ _ _ _ _ _ _ z hz (fun _ => (by first | omega | decide)))
theorem fb_X12_walk_11 {K : Nat} {z0 z : ow_MS}  {go : Nat → Int32 → Int32 → Int32 → Int32 → Int32 → Int32 → Nat → Int32 → ow_MS → Option ow_MS} {x1 : Int32} {x2 : Int32} {x3 : Int32} {x4 : Int32} {x5 : Int32} {x6 : Int32} {r0 : Nat} {t0 : Int32}  (hgo : ∀ (L : Nat) (x1 : Int32) (x2 : Int32) (x3 : Int32) (x4 : Int32) (x5 : Int32) (x6 : Int32) (r0 : Nat) (t0 : Int32) (z : ow_MS), fr (pf [] []) z0 z → (L = 0 ∨ L = 1 ∨ L = 2 ∨ L = 3 ∨ L = 4 ∨ L = 5 ∨ L = 6 ∨ L = 7 ∨ L = 8 ∨ L = 9 ∨ L = 10 ∨ L = 11 → 1000 ≤ r0) → Fo id (pf [] []) z0 (go L x1 x2 x3 x4 x5 x6 r0 t0 z)) (hz : fr (pf [] []) z0 z) (hr0 : 1000 ≤ r0) : Fo id (pf [] []) z0 (qm_X12_walk_11 K go x1 x2 x3 x4 x5 x6 r0 t0 z) := by
  unfold qm_X12_walk_11
  exact (hgo 2 _ _ _ _ _ _ _ _ z hz (fun _ => (by first | omega | decide)))
theorem fq_X12_walk {K : Nat} {z0 : ow_MS}   : ∀ (k L : Nat) (x1 : Int32) (x2 : Int32) (x3 : Int32) (x4 : Int32) (x5 : Int32) (x6 : Int32) (r0 : Nat) (t0 : Int32) (z : ow_MS), fr (pf [] []) z0 z → (L = 0 ∨ L = 1 ∨ L = 2 ∨ L = 3 ∨ L = 4 ∨ L = 5 ∨ L = 6 ∨ L = 7 ∨ L = 8 ∨ L = 9 ∨ L = 10 ∨ L = 11 → 1000 ≤ r0) → Fo id (pf [] []) z0 (q_X12_walk K k L x1 x2 x3 x4 x5 x6 r0 t0 z)
  | 0 => by
    intros
    exact fo_none
  | k + 1 => by
    intro L x1 x2 x3 x4 x5 x6 r0 t0 z hz h9_r0
    show Fo id (pf [] []) z0 (qb_X12_walk K (q_X12_walk K k) L x1 x2 x3 x4 x5 x6 r0 t0 z)
    unfold qb_X12_walk
    split
    · exact fb_X12_walk_0 (fq_X12_walk k) hz (h9_r0 (by decide))
    · exact fb_X12_walk_1 (fq_X12_walk k) hz (h9_r0 (by decide))
    · exact fb_X12_walk_2 (fq_X12_walk k) hz (h9_r0 (by decide))
    · exact fb_X12_walk_3 (fq_X12_walk k) hz (h9_r0 (by decide))
    · exact fb_X12_walk_4 (fq_X12_walk k) hz (h9_r0 (by decide))
    · exact fb_X12_walk_5 (fq_X12_walk k) hz (h9_r0 (by decide))
    · exact fb_X12_walk_6 (fq_X12_walk k) hz (h9_r0 (by decide))
    · exact fb_X12_walk_7 (fq_X12_walk k) hz (h9_r0 (by decide))
    · exact fb_X12_walk_8 (fq_X12_walk k) hz (h9_r0 (by decide))
    · exact fb_X12_walk_9 (fq_X12_walk k) hz (h9_r0 (by decide))
    · exact fb_X12_walk_10 (fq_X12_walk k) hz (h9_r0 (by decide))
    · exact fb_X12_walk_11 (fq_X12_walk k) hz (h9_r0 (by decide))
    · exact fo_none
theorem ff_X12_walk {K : Nat} {r0 : Nat} {z : ow_MS} (hr0 : 1000 ≤ r0) : Fo id (pf [] []) z (qe_X12_walk K r0 z) := fq_X12_walk K 0 _ _ _ _ _ _ _ _ z fr_rf (fun _ => (by first | omega | decide))
theorem ff_X12_isCircle {K : Nat} {r0 : Nat} {x1 : Int32} {z : ow_MS} (hr0 : 1000 ≤ r0) : Fo Prod.snd (pf [] []) z (qe_X12_isCircle K r0 x1 z) := by
  unfold qe_X12_isCircle qm_X12_isCircle_0
  exact (fo_rdI (fun v1 => (fo_rdI (fun v2 => (fo_if (fo_okZ (fo_some fr_rf)) (fo_okZ (fo_some fr_rf)))))))
theorem fb_X12_isPlane_0 {K : Nat} {z0 z : ow_MS}  {go : Nat → Int32 → Int32 → Int32 → Int32 → Nat → Int32 → Int32 → ow_MS → Option (Int32 × ow_MS)} {x1 : Int32} {x2 : Int32} {x3 : Int32} {x4 : Int32} {r0 : Nat} {t0 : Int32} {t1 : Int32}  (hgo : ∀ (L : Nat) (x1 : Int32) (x2 : Int32) (x3 : Int32) (x4 : Int32) (r0 : Nat) (t0 : Int32) (t1 : Int32) (z : ow_MS), fr (pf [] []) z0 z → (L = 0 ∨ L = 1 ∨ L = 2 ∨ L = 3 ∨ L = 4 ∨ L = 5 → 1000 ≤ r0) → Fo Prod.snd (pf [] []) z0 (go L x1 x2 x3 x4 r0 t0 t1 z)) (hz : fr (pf [] []) z0 z) (hr0 : 1000 ≤ r0) : Fo Prod.snd (pf [] []) z0 (qm_X12_isPlane_0 K go x1 x2 x3 x4 r0 t0 t1 z) := by
  unfold qm_X12_isPlane_0
  exact (fo_cs0 (ff_X12_split (by first | omega | decide)) (pf_sub (by decide) pf_0) hz (fun z1 h_z1 => (fo_cs0 (ff_X12_walk (by first | omega | decide)) (pf_sub (by decide) pf_0) h_z1 (fun z2 h_z2 => (fo_rdF (fun v3 => (fo_nzI (hgo 1 _ _ _ _ _ _ _ z2 h_z2 (fun _ => (by first | omega | decide))))))))))
theorem fb_X12_isPlane_1 {K : Nat} {z0 z : ow_MS}  {go : Nat → Int32 → Int32 → Int32 → Int32 → Nat → Int32 → Int32 → ow_MS → Option (Int32 × ow_MS)} {x1 : Int32} {x2 : Int32} {x3 : Int32} {x4 : Int32} {r0 : Nat} {t0 : Int32} {t1 : Int32}  (hgo : ∀ (L : Nat) (x1 : Int32) (x2 : Int32) (x3 : Int32) (x4 : Int32) (r0 : Nat) (t0 : Int32) (t1 : Int32) (z : ow_MS), fr (pf [] []) z0 z → (L = 0 ∨ L = 1 ∨ L = 2 ∨ L = 3 ∨ L = 4 ∨ L = 5 → 1000 ≤ r0) → Fo Prod.snd (pf [] []) z0 (go L x1 x2 x3 x4 r0 t0 t1 z)) (hz : fr (pf [] []) z0 z) (hr0 : 1000 ≤ r0) : Fo Prod.snd (pf [] []) z0 (qm_X12_isPlane_1 K go x1 x2 x3 x4 r0 t0 t1 z) := by
  unfold qm_X12_isPlane_1
  exact (fo_rdF (fun v4 => (fo_if (fo_rdF (fun v5 => (fo_if (fo_okZ (fo_some hz)) (fo_okZ (fo_some hz))))) (hgo 2 _ _ _ _ _ _ _ z hz (fun _ => (by first | omega | decide))))))
theorem fb_X12_isPlane_2 {K : Nat} {z0 z : ow_MS}  {go : Nat → Int32 → Int32 → Int32 → Int32 → Nat → Int32 → Int32 → ow_MS → Option (Int32 × ow_MS)} {x1 : Int32} {x2 : Int32} {x3 : Int32} {x4 : Int32} {r0 : Nat} {t0 : Int32} {t1 : Int32}  (hgo : ∀ (L : Nat) (x1 : Int32) (x2 : Int32) (x3 : Int32) (x4 : Int32) (r0 : Nat) (t0 : Int32) (t1 : Int32) (z : ow_MS), fr (pf [] []) z0 z → (L = 0 ∨ L = 1 ∨ L = 2 ∨ L = 3 ∨ L = 4 ∨ L = 5 → 1000 ≤ r0) → Fo Prod.snd (pf [] []) z0 (go L x1 x2 x3 x4 r0 t0 t1 z)) (hz : fr (pf [] []) z0 z) (hr0 : 1000 ≤ r0) : Fo Prod.snd (pf [] []) z0 (qm_X12_isPlane_2 K go x1 x2 x3 x4 r0 t0 t1 z) := by
  unfold qm_X12_isPlane_2
  exact (fo_rdF (fun v6 => (fo_if (fo_if (hgo 5 _ _ _ _ _ _ _ z hz (fun _ => (by first | omega | decide))) (hgo 5 _ _ _ _ _ _ _ z hz (fun _ => (by first | omega | decide)))) (fo_rdI (fun v7 => (fo_if (fo_cs1 (ff_X12_isCircle (by first | omega | decide)) (pf_sub (by decide) pf_0) hz (fun v9 z8 h_z8 => (fo_if (hgo 4 _ _ _ _ _ _ _ z8 h_z8 (fun _ => (by first | omega | decide))) (hgo 3 _ _ _ _ _ _ _ z8 h_z8 (fun _ => (by first | omega | decide)))))) (hgo 3 _ _ _ _ _ _ _ z hz (fun _ => (by first | omega | decide)))))))))
theorem fb_X12_isPlane_3 {K : Nat} {z0 z : ow_MS}  {go : Nat → Int32 → Int32 → Int32 → Int32 → Nat → Int32 → Int32 → ow_MS → Option (Int32 × ow_MS)} {x1 : Int32} {x2 : Int32} {x3 : Int32} {x4 : Int32} {r0 : Nat} {t0 : Int32} {t1 : Int32}  (hgo : ∀ (L : Nat) (x1 : Int32) (x2 : Int32) (x3 : Int32) (x4 : Int32) (r0 : Nat) (t0 : Int32) (t1 : Int32) (z : ow_MS), fr (pf [] []) z0 z → (L = 0 ∨ L = 1 ∨ L = 2 ∨ L = 3 ∨ L = 4 ∨ L = 5 → 1000 ≤ r0) → Fo Prod.snd (pf [] []) z0 (go L x1 x2 x3 x4 r0 t0 t1 z)) (hz : fr (pf [] []) z0 z) (hr0 : 1000 ≤ r0) : Fo Prod.snd (pf [] []) z0 (qm_X12_isPlane_3 K go x1 x2 x3 x4 r0 t0 t1 z) := by
  unfold qm_X12_isPlane_3
  exact (hgo 4 _ _ _ _ _ _ _ z hz (fun _ => (by first | omega | decide)))
theorem fb_X12_isPlane_4 {K : Nat} {z0 z : ow_MS}  {go : Nat → Int32 → Int32 → Int32 → Int32 → Nat → Int32 → Int32 → ow_MS → Option (Int32 × ow_MS)} {x1 : Int32} {x2 : Int32} {x3 : Int32} {x4 : Int32} {r0 : Nat} {t0 : Int32} {t1 : Int32}  (hgo : ∀ (L : Nat) (x1 : Int32) (x2 : Int32) (x3 : Int32) (x4 : Int32) (r0 : Nat) (t0 : Int32) (t1 : Int32) (z : ow_MS), fr (pf [] []) z0 z → (L = 0 ∨ L = 1 ∨ L = 2 ∨ L = 3 ∨ L = 4 ∨ L = 5 → 1000 ≤ r0) → Fo Prod.snd (pf [] []) z0 (go L x1 x2 x3 x4 r0 t0 t1 z)) (hz : fr (pf [] []) z0 z) (hr0 : 1000 ≤ r0) : Fo Prod.snd (pf [] []) z0 (qm_X12_isPlane_4 K go x1 x2 x3 x4 r0 t0 t1 z) := by
  unfold qm_X12_isPlane_4
  exact (hgo 2 _ _ _ _ _ _ _ z hz (fun _ => (by first | omega | decide)))
theorem fb_X12_isPlane_5 {K : Nat} {z0 z : ow_MS}  {go : Nat → Int32 → Int32 → Int32 → Int32 → Nat → Int32 → Int32 → ow_MS → Option (Int32 × ow_MS)} {x1 : Int32} {x2 : Int32} {x3 : Int32} {x4 : Int32} {r0 : Nat} {t0 : Int32} {t1 : Int32}  (hgo : ∀ (L : Nat) (x1 : Int32) (x2 : Int32) (x3 : Int32) (x4 : Int32) (r0 : Nat) (t0 : Int32) (t1 : Int32) (z : ow_MS), fr (pf [] []) z0 z → (L = 0 ∨ L = 1 ∨ L = 2 ∨ L = 3 ∨ L = 4 ∨ L = 5 → 1000 ≤ r0) → Fo Prod.snd (pf [] []) z0 (go L x1 x2 x3 x4 r0 t0 t1 z)) (hz : fr (pf [] []) z0 z) (hr0 : 1000 ≤ r0) : Fo Prod.snd (pf [] []) z0 (qm_X12_isPlane_5 K go x1 x2 x3 x4 r0 t0 t1 z) := by
  unfold qm_X12_isPlane_5
  exact (hgo 1 _ _ _ _ _ _ _ z hz (fun _ => (by first | omega | decide)))
theorem fq_X12_isPlane {K : Nat} {z0 : ow_MS}   : ∀ (k L : Nat) (x1 : Int32) (x2 : Int32) (x3 : Int32) (x4 : Int32) (r0 : Nat) (t0 : Int32) (t1 : Int32) (z : ow_MS), fr (pf [] []) z0 z → (L = 0 ∨ L = 1 ∨ L = 2 ∨ L = 3 ∨ L = 4 ∨ L = 5 → 1000 ≤ r0) → Fo Prod.snd (pf [] []) z0 (q_X12_isPlane K k L x1 x2 x3 x4 r0 t0 t1 z)
  | 0 => by
    intros
    exact fo_none
  | k + 1 => by
    intro L x1 x2 x3 x4 r0 t0 t1 z hz h9_r0
    show Fo Prod.snd (pf [] []) z0 (qb_X12_isPlane K (q_X12_isPlane K k) L x1 x2 x3 x4 r0 t0 t1 z)
    unfold qb_X12_isPlane
    split
    · exact fb_X12_isPlane_0 (fq_X12_isPlane k) hz (h9_r0 (by decide))
    · exact fb_X12_isPlane_1 (fq_X12_isPlane k) hz (h9_r0 (by decide))
    · exact fb_X12_isPlane_2 (fq_X12_isPlane k) hz (h9_r0 (by decide))
    · exact fb_X12_isPlane_3 (fq_X12_isPlane k) hz (h9_r0 (by decide))
    · exact fb_X12_isPlane_4 (fq_X12_isPlane k) hz (h9_r0 (by decide))
    · exact fb_X12_isPlane_5 (fq_X12_isPlane k) hz (h9_r0 (by decide))
    · exact fo_none
theorem ff_X12_isPlane {K : Nat} {r0 : Nat} {z : ow_MS} (hr0 : 1000 ≤ r0) : Fo Prod.snd (pf [] []) z (qe_X12_isPlane K r0 z) := fq_X12_isPlane K 0 _ _ _ _ _ _ _ z fr_rf (fun _ => (by first | omega | decide))
theorem fb_X13_read_0 {K : Nat} {z0 z : ow_MS}  {go : Nat → Int32 → Int32 → Int32 → Int32 → Int32 → Int32 → Int32 → Int32 → Int32 → ow_MS → Option (Int32 × ow_MS)} {x1 : Int32} {x2 : Int32} {x3 : Int32} {x4 : Int32} {x5 : Int32} {x6 : Int32} {x7 : Int32} {x8 : Int32} {t0 : Int32}  (hgo : ∀ (L : Nat) (x1 : Int32) (x2 : Int32) (x3 : Int32) (x4 : Int32) (x5 : Int32) (x6 : Int32) (x7 : Int32) (x8 : Int32) (t0 : Int32) (z : ow_MS), fr (pf [16, 17, 18, 19] []) z0 z → Fo Prod.snd (pf [16, 17, 18, 19] []) z0 (go L x1 x2 x3 x4 x5 x6 x7 x8 t0 z)) (hz : fr (pf [16, 17, 18, 19] []) z0 z)  : Fo Prod.snd (pf [16, 17, 18, 19] []) z0 (qm_X13_read_0 K go x1 x2 x3 x4 x5 x6 x7 x8 t0 z) := by
  unfold qm_X13_read_0
  exact (fo_cs0 (ff_X12_clear (by first | omega | decide)) (pf_sub (by decide) pf_0) hz (fun z1 h_z1 => (hgo 1 _ _ _ _ _ _ _ _ _ z1 h_z1)))
theorem fb_X13_read_1 {K : Nat} {z0 z : ow_MS}  {go : Nat → Int32 → Int32 → Int32 → Int32 → Int32 → Int32 → Int32 → Int32 → Int32 → ow_MS → Option (Int32 × ow_MS)} {x1 : Int32} {x2 : Int32} {x3 : Int32} {x4 : Int32} {x5 : Int32} {x6 : Int32} {x7 : Int32} {x8 : Int32} {t0 : Int32}  (hgo : ∀ (L : Nat) (x1 : Int32) (x2 : Int32) (x3 : Int32) (x4 : Int32) (x5 : Int32) (x6 : Int32) (x7 : Int32) (x8 : Int32) (t0 : Int32) (z : ow_MS), fr (pf [16, 17, 18, 19] []) z0 z → Fo Prod.snd (pf [16, 17, 18, 19] []) z0 (go L x1 x2 x3 x4 x5 x6 x7 x8 t0 z)) (hz : fr (pf [16, 17, 18, 19] []) z0 z)  : Fo Prod.snd (pf [16, 17, 18, 19] []) z0 (qm_X13_read_1 K go x1 x2 x3 x4 x5 x6 x7 x8 t0 z) := by
  unfold qm_X13_read_1
  exact (fo_rdF (fun v2 => (fo_if (fo_cs0 (ff_X12_end (by first | omega | decide)) (pf_sub (by decide) pf_0) hz (fun z3 h_z3 => (fo_rdF (fun v4 => (hgo 10 _ _ _ _ _ _ _ _ _ z3 h_z3))))) (fo_rdI (fun v5 => (fo_if (fo_cs0 (ff_X12_end (by first | omega | decide)) (pf_sub (by decide) pf_0) hz (fun z6 h_z6 => (fo_rdF (fun v7 => (fo_if (fo_some h_z6) (hgo 1 _ _ _ _ _ _ _ _ _ z6 h_z6)))))) (fo_if (hgo 2 _ _ _ _ _ _ _ _ _ z hz) (fo_if (hgo 2 _ _ _ _ _ _ _ _ _ z hz) (fo_some hz)))))))))
theorem fb_X13_read_2 {K : Nat} {z0 z : ow_MS}  {go : Nat → Int32 → Int32 → Int32 → Int32 → Int32 → Int32 → Int32 → Int32 → Int32 → ow_MS → Option (Int32 × ow_MS)} {x1 : Int32} {x2 : Int32} {x3 : Int32} {x4 : Int32} {x5 : Int32} {x6 : Int32} {x7 : Int32} {x8 : Int32} {t0 : Int32}  (hgo : ∀ (L : Nat) (x1 : Int32) (x2 : Int32) (x3 : Int32) (x4 : Int32) (x5 : Int32) (x6 : Int32) (x7 : Int32) (x8 : Int32) (t0 : Int32) (z : ow_MS), fr (pf [16, 17, 18, 19] []) z0 z → Fo Prod.snd (pf [16, 17, 18, 19] []) z0 (go L x1 x2 x3 x4 x5 x6 x7 x8 t0 z)) (hz : fr (pf [16, 17, 18, 19] []) z0 z)  : Fo Prod.snd (pf [16, 17, 18, 19] []) z0 (qm_X13_read_2 K go x1 x2 x3 x4 x5 x6 x7 x8 t0 z) := by
  unfold qm_X13_read_2
  exact (fo_rdF (fun v8 => (fo_if (fo_rdF (fun v21 => (fo_some hz))) (fo_cs1 (ff_X13_byteAt) (pf_sub (by decide) pf_0) hz (fun v10 z9 h_z9 => (fo_if (fo_some h_z9) (fo_cs1 (ff_X13_byteAt) (pf_sub (by decide) pf_0) h_z9 (fun v12 z11 h_z11 => (fo_if (fo_cs1 (ff_X13_byteAt) (pf_sub (by decide) pf_0) h_z11 (fun v14 z13 h_z13 => (fo_cs1 (ff_X13_byteAt) (pf_sub (by decide) pf_0) h_z13 (fun v16 z15 h_z15 => (fo_if (hgo 3 _ _ _ _ _ _ _ _ _ z15 h_z15) (fo_cs1 (ff_X13_byteAt) (pf_sub (by decide) pf_0) h_z15 (fun v18 z17 h_z17 => (fo_if (hgo 3 _ _ _ _ _ _ _ _ _ z17 h_z17) (fo_cs1 (ff_X13_byteAt) (pf_sub (by decide) pf_0) h_z17 (fun v20 z19 h_z19 => (hgo 3 _ _ _ _ _ _ _ _ _ z19 h_z19))))))))))) (fo_some h_z11))))))))))
theorem fb_X13_read_3 {K : Nat} {z0 z : ow_MS}  {go : Nat → Int32 → Int32 → Int32 → Int32 → Int32 → Int32 → Int32 → Int32 → Int32 → ow_MS → Option (Int32 × ow_MS)} {x1 : Int32} {x2 : Int32} {x3 : Int32} {x4 : Int32} {x5 : Int32} {x6 : Int32} {x7 : Int32} {x8 : Int32} {t0 : Int32}  (hgo : ∀ (L : Nat) (x1 : Int32) (x2 : Int32) (x3 : Int32) (x4 : Int32) (x5 : Int32) (x6 : Int32) (x7 : Int32) (x8 : Int32) (t0 : Int32) (z : ow_MS), fr (pf [16, 17, 18, 19] []) z0 z → Fo Prod.snd (pf [16, 17, 18, 19] []) z0 (go L x1 x2 x3 x4 x5 x6 x7 x8 t0 z)) (hz : fr (pf [16, 17, 18, 19] []) z0 z)  : Fo Prod.snd (pf [16, 17, 18, 19] []) z0 (qm_X13_read_3 K go x1 x2 x3 x4 x5 x6 x7 x8 t0 z) := by
  unfold qm_X13_read_3
  exact (fo_rdF (fun v22 => (fo_if (fo_rdF (fun v27 => (fo_some hz))) (fo_cs1 (ff_X13_byteAt) (pf_sub (by decide) pf_0) hz (fun v24 z23 h_z23 => (fo_if (hgo 4 _ _ _ _ _ _ _ _ _ z23 h_z23) (fo_cs1 (ff_X13_byteAt) (pf_sub (by decide) pf_0) h_z23 (fun v26 z25 h_z25 => (fo_if (hgo 4 _ _ _ _ _ _ _ _ _ z25 h_z25) (fo_some h_z25))))))))))
theorem fb_X13_read_4 {K : Nat} {z0 z : ow_MS}  {go : Nat → Int32 → Int32 → Int32 → Int32 → Int32 → Int32 → Int32 → Int32 → Int32 → ow_MS → Option (Int32 × ow_MS)} {x1 : Int32} {x2 : Int32} {x3 : Int32} {x4 : Int32} {x5 : Int32} {x6 : Int32} {x7 : Int32} {x8 : Int32} {t0 : Int32}  (hgo : ∀ (L : Nat) (x1 : Int32) (x2 : Int32) (x3 : Int32) (x4 : Int32) (x5 : Int32) (x6 : Int32) (x7 : Int32) (x8 : Int32) (t0 : Int32) (z : ow_MS), fr (pf [16, 17, 18, 19] []) z0 z → Fo Prod.snd (pf [16, 17, 18, 19] []) z0 (go L x1 x2 x3 x4 x5 x6 x7 x8 t0 z)) (hz : fr (pf [16, 17, 18, 19] []) z0 z)  : Fo Prod.snd (pf [16, 17, 18, 19] []) z0 (qm_X13_read_4 K go x1 x2 x3 x4 x5 x6 x7 x8 t0 z) := by
  unfold qm_X13_read_4
  exact (fo_cs1 (ff_X13_byteAt) (pf_sub (by decide) pf_0) hz (fun v29 z28 h_z28 => (fo_if (hgo 5 _ _ _ _ _ _ _ _ _ z28 h_z28) (hgo 5 _ _ _ _ _ _ _ _ _ z28 h_z28))))
theorem fb_X13_read_5 {K : Nat} {z0 z : ow_MS}  {go : Nat → Int32 → Int32 → Int32 → Int32 → Int32 → Int32 → Int32 → Int32 → Int32 → ow_MS → Option (Int32 × ow_MS)} {x1 : Int32} {x2 : Int32} {x3 : Int32} {x4 : Int32} {x5 : Int32} {x6 : Int32} {x7 : Int32} {x8 : Int32} {t0 : Int32}  (hgo : ∀ (L : Nat) (x1 : Int32) (x2 : Int32) (x3 : Int32) (x4 : Int32) (x5 : Int32) (x6 : Int32) (x7 : Int32) (x8 : Int32) (t0 : Int32) (z : ow_MS), fr (pf [16, 17, 18, 19] []) z0 z → Fo Prod.snd (pf [16, 17, 18, 19] []) z0 (go L x1 x2 x3 x4 x5 x6 x7 x8 t0 z)) (hz : fr (pf [16, 17, 18, 19] []) z0 z)  : Fo Prod.snd (pf [16, 17, 18, 19] []) z0 (qm_X13_read_5 K go x1 x2 x3 x4 x5 x6 x7 x8 t0 z) := by
  unfold qm_X13_read_5
  exact (fo_if (hgo 6 _ _ _ _ _ _ _ _ _ z hz) (hgo 6 _ _ _ _ _ _ _ _ _ z hz))
theorem fb_X13_read_6 {K : Nat} {z0 z : ow_MS}  {go : Nat → Int32 → Int32 → Int32 → Int32 → Int32 → Int32 → Int32 → Int32 → Int32 → ow_MS → Option (Int32 × ow_MS)} {x1 : Int32} {x2 : Int32} {x3 : Int32} {x4 : Int32} {x5 : Int32} {x6 : Int32} {x7 : Int32} {x8 : Int32} {t0 : Int32}  (hgo : ∀ (L : Nat) (x1 : Int32) (x2 : Int32) (x3 : Int32) (x4 : Int32) (x5 : Int32) (x6 : Int32) (x7 : Int32) (x8 : Int32) (t0 : Int32) (z : ow_MS), fr (pf [16, 17, 18, 19] []) z0 z → Fo Prod.snd (pf [16, 17, 18, 19] []) z0 (go L x1 x2 x3 x4 x5 x6 x7 x8 t0 z)) (hz : fr (pf [16, 17, 18, 19] []) z0 z)  : Fo Prod.snd (pf [16, 17, 18, 19] []) z0 (qm_X13_read_6 K go x1 x2 x3 x4 x5 x6 x7 x8 t0 z) := by
  unfold qm_X13_read_6
  exact (hgo 7 _ _ _ _ _ _ _ _ _ z hz)
theorem fb_X13_read_7 {K : Nat} {z0 z : ow_MS}  {go : Nat → Int32 → Int32 → Int32 → Int32 → Int32 → Int32 → Int32 → Int32 → Int32 → ow_MS → Option (Int32 × ow_MS)} {x1 : Int32} {x2 : Int32} {x3 : Int32} {x4 : Int32} {x5 : Int32} {x6 : Int32} {x7 : Int32} {x8 : Int32} {t0 : Int32}  (hgo : ∀ (L : Nat) (x1 : Int32) (x2 : Int32) (x3 : Int32) (x4 : Int32) (x5 : Int32) (x6 : Int32) (x7 : Int32) (x8 : Int32) (t0 : Int32) (z : ow_MS), fr (pf [16, 17, 18, 19] []) z0 z → Fo Prod.snd (pf [16, 17, 18, 19] []) z0 (go L x1 x2 x3 x4 x5 x6 x7 x8 t0 z)) (hz : fr (pf [16, 17, 18, 19] []) z0 z)  : Fo Prod.snd (pf [16, 17, 18, 19] []) z0 (qm_X13_read_7 K go x1 x2 x3 x4 x5 x6 x7 x8 t0 z) := by
  unfold qm_X13_read_7
  exact (fo_if (hgo 8 _ _ _ _ _ _ _ _ _ z hz) (fo_rdI (fun v30 => (fo_if (hgo 8 _ _ _ _ _ _ _ _ _ z hz) (hgo 7 _ _ _ _ _ _ _ _ _ z hz)))))
theorem fb_X13_read_8 {K : Nat} {z0 z : ow_MS}  {go : Nat → Int32 → Int32 → Int32 → Int32 → Int32 → Int32 → Int32 → Int32 → Int32 → ow_MS → Option (Int32 × ow_MS)} {x1 : Int32} {x2 : Int32} {x3 : Int32} {x4 : Int32} {x5 : Int32} {x6 : Int32} {x7 : Int32} {x8 : Int32} {t0 : Int32}  (hgo : ∀ (L : Nat) (x1 : Int32) (x2 : Int32) (x3 : Int32) (x4 : Int32) (x5 : Int32) (x6 : Int32) (x7 : Int32) (x8 : Int32) (t0 : Int32) (z : ow_MS), fr (pf [16, 17, 18, 19] []) z0 z → Fo Prod.snd (pf [16, 17, 18, 19] []) z0 (go L x1 x2 x3 x4 x5 x6 x7 x8 t0 z)) (hz : fr (pf [16, 17, 18, 19] []) z0 z)  : Fo Prod.snd (pf [16, 17, 18, 19] []) z0 (qm_X13_read_8 K go x1 x2 x3 x4 x5 x6 x7 x8 t0 z) := by
  unfold qm_X13_read_8
  exact (fo_if (fo_if (fo_some hz) (fo_wrI (Or.inl (by decide)) hz (fun z31 h_z31 => (fo_wrI (Or.inl (by decide)) h_z31 (fun z32 h_z32 => (fo_wrI (Or.inl (by decide)) h_z32 (fun z33 h_z33 => (fo_wrI (Or.inl (by decide)) h_z33 (fun z34 h_z34 => (hgo 9 _ _ _ _ _ _ _ _ _ z34 h_z34)))))))))) (hgo 9 _ _ _ _ _ _ _ _ _ z hz))
theorem fb_X13_read_9 {K : Nat} {z0 z : ow_MS}  {go : Nat → Int32 → Int32 → Int32 → Int32 → Int32 → Int32 → Int32 → Int32 → Int32 → ow_MS → Option (Int32 × ow_MS)} {x1 : Int32} {x2 : Int32} {x3 : Int32} {x4 : Int32} {x5 : Int32} {x6 : Int32} {x7 : Int32} {x8 : Int32} {t0 : Int32}  (hgo : ∀ (L : Nat) (x1 : Int32) (x2 : Int32) (x3 : Int32) (x4 : Int32) (x5 : Int32) (x6 : Int32) (x7 : Int32) (x8 : Int32) (t0 : Int32) (z : ow_MS), fr (pf [16, 17, 18, 19] []) z0 z → Fo Prod.snd (pf [16, 17, 18, 19] []) z0 (go L x1 x2 x3 x4 x5 x6 x7 x8 t0 z)) (hz : fr (pf [16, 17, 18, 19] []) z0 z)  : Fo Prod.snd (pf [16, 17, 18, 19] []) z0 (qm_X13_read_9 K go x1 x2 x3 x4 x5 x6 x7 x8 t0 z) := by
  unfold qm_X13_read_9
  exact (fo_rdI (fun v35 => (fo_if (fo_rdI (fun v36 => (fo_if (fo_rdI (fun v37 => (fo_wrI (Or.inl (by decide)) hz (fun z38 h_z38 => (fo_wrI (Or.inr (Or.inr (by decide))) h_z38 (fun z39 h_z39 => (fo_cs0 (ff_X12_add (by first | omega | decide)) (pf_sub (by decide) pf_0) h_z39 (fun z40 h_z40 => (hgo 1 _ _ _ _ _ _ _ _ _ z40 h_z40))))))))) (fo_some hz)))) (fo_some hz))))
theorem fb_X13_read_10 {K : Nat} {z0 z : ow_MS}  {go : Nat → Int32 → Int32 → Int32 → Int32 → Int32 → Int32 → Int32 → Int32 → Int32 → ow_MS → Option (Int32 × ow_MS)} {x1 : Int32} {x2 : Int32} {x3 : Int32} {x4 : Int32} {x5 : Int32} {x6 : Int32} {x7 : Int32} {x8 : Int32} {t0 : Int32}  (hgo : ∀ (L : Nat) (x1 : Int32) (x2 : Int32) (x3 : Int32) (x4 : Int32) (x5 : Int32) (x6 : Int32) (x7 : Int32) (x8 : Int32) (t0 : Int32) (z : ow_MS), fr (pf [16, 17, 18, 19] []) z0 z → Fo Prod.snd (pf [16, 17, 18, 19] []) z0 (go L x1 x2 x3 x4 x5 x6 x7 x8 t0 z)) (hz : fr (pf [16, 17, 18, 19] []) z0 z)  : Fo Prod.snd (pf [16, 17, 18, 19] []) z0 (qm_X13_read_10 K go x1 x2 x3 x4 x5 x6 x7 x8 t0 z) := by
  unfold qm_X13_read_10
  exact (fo_if (fo_rdF (fun v41 => (fo_if (fo_cs0 (ff_X12_link (by first | omega | decide)) (pf_sub (by decide) pf_0) hz (fun z42 h_z42 => (fo_cs1 (ff_X12_isPlane (by first | omega | decide)) (pf_sub (by decide) pf_0) h_z42 (fun v44 z43 h_z43 => (fo_if (fo_rdF (fun v45 => (fo_some h_z43))) (fo_some h_z43)))))) (fo_some hz)))) (fo_rdI (fun v46 => (fo_if (hgo 11 _ _ _ _ _ _ _ _ _ z hz) (fo_rdI (fun v47 => (hgo 11 _ _ _ _ _ _ _ _ _ z hz)))))))
theorem fb_X13_read_11 {K : Nat} {z0 z : ow_MS}  {go : Nat → Int32 → Int32 → Int32 → Int32 → Int32 → Int32 → Int32 → Int32 → Int32 → ow_MS → Option (Int32 × ow_MS)} {x1 : Int32} {x2 : Int32} {x3 : Int32} {x4 : Int32} {x5 : Int32} {x6 : Int32} {x7 : Int32} {x8 : Int32} {t0 : Int32}  (hgo : ∀ (L : Nat) (x1 : Int32) (x2 : Int32) (x3 : Int32) (x4 : Int32) (x5 : Int32) (x6 : Int32) (x7 : Int32) (x8 : Int32) (t0 : Int32) (z : ow_MS), fr (pf [16, 17, 18, 19] []) z0 z → Fo Prod.snd (pf [16, 17, 18, 19] []) z0 (go L x1 x2 x3 x4 x5 x6 x7 x8 t0 z)) (hz : fr (pf [16, 17, 18, 19] []) z0 z)  : Fo Prod.snd (pf [16, 17, 18, 19] []) z0 (qm_X13_read_11 K go x1 x2 x3 x4 x5 x6 x7 x8 t0 z) := by
  unfold qm_X13_read_11
  exact (hgo 10 _ _ _ _ _ _ _ _ _ z hz)
theorem fq_X13_read {K : Nat} {z0 : ow_MS}   : ∀ (k L : Nat) (x1 : Int32) (x2 : Int32) (x3 : Int32) (x4 : Int32) (x5 : Int32) (x6 : Int32) (x7 : Int32) (x8 : Int32) (t0 : Int32) (z : ow_MS), fr (pf [16, 17, 18, 19] []) z0 z → Fo Prod.snd (pf [16, 17, 18, 19] []) z0 (q_X13_read K k L x1 x2 x3 x4 x5 x6 x7 x8 t0 z)
  | 0 => by
    intros
    exact fo_none
  | k + 1 => by
    intro L x1 x2 x3 x4 x5 x6 x7 x8 t0 z hz 
    show Fo Prod.snd (pf [16, 17, 18, 19] []) z0 (qb_X13_read K (q_X13_read K k) L x1 x2 x3 x4 x5 x6 x7 x8 t0 z)
    unfold qb_X13_read
    split
    · exact fb_X13_read_0 (fq_X13_read k) hz 
    · exact fb_X13_read_1 (fq_X13_read k) hz 
    · exact fb_X13_read_2 (fq_X13_read k) hz 
    · exact fb_X13_read_3 (fq_X13_read k) hz 
    · exact fb_X13_read_4 (fq_X13_read k) hz 
    · exact fb_X13_read_5 (fq_X13_read k) hz 
    · exact fb_X13_read_6 (fq_X13_read k) hz 
    · exact fb_X13_read_7 (fq_X13_read k) hz 
    · exact fb_X13_read_8 (fq_X13_read k) hz 
    · exact fb_X13_read_9 (fq_X13_read k) hz 
    · exact fb_X13_read_10 (fq_X13_read k) hz 
    · exact fb_X13_read_11 (fq_X13_read k) hz 
    · exact fo_none
theorem ff_X13_read {K : Nat} {z : ow_MS}  : Fo Prod.snd (pf [16, 17, 18, 19] []) z (qe_X13_read K z) := fq_X13_read K 0 _ _ _ _ _ _ _ _ _ z fr_rf 
theorem fb_X13_rowFrom_0 {K : Nat} {z0 z : ow_MS}  {go : Nat → Int32 → Int32 → Int32 → Int32 → Int32 → Int32 → Nat → Int32 → Int32 → Int32 → ow_MS → Option ow_MS} {x2 : Int32} {x3 : Int32} {x4 : Int32} {x5 : Int32} {x6 : Int32} {x7 : Int32} {r1 : Nat} {t0 : Int32} {t1 : Int32} {t2 : Int32}  (hgo : ∀ (L : Nat) (x2 : Int32) (x3 : Int32) (x4 : Int32) (x5 : Int32) (x6 : Int32) (x7 : Int32) (r1 : Nat) (t0 : Int32) (t1 : Int32) (t2 : Int32) (z : ow_MS), fr (pf [2, 3, 4, 5, 6] []) z0 z → (L = 0 ∨ L = 1 ∨ L = 2 ∨ L = 3 ∨ L = 4 ∨ L = 5 ∨ L = 6 ∨ L = 7 ∨ L = 8 → 1000 ≤ r1) → Fo id (pf [2, 3, 4, 5, 6] []) z0 (go L x2 x3 x4 x5 x6 x7 r1 t0 t1 t2 z)) (hz : fr (pf [2, 3, 4, 5, 6] []) z0 z) (hr1 : 1000 ≤ r1) : Fo id (pf [2, 3, 4, 5, 6] []) z0 (qm_X13_rowFrom_0 K go x2 x3 x4 x5 x6 x7 r1 t0 t1 t2 z) := by
  unfold qm_X13_rowFrom_0
  exact (hgo 1 _ _ _ _ _ _ _ _ _ _ z hz (fun _ => (by first | omega | decide)))
theorem fb_X13_rowFrom_1 {K : Nat} {z0 z : ow_MS}  {go : Nat → Int32 → Int32 → Int32 → Int32 → Int32 → Int32 → Nat → Int32 → Int32 → Int32 → ow_MS → Option ow_MS} {x2 : Int32} {x3 : Int32} {x4 : Int32} {x5 : Int32} {x6 : Int32} {x7 : Int32} {r1 : Nat} {t0 : Int32} {t1 : Int32} {t2 : Int32}  (hgo : ∀ (L : Nat) (x2 : Int32) (x3 : Int32) (x4 : Int32) (x5 : Int32) (x6 : Int32) (x7 : Int32) (r1 : Nat) (t0 : Int32) (t1 : Int32) (t2 : Int32) (z : ow_MS), fr (pf [2, 3, 4, 5, 6] []) z0 z → (L = 0 ∨ L = 1 ∨ L = 2 ∨ L = 3 ∨ L = 4 ∨ L = 5 ∨ L = 6 ∨ L = 7 ∨ L = 8 → 1000 ≤ r1) → Fo id (pf [2, 3, 4, 5, 6] []) z0 (go L x2 x3 x4 x5 x6 x7 r1 t0 t1 t2 z)) (hz : fr (pf [2, 3, 4, 5, 6] []) z0 z) (hr1 : 1000 ≤ r1) : Fo id (pf [2, 3, 4, 5, 6] []) z0 (qm_X13_rowFrom_1 K go x2 x3 x4 x5 x6 x7 r1 t0 t1 t2 z) := by
  unfold qm_X13_rowFrom_1
  exact (fo_if (fo_wrF (Or.inl (by decide)) hz (fun z1 h_z1 => (hgo 2 _ _ _ _ _ _ _ _ _ _ z1 h_z1 (fun _ => (by first | omega | decide))))) (fo_wrI (Or.inl (by decide)) hz (fun z2 h_z2 => (fo_wrZ (Or.inl (by decide)) h_z2 (fun z3 h_z3 => (hgo 1 _ _ _ _ _ _ _ _ _ _ z3 h_z3 (fun _ => (by first | omega | decide))))))))
theorem fb_X13_rowFrom_2 {K : Nat} {z0 z : ow_MS}  {go : Nat → Int32 → Int32 → Int32 → Int32 → Int32 → Int32 → Nat → Int32 → Int32 → Int32 → ow_MS → Option ow_MS} {x2 : Int32} {x3 : Int32} {x4 : Int32} {x5 : Int32} {x6 : Int32} {x7 : Int32} {r1 : Nat} {t0 : Int32} {t1 : Int32} {t2 : Int32}  (hgo : ∀ (L : Nat) (x2 : Int32) (x3 : Int32) (x4 : Int32) (x5 : Int32) (x6 : Int32) (x7 : Int32) (r1 : Nat) (t0 : Int32) (t1 : Int32) (t2 : Int32) (z : ow_MS), fr (pf [2, 3, 4, 5, 6] []) z0 z → (L = 0 ∨ L = 1 ∨ L = 2 ∨ L = 3 ∨ L = 4 ∨ L = 5 ∨ L = 6 ∨ L = 7 ∨ L = 8 → 1000 ≤ r1) → Fo id (pf [2, 3, 4, 5, 6] []) z0 (go L x2 x3 x4 x5 x6 x7 r1 t0 t1 t2 z)) (hz : fr (pf [2, 3, 4, 5, 6] []) z0 z) (hr1 : 1000 ≤ r1) : Fo id (pf [2, 3, 4, 5, 6] []) z0 (qm_X13_rowFrom_2 K go x2 x3 x4 x5 x6 x7 r1 t0 t1 t2 z) := by
  unfold qm_X13_rowFrom_2
  exact (fo_if (fo_rdF (fun v4 => (fo_wrI (Or.inl (by decide)) hz (fun z5 h_z5 => (fo_some h_z5))))) (fo_rdI (fun v6 => (fo_wrZ (Or.inl (by decide)) hz (fun z7 h_z7 => (hgo 3 _ _ _ _ _ _ _ _ _ _ z7 h_z7 (fun _ => (by first | omega | decide))))))))
theorem fb_X13_rowFrom_3 {K : Nat} {z0 z : ow_MS}  {go : Nat → Int32 → Int32 → Int32 → Int32 → Int32 → Int32 → Nat → Int32 → Int32 → Int32 → ow_MS → Option ow_MS} {x2 : Int32} {x3 : Int32} {x4 : Int32} {x5 : Int32} {x6 : Int32} {x7 : Int32} {r1 : Nat} {t0 : Int32} {t1 : Int32} {t2 : Int32}  (hgo : ∀ (L : Nat) (x2 : Int32) (x3 : Int32) (x4 : Int32) (x5 : Int32) (x6 : Int32) (x7 : Int32) (r1 : Nat) (t0 : Int32) (t1 : Int32) (t2 : Int32) (z : ow_MS), fr (pf [2, 3, 4, 5, 6] []) z0 z → (L = 0 ∨ L = 1 ∨ L = 2 ∨ L = 3 ∨ L = 4 ∨ L = 5 ∨ L = 6 ∨ L = 7 ∨ L = 8 → 1000 ≤ r1) → Fo id (pf [2, 3, 4, 5, 6] []) z0 (go L x2 x3 x4 x5 x6 x7 r1 t0 t1 t2 z)) (hz : fr (pf [2, 3, 4, 5, 6] []) z0 z) (hr1 : 1000 ≤ r1) : Fo id (pf [2, 3, 4, 5, 6] []) z0 (qm_X13_rowFrom_3 K go x2 x3 x4 x5 x6 x7 r1 t0 t1 t2 z) := by
  unfold qm_X13_rowFrom_3
  exact (fo_rdI (fun v8 => (fo_rdI (fun v9 => (fo_if (fo_wrI (Or.inl (by decide)) hz (fun z10 h_z10 => (fo_wrI (Or.inl (by decide)) h_z10 (fun z11 h_z11 => (hgo 4 _ _ _ _ _ _ _ _ _ _ z11 h_z11 (fun _ => (by first | omega | decide))))))) (hgo 4 _ _ _ _ _ _ _ _ _ _ z hz (fun _ => (by first | omega | decide))))))))
theorem fb_X13_rowFrom_4 {K : Nat} {z0 z : ow_MS}  {go : Nat → Int32 → Int32 → Int32 → Int32 → Int32 → Int32 → Nat → Int32 → Int32 → Int32 → ow_MS → Option ow_MS} {x2 : Int32} {x3 : Int32} {x4 : Int32} {x5 : Int32} {x6 : Int32} {x7 : Int32} {r1 : Nat} {t0 : Int32} {t1 : Int32} {t2 : Int32}  (hgo : ∀ (L : Nat) (x2 : Int32) (x3 : Int32) (x4 : Int32) (x5 : Int32) (x6 : Int32) (x7 : Int32) (r1 : Nat) (t0 : Int32) (t1 : Int32) (t2 : Int32) (z : ow_MS), fr (pf [2, 3, 4, 5, 6] []) z0 z → (L = 0 ∨ L = 1 ∨ L = 2 ∨ L = 3 ∨ L = 4 ∨ L = 5 ∨ L = 6 ∨ L = 7 ∨ L = 8 → 1000 ≤ r1) → Fo id (pf [2, 3, 4, 5, 6] []) z0 (go L x2 x3 x4 x5 x6 x7 r1 t0 t1 t2 z)) (hz : fr (pf [2, 3, 4, 5, 6] []) z0 z) (hr1 : 1000 ≤ r1) : Fo id (pf [2, 3, 4, 5, 6] []) z0 (qm_X13_rowFrom_4 K go x2 x3 x4 x5 x6 x7 r1 t0 t1 t2 z) := by
  unfold qm_X13_rowFrom_4
  exact (fo_rdF (fun v12 => (fo_wrF (Or.inl (by decide)) hz (fun z13 h_z13 => (fo_rdF (fun v14 => (fo_rdI (fun v15 => (fo_rdI (fun v16 => (fo_rdI (fun v17 => (fo_if (hgo 5 _ _ _ _ _ _ _ _ _ _ z13 h_z13 (fun _ => (by first | omega | decide))) (hgo 5 _ _ _ _ _ _ _ _ _ _ z13 h_z13 (fun _ => (by first | omega | decide))))))))))))))))
theorem fb_X13_rowFrom_5 {K : Nat} {z0 z : ow_MS}  {go : Nat → Int32 → Int32 → Int32 → Int32 → Int32 → Int32 → Nat → Int32 → Int32 → Int32 → ow_MS → Option ow_MS} {x2 : Int32} {x3 : Int32} {x4 : Int32} {x5 : Int32} {x6 : Int32} {x7 : Int32} {r1 : Nat} {t0 : Int32} {t1 : Int32} {t2 : Int32}  (hgo : ∀ (L : Nat) (x2 : Int32) (x3 : Int32) (x4 : Int32) (x5 : Int32) (x6 : Int32) (x7 : Int32) (r1 : Nat) (t0 : Int32) (t1 : Int32) (t2 : Int32) (z : ow_MS), fr (pf [2, 3, 4, 5, 6] []) z0 z → (L = 0 ∨ L = 1 ∨ L = 2 ∨ L = 3 ∨ L = 4 ∨ L = 5 ∨ L = 6 ∨ L = 7 ∨ L = 8 → 1000 ≤ r1) → Fo id (pf [2, 3, 4, 5, 6] []) z0 (go L x2 x3 x4 x5 x6 x7 r1 t0 t1 t2 z)) (hz : fr (pf [2, 3, 4, 5, 6] []) z0 z) (hr1 : 1000 ≤ r1) : Fo id (pf [2, 3, 4, 5, 6] []) z0 (qm_X13_rowFrom_5 K go x2 x3 x4 x5 x6 x7 r1 t0 t1 t2 z) := by
  unfold qm_X13_rowFrom_5
  exact (fo_wrI (Or.inl (by decide)) hz (fun z18 h_z18 => (fo_rdI (fun v19 => (fo_if (fo_rdF (fun v20 => (fo_wrF (Or.inl (by decide)) h_z18 (fun z21 h_z21 => (fo_rdF (fun v22 => (fo_wrI (Or.inl (by decide)) h_z21 (fun z23 h_z23 => (hgo 6 _ _ _ _ _ _ _ _ _ _ z23 h_z23 (fun _ => (by first | omega | decide))))))))))) (hgo 3 _ _ _ _ _ _ _ _ _ _ z18 h_z18 (fun _ => (by first | omega | decide))))))))
theorem fb_X13_rowFrom_6 {K : Nat} {z0 z : ow_MS}  {go : Nat → Int32 → Int32 → Int32 → Int32 → Int32 → Int32 → Nat → Int32 → Int32 → Int32 → ow_MS → Option ow_MS} {x2 : Int32} {x3 : Int32} {x4 : Int32} {x5 : Int32} {x6 : Int32} {x7 : Int32} {r1 : Nat} {t0 : Int32} {t1 : Int32} {t2 : Int32}  (hgo : ∀ (L : Nat) (x2 : Int32) (x3 : Int32) (x4 : Int32) (x5 : Int32) (x6 : Int32) (x7 : Int32) (r1 : Nat) (t0 : Int32) (t1 : Int32) (t2 : Int32) (z : ow_MS), fr (pf [2, 3, 4, 5, 6] []) z0 z → (L = 0 ∨ L = 1 ∨ L = 2 ∨ L = 3 ∨ L = 4 ∨ L = 5 ∨ L = 6 ∨ L = 7 ∨ L = 8 → 1000 ≤ r1) → Fo id (pf [2, 3, 4, 5, 6] []) z0 (go L x2 x3 x4 x5 x6 x7 r1 t0 t1 t2 z)) (hz : fr (pf [2, 3, 4, 5, 6] []) z0 z) (hr1 : 1000 ≤ r1) : Fo id (pf [2, 3, 4, 5, 6] []) z0 (qm_X13_rowFrom_6 K go x2 x3 x4 x5 x6 x7 r1 t0 t1 t2 z) := by
  unfold qm_X13_rowFrom_6
  exact (fo_if (hgo 8 _ _ _ _ _ _ _ _ _ _ z hz (fun _ => (by first | omega | decide))) (fo_if (fo_rdI (fun v24 => (fo_rdI (fun v25 => (fo_rdI (fun v26 => (fo_rdI (fun v27 => (fo_if (hgo 7 _ _ _ _ _ _ _ _ _ _ z hz (fun _ => (by first | omega | decide))) (hgo 7 _ _ _ _ _ _ _ _ _ _ z hz (fun _ => (by first | omega | decide)))))))))))) (hgo 8 _ _ _ _ _ _ _ _ _ _ z hz (fun _ => (by first | omega | decide)))))
theorem fb_X13_rowFrom_7 {K : Nat} {z0 z : ow_MS}  {go : Nat → Int32 → Int32 → Int32 → Int32 → Int32 → Int32 → Nat → Int32 → Int32 → Int32 → ow_MS → Option ow_MS} {x2 : Int32} {x3 : Int32} {x4 : Int32} {x5 : Int32} {x6 : Int32} {x7 : Int32} {r1 : Nat} {t0 : Int32} {t1 : Int32} {t2 : Int32}  (hgo : ∀ (L : Nat) (x2 : Int32) (x3 : Int32) (x4 : Int32) (x5 : Int32) (x6 : Int32) (x7 : Int32) (r1 : Nat) (t0 : Int32) (t1 : Int32) (t2 : Int32) (z : ow_MS), fr (pf [2, 3, 4, 5, 6] []) z0 z → (L = 0 ∨ L = 1 ∨ L = 2 ∨ L = 3 ∨ L = 4 ∨ L = 5 ∨ L = 6 ∨ L = 7 ∨ L = 8 → 1000 ≤ r1) → Fo id (pf [2, 3, 4, 5, 6] []) z0 (go L x2 x3 x4 x5 x6 x7 r1 t0 t1 t2 z)) (hz : fr (pf [2, 3, 4, 5, 6] []) z0 z) (hr1 : 1000 ≤ r1) : Fo id (pf [2, 3, 4, 5, 6] []) z0 (qm_X13_rowFrom_7 K go x2 x3 x4 x5 x6 x7 r1 t0 t1 t2 z) := by
  unfold qm_X13_rowFrom_7
  exact (hgo 6 _ _ _ _ _ _ _ _ _ _ z hz (fun _ => (by first | omega | decide)))
theorem fb_X13_rowFrom_8 {K : Nat} {z0 z : ow_MS}  {go : Nat → Int32 → Int32 → Int32 → Int32 → Int32 → Int32 → Nat → Int32 → Int32 → Int32 → ow_MS → Option ow_MS} {x2 : Int32} {x3 : Int32} {x4 : Int32} {x5 : Int32} {x6 : Int32} {x7 : Int32} {r1 : Nat} {t0 : Int32} {t1 : Int32} {t2 : Int32}  (hgo : ∀ (L : Nat) (x2 : Int32) (x3 : Int32) (x4 : Int32) (x5 : Int32) (x6 : Int32) (x7 : Int32) (r1 : Nat) (t0 : Int32) (t1 : Int32) (t2 : Int32) (z : ow_MS), fr (pf [2, 3, 4, 5, 6] []) z0 z → (L = 0 ∨ L = 1 ∨ L = 2 ∨ L = 3 ∨ L = 4 ∨ L = 5 ∨ L = 6 ∨ L = 7 ∨ L = 8 → 1000 ≤ r1) → Fo id (pf [2, 3, 4, 5, 6] []) z0 (go L x2 x3 x4 x5 x6 x7 r1 t0 t1 t2 z)) (hz : fr (pf [2, 3, 4, 5, 6] []) z0 z) (hr1 : 1000 ≤ r1) : Fo id (pf [2, 3, 4, 5, 6] []) z0 (qm_X13_rowFrom_8 K go x2 x3 x4 x5 x6 x7 r1 t0 t1 t2 z) := by
  unfold qm_X13_rowFrom_8
  exact (hgo 2 _ _ _ _ _ _ _ _ _ _ z hz (fun _ => (by first | omega | decide)))
theorem fq_X13_rowFrom {K : Nat} {z0 : ow_MS}   : ∀ (k L : Nat) (x2 : Int32) (x3 : Int32) (x4 : Int32) (x5 : Int32) (x6 : Int32) (x7 : Int32) (r1 : Nat) (t0 : Int32) (t1 : Int32) (t2 : Int32) (z : ow_MS), fr (pf [2, 3, 4, 5, 6] []) z0 z → (L = 0 ∨ L = 1 ∨ L = 2 ∨ L = 3 ∨ L = 4 ∨ L = 5 ∨ L = 6 ∨ L = 7 ∨ L = 8 → 1000 ≤ r1) → Fo id (pf [2, 3, 4, 5, 6] []) z0 (q_X13_rowFrom K k L x2 x3 x4 x5 x6 x7 r1 t0 t1 t2 z)
  | 0 => by
    intros
    exact fo_none
  | k + 1 => by
    intro L x2 x3 x4 x5 x6 x7 r1 t0 t1 t2 z hz h9_r1
    show Fo id (pf [2, 3, 4, 5, 6] []) z0 (qb_X13_rowFrom K (q_X13_rowFrom K k) L x2 x3 x4 x5 x6 x7 r1 t0 t1 t2 z)
    unfold qb_X13_rowFrom
    split
    · exact fb_X13_rowFrom_0 (fq_X13_rowFrom k) hz (h9_r1 (by decide))
    · exact fb_X13_rowFrom_1 (fq_X13_rowFrom k) hz (h9_r1 (by decide))
    · exact fb_X13_rowFrom_2 (fq_X13_rowFrom k) hz (h9_r1 (by decide))
    · exact fb_X13_rowFrom_3 (fq_X13_rowFrom k) hz (h9_r1 (by decide))
    · exact fb_X13_rowFrom_4 (fq_X13_rowFrom k) hz (h9_r1 (by decide))
    · exact fb_X13_rowFrom_5 (fq_X13_rowFrom k) hz (h9_r1 (by decide))
    · exact fb_X13_rowFrom_6 (fq_X13_rowFrom k) hz (h9_r1 (by decide))
    · exact fb_X13_rowFrom_7 (fq_X13_rowFrom k) hz (h9_r1 (by decide))
    · exact fb_X13_rowFrom_8 (fq_X13_rowFrom k) hz (h9_r1 (by decide))
    · exact fo_none
theorem ff_X13_rowFrom {K : Nat} {r1 : Nat} {x2 : Int32} {z : ow_MS} (hr1 : 1000 ≤ r1) : Fo id (pf [2, 3, 4, 5, 6] []) z (qe_X13_rowFrom K r1 x2 z) := fq_X13_rowFrom K 0 _ _ _ _ _ _ _ _ _ _ z fr_rf (fun _ => (by first | omega | decide))
theorem fb_X13_isBelow_0 {K : Nat} {z0 z : ow_MS}  {go : Nat → Int32 → Int32 → Int32 → Int32 → Nat → Nat → ow_MS → Option (Int32 × ow_MS)} {x1 : Int32} {x3 : Int32} {x4 : Int32} {x5 : Int32} {r0 : Nat} {r2 : Nat}  (hgo : ∀ (L : Nat) (x1 : Int32) (x3 : Int32) (x4 : Int32) (x5 : Int32) (r0 : Nat) (r2 : Nat) (z : ow_MS), fr (pf [] []) z0 z → Fo Prod.snd (pf [] []) z0 (go L x1 x3 x4 x5 r0 r2 z)) (hz : fr (pf [] []) z0 z)  : Fo Prod.snd (pf [] []) z0 (qm_X13_isBelow_0 K go x1 x3 x4 x5 r0 r2 z) := by
  unfold qm_X13_isBelow_0
  exact (fo_rdI (fun v1 => (fo_rdI (fun v2 => (hgo 1 _ _ _ _ _ _ z hz)))))
theorem fb_X13_isBelow_1 {K : Nat} {z0 z : ow_MS}  {go : Nat → Int32 → Int32 → Int32 → Int32 → Nat → Nat → ow_MS → Option (Int32 × ow_MS)} {x1 : Int32} {x3 : Int32} {x4 : Int32} {x5 : Int32} {r0 : Nat} {r2 : Nat}  (hgo : ∀ (L : Nat) (x1 : Int32) (x3 : Int32) (x4 : Int32) (x5 : Int32) (r0 : Nat) (r2 : Nat) (z : ow_MS), fr (pf [] []) z0 z → Fo Prod.snd (pf [] []) z0 (go L x1 x3 x4 x5 r0 r2 z)) (hz : fr (pf [] []) z0 z)  : Fo Prod.snd (pf [] []) z0 (qm_X13_isBelow_1 K go x1 x3 x4 x5 r0 r2 z) := by
  unfold qm_X13_isBelow_1
  exact (fo_if (fo_rdI (fun v3 => (fo_rdI (fun v4 => (fo_if (fo_okZ (fo_some hz)) (fo_okZ (fo_some hz))))))) (fo_rdI (fun v5 => (fo_rdI (fun v6 => (fo_if (hgo 1 _ _ _ _ _ _ z hz) (fo_rdI (fun v7 => (fo_rdI (fun v8 => (fo_if (fo_okZ (fo_some hz)) (fo_okZ (fo_some hz)))))))))))))
theorem fq_X13_isBelow {K : Nat} {z0 : ow_MS}   : ∀ (k L : Nat) (x1 : Int32) (x3 : Int32) (x4 : Int32) (x5 : Int32) (r0 : Nat) (r2 : Nat) (z : ow_MS), fr (pf [] []) z0 z → Fo Prod.snd (pf [] []) z0 (q_X13_isBelow K k L x1 x3 x4 x5 r0 r2 z)
  | 0 => by
    intros
    exact fo_none
  | k + 1 => by
    intro L x1 x3 x4 x5 r0 r2 z hz 
    show Fo Prod.snd (pf [] []) z0 (qb_X13_isBelow K (q_X13_isBelow K k) L x1 x3 x4 x5 r0 r2 z)
    unfold qb_X13_isBelow
    split
    · exact fb_X13_isBelow_0 (fq_X13_isBelow k) hz 
    · exact fb_X13_isBelow_1 (fq_X13_isBelow k) hz 
    · exact fo_none
theorem ff_X13_isBelow {K : Nat} {r0 : Nat} {x1 : Int32} {r2 : Nat} {x3 : Int32} {z : ow_MS}  : Fo Prod.snd (pf [] []) z (qe_X13_isBelow K r0 x1 r2 x3 z) := fq_X13_isBelow K 0 _ _ _ _ _ _ z fr_rf 
theorem fb_X13_leastOf_0 {K : Nat} {z0 z : ow_MS}  {go : Nat → Int32 → Int32 → Int32 → Int32 → Int32 → Nat → ow_MS → Option (Int32 × ow_MS)} {x2 : Int32} {x3 : Int32} {x4 : Int32} {x5 : Int32} {x6 : Int32} {r1 : Nat}  (hgo : ∀ (L : Nat) (x2 : Int32) (x3 : Int32) (x4 : Int32) (x5 : Int32) (x6 : Int32) (r1 : Nat) (z : ow_MS), fr (pf [2, 3, 4, 5, 6, 7] []) z0 z → (L = 0 ∨ L = 1 ∨ L = 2 ∨ L = 3 ∨ L = 4 → 1000 ≤ r1) → Fo Prod.snd (pf [2, 3, 4, 5, 6, 7] []) z0 (go L x2 x3 x4 x5 x6 r1 z)) (hz : fr (pf [2, 3, 4, 5, 6, 7] []) z0 z) (hr1 : 1000 ≤ r1) : Fo Prod.snd (pf [2, 3, 4, 5, 6, 7] []) z0 (qm_X13_leastOf_0 K go x2 x3 x4 x5 x6 r1 z) := by
  unfold qm_X13_leastOf_0
  exact (hgo 1 _ _ _ _ _ _ z hz (fun _ => (by first | omega | decide)))
theorem fb_X13_leastOf_1 {K : Nat} {z0 z : ow_MS}  {go : Nat → Int32 → Int32 → Int32 → Int32 → Int32 → Nat → ow_MS → Option (Int32 × ow_MS)} {x2 : Int32} {x3 : Int32} {x4 : Int32} {x5 : Int32} {x6 : Int32} {r1 : Nat}  (hgo : ∀ (L : Nat) (x2 : Int32) (x3 : Int32) (x4 : Int32) (x5 : Int32) (x6 : Int32) (r1 : Nat) (z : ow_MS), fr (pf [2, 3, 4, 5, 6, 7] []) z0 z → (L = 0 ∨ L = 1 ∨ L = 2 ∨ L = 3 ∨ L = 4 → 1000 ≤ r1) → Fo Prod.snd (pf [2, 3, 4, 5, 6, 7] []) z0 (go L x2 x3 x4 x5 x6 r1 z)) (hz : fr (pf [2, 3, 4, 5, 6, 7] []) z0 z) (hr1 : 1000 ≤ r1) : Fo Prod.snd (pf [2, 3, 4, 5, 6, 7] []) z0 (qm_X13_leastOf_1 K go x2 x3 x4 x5 x6 r1 z) := by
  unfold qm_X13_leastOf_1
  exact (fo_rdF (fun v1 => (fo_if (fo_some hz) (fo_rdI (fun v2 => (fo_rdI (fun v3 => (fo_if (fo_cs0 (ff_X13_rowFrom (by first | omega | decide)) (pf_sub (by decide) pf_0) hz (fun z4 h_z4 => (fo_if (hgo 2 _ _ _ _ _ _ z4 h_z4 (fun _ => (by first | omega | decide))) (fo_cs1 (ff_X13_isBelow) (pf_sub (by decide) pf_0) h_z4 (fun v6 z5 h_z5 => (fo_if (hgo 4 _ _ _ _ _ _ z5 h_z5 (fun _ => (by first | omega | decide))) (hgo 2 _ _ _ _ _ _ z5 h_z5 (fun _ => (by first | omega | decide))))))))) (hgo 4 _ _ _ _ _ _ z hz (fun _ => (by first | omega | decide)))))))))))
theorem fb_X13_leastOf_2 {K : Nat} {z0 z : ow_MS}  {go : Nat → Int32 → Int32 → Int32 → Int32 → Int32 → Nat → ow_MS → Option (Int32 × ow_MS)} {x2 : Int32} {x3 : Int32} {x4 : Int32} {x5 : Int32} {x6 : Int32} {r1 : Nat}  (hgo : ∀ (L : Nat) (x2 : Int32) (x3 : Int32) (x4 : Int32) (x5 : Int32) (x6 : Int32) (r1 : Nat) (z : ow_MS), fr (pf [2, 3, 4, 5, 6, 7] []) z0 z → (L = 0 ∨ L = 1 ∨ L = 2 ∨ L = 3 ∨ L = 4 → 1000 ≤ r1) → Fo Prod.snd (pf [2, 3, 4, 5, 6, 7] []) z0 (go L x2 x3 x4 x5 x6 r1 z)) (hz : fr (pf [2, 3, 4, 5, 6, 7] []) z0 z) (hr1 : 1000 ≤ r1) : Fo Prod.snd (pf [2, 3, 4, 5, 6, 7] []) z0 (qm_X13_leastOf_2 K go x2 x3 x4 x5 x6 r1 z) := by
  unfold qm_X13_leastOf_2
  exact (hgo 3 _ _ _ _ _ _ z hz (fun _ => (by first | omega | decide)))
theorem fb_X13_leastOf_3 {K : Nat} {z0 z : ow_MS}  {go : Nat → Int32 → Int32 → Int32 → Int32 → Int32 → Nat → ow_MS → Option (Int32 × ow_MS)} {x2 : Int32} {x3 : Int32} {x4 : Int32} {x5 : Int32} {x6 : Int32} {r1 : Nat}  (hgo : ∀ (L : Nat) (x2 : Int32) (x3 : Int32) (x4 : Int32) (x5 : Int32) (x6 : Int32) (r1 : Nat) (z : ow_MS), fr (pf [2, 3, 4, 5, 6, 7] []) z0 z → (L = 0 ∨ L = 1 ∨ L = 2 ∨ L = 3 ∨ L = 4 → 1000 ≤ r1) → Fo Prod.snd (pf [2, 3, 4, 5, 6, 7] []) z0 (go L x2 x3 x4 x5 x6 r1 z)) (hz : fr (pf [2, 3, 4, 5, 6, 7] []) z0 z) (hr1 : 1000 ≤ r1) : Fo Prod.snd (pf [2, 3, 4, 5, 6, 7] []) z0 (qm_X13_leastOf_3 K go x2 x3 x4 x5 x6 r1 z) := by
  unfold qm_X13_leastOf_3
  exact (fo_rdF (fun v7 => (fo_if (hgo 4 _ _ _ _ _ _ z hz (fun _ => (by first | omega | decide))) (fo_rdI (fun v8 => (fo_wrI (Or.inl (by decide)) hz (fun z9 h_z9 => (hgo 3 _ _ _ _ _ _ z9 h_z9 (fun _ => (by first | omega | decide))))))))))
theorem fb_X13_leastOf_4 {K : Nat} {z0 z : ow_MS}  {go : Nat → Int32 → Int32 → Int32 → Int32 → Int32 → Nat → ow_MS → Option (Int32 × ow_MS)} {x2 : Int32} {x3 : Int32} {x4 : Int32} {x5 : Int32} {x6 : Int32} {r1 : Nat}  (hgo : ∀ (L : Nat) (x2 : Int32) (x3 : Int32) (x4 : Int32) (x5 : Int32) (x6 : Int32) (r1 : Nat) (z : ow_MS), fr (pf [2, 3, 4, 5, 6, 7] []) z0 z → (L = 0 ∨ L = 1 ∨ L = 2 ∨ L = 3 ∨ L = 4 → 1000 ≤ r1) → Fo Prod.snd (pf [2, 3, 4, 5, 6, 7] []) z0 (go L x2 x3 x4 x5 x6 r1 z)) (hz : fr (pf [2, 3, 4, 5, 6, 7] []) z0 z) (hr1 : 1000 ≤ r1) : Fo Prod.snd (pf [2, 3, 4, 5, 6, 7] []) z0 (qm_X13_leastOf_4 K go x2 x3 x4 x5 x6 r1 z) := by
  unfold qm_X13_leastOf_4
  exact (hgo 1 _ _ _ _ _ _ z hz (fun _ => (by first | omega | decide)))
theorem fq_X13_leastOf {K : Nat} {z0 : ow_MS}   : ∀ (k L : Nat) (x2 : Int32) (x3 : Int32) (x4 : Int32) (x5 : Int32) (x6 : Int32) (r1 : Nat) (z : ow_MS), fr (pf [2, 3, 4, 5, 6, 7] []) z0 z → (L = 0 ∨ L = 1 ∨ L = 2 ∨ L = 3 ∨ L = 4 → 1000 ≤ r1) → Fo Prod.snd (pf [2, 3, 4, 5, 6, 7] []) z0 (q_X13_leastOf K k L x2 x3 x4 x5 x6 r1 z)
  | 0 => by
    intros
    exact fo_none
  | k + 1 => by
    intro L x2 x3 x4 x5 x6 r1 z hz h9_r1
    show Fo Prod.snd (pf [2, 3, 4, 5, 6, 7] []) z0 (qb_X13_leastOf K (q_X13_leastOf K k) L x2 x3 x4 x5 x6 r1 z)
    unfold qb_X13_leastOf
    split
    · exact fb_X13_leastOf_0 (fq_X13_leastOf k) hz (h9_r1 (by decide))
    · exact fb_X13_leastOf_1 (fq_X13_leastOf k) hz (h9_r1 (by decide))
    · exact fb_X13_leastOf_2 (fq_X13_leastOf k) hz (h9_r1 (by decide))
    · exact fb_X13_leastOf_3 (fq_X13_leastOf k) hz (h9_r1 (by decide))
    · exact fb_X13_leastOf_4 (fq_X13_leastOf k) hz (h9_r1 (by decide))
    · exact fo_none
theorem ff_X13_leastOf {K : Nat} {r1 : Nat} {x2 : Int32} {x3 : Int32} {z : ow_MS} (hr1 : 1000 ≤ r1) : Fo Prod.snd (pf [2, 3, 4, 5, 6, 7] []) z (qe_X13_leastOf K r1 x2 x3 z) := fq_X13_leastOf K 0 _ _ _ _ _ _ z fr_rf (fun _ => (by first | omega | decide))
theorem fb_X13_pack_0 {K : Nat} {z0 z : ow_MS} {pr2 : Nat} {go : Nat → Int32 → Int32 → Int32 → Int32 → Int32 → Int32 → Int32 → Int32 → Int32 → Nat → Nat → Int32 → Int32 → ow_MS → Option ow_MS} {x3 : Int32} {x4 : Int32} {x5 : Int32} {x6 : Int32} {x7 : Int32} {x8 : Int32} {x9 : Int32} {x10 : Int32} {x11 : Int32} {r1 : Nat} {r2 : Nat} {t0 : Int32} {t1 : Int32}  (hgo : ∀ (L : Nat) (x3 : Int32) (x4 : Int32) (x5 : Int32) (x6 : Int32) (x7 : Int32) (x8 : Int32) (x9 : Int32) (x10 : Int32) (x11 : Int32) (r1 : Nat) (r2 : Nat) (t0 : Int32) (t1 : Int32) (z : ow_MS), fr (pf [2, 3, 4, 5, 6, 7, 8, 9] [pr2]) z0 z → (L = 0 ∨ L = 1 ∨ L = 2 ∨ L = 3 ∨ L = 4 ∨ L = 5 ∨ L = 6 ∨ L = 7 ∨ L = 8 ∨ L = 9 → 1000 ≤ r1) → (L = 0 ∨ L = 1 ∨ L = 2 ∨ L = 3 ∨ L = 4 ∨ L = 5 ∨ L = 6 ∨ L = 7 ∨ L = 8 ∨ L = 9 → r2 = pr2) → Fo id (pf [2, 3, 4, 5, 6, 7, 8, 9] [pr2]) z0 (go L x3 x4 x5 x6 x7 x8 x9 x10 x11 r1 r2 t0 t1 z)) (hz : fr (pf [2, 3, 4, 5, 6, 7, 8, 9] [pr2]) z0 z) (hr1 : 1000 ≤ r1) (e_r2 : r2 = pr2) : Fo id (pf [2, 3, 4, 5, 6, 7, 8, 9] [pr2]) z0 (qm_X13_pack_0 K go x3 x4 x5 x6 x7 x8 x9 x10 x11 r1 r2 t0 t1 z) := by
  unfold qm_X13_pack_0
  exact (fo_cs0 (ff_X12_link (by first | omega | decide)) (pf_sub (by decide) pf_0) hz (fun z1 h_z1 => (fo_cs0 (ff_X12_split (by first | omega | decide)) (pf_sub (by decide) pf_0) h_z1 (fun z2 h_z2 => (hgo 1 _ _ _ _ _ _ _ _ _ _ _ _ _ z2 h_z2 (fun _ => (by first | omega | decide)) (fun _ => e_r2))))))
theorem fb_X13_pack_1 {K : Nat} {z0 z : ow_MS} {pr2 : Nat} {go : Nat → Int32 → Int32 → Int32 → Int32 → Int32 → Int32 → Int32 → Int32 → Int32 → Nat → Nat → Int32 → Int32 → ow_MS → Option ow_MS} {x3 : Int32} {x4 : Int32} {x5 : Int32} {x6 : Int32} {x7 : Int32} {x8 : Int32} {x9 : Int32} {x10 : Int32} {x11 : Int32} {r1 : Nat} {r2 : Nat} {t0 : Int32} {t1 : Int32}  (hgo : ∀ (L : Nat) (x3 : Int32) (x4 : Int32) (x5 : Int32) (x6 : Int32) (x7 : Int32) (x8 : Int32) (x9 : Int32) (x10 : Int32) (x11 : Int32) (r1 : Nat) (r2 : Nat) (t0 : Int32) (t1 : Int32) (z : ow_MS), fr (pf [2, 3, 4, 5, 6, 7, 8, 9] [pr2]) z0 z → (L = 0 ∨ L = 1 ∨ L = 2 ∨ L = 3 ∨ L = 4 ∨ L = 5 ∨ L = 6 ∨ L = 7 ∨ L = 8 ∨ L = 9 → 1000 ≤ r1) → (L = 0 ∨ L = 1 ∨ L = 2 ∨ L = 3 ∨ L = 4 ∨ L = 5 ∨ L = 6 ∨ L = 7 ∨ L = 8 ∨ L = 9 → r2 = pr2) → Fo id (pf [2, 3, 4, 5, 6, 7, 8, 9] [pr2]) z0 (go L x3 x4 x5 x6 x7 x8 x9 x10 x11 r1 r2 t0 t1 z)) (hz : fr (pf [2, 3, 4, 5, 6, 7, 8, 9] [pr2]) z0 z) (hr1 : 1000 ≤ r1) (e_r2 : r2 = pr2) : Fo id (pf [2, 3, 4, 5, 6, 7, 8, 9] [pr2]) z0 (qm_X13_pack_1 K go x3 x4 x5 x6 x7 x8 x9 x10 x11 r1 r2 t0 t1 z) := by
  unfold qm_X13_pack_1
  exact (fo_rdF (fun v3 => (fo_if (hgo 3 _ _ _ _ _ _ _ _ _ _ _ _ _ z hz (fun _ => (by first | omega | decide)) (fun _ => e_r2)) (fo_cs1 (ff_X13_leastOf (by first | omega | decide)) (pf_sub (by decide) pf_0) hz (fun v5 z4 h_z4 => (fo_if (hgo 2 _ _ _ _ _ _ _ _ _ _ _ _ _ z4 h_z4 (fun _ => (by first | omega | decide)) (fun _ => e_r2)) (fo_wrI (Or.inl (by decide)) h_z4 (fun z6 h_z6 => (fo_wrZ (Or.inl (by decide)) h_z6 (fun z7 h_z7 => (hgo 2 _ _ _ _ _ _ _ _ _ _ _ _ _ z7 h_z7 (fun _ => (by first | omega | decide)) (fun _ => e_r2))))))))))))
theorem fb_X13_pack_2 {K : Nat} {z0 z : ow_MS} {pr2 : Nat} {go : Nat → Int32 → Int32 → Int32 → Int32 → Int32 → Int32 → Int32 → Int32 → Int32 → Nat → Nat → Int32 → Int32 → ow_MS → Option ow_MS} {x3 : Int32} {x4 : Int32} {x5 : Int32} {x6 : Int32} {x7 : Int32} {x8 : Int32} {x9 : Int32} {x10 : Int32} {x11 : Int32} {r1 : Nat} {r2 : Nat} {t0 : Int32} {t1 : Int32}  (hgo : ∀ (L : Nat) (x3 : Int32) (x4 : Int32) (x5 : Int32) (x6 : Int32) (x7 : Int32) (x8 : Int32) (x9 : Int32) (x10 : Int32) (x11 : Int32) (r1 : Nat) (r2 : Nat) (t0 : Int32) (t1 : Int32) (z : ow_MS), fr (pf [2, 3, 4, 5, 6, 7, 8, 9] [pr2]) z0 z → (L = 0 ∨ L = 1 ∨ L = 2 ∨ L = 3 ∨ L = 4 ∨ L = 5 ∨ L = 6 ∨ L = 7 ∨ L = 8 ∨ L = 9 → 1000 ≤ r1) → (L = 0 ∨ L = 1 ∨ L = 2 ∨ L = 3 ∨ L = 4 ∨ L = 5 ∨ L = 6 ∨ L = 7 ∨ L = 8 ∨ L = 9 → r2 = pr2) → Fo id (pf [2, 3, 4, 5, 6, 7, 8, 9] [pr2]) z0 (go L x3 x4 x5 x6 x7 x8 x9 x10 x11 r1 r2 t0 t1 z)) (hz : fr (pf [2, 3, 4, 5, 6, 7, 8, 9] [pr2]) z0 z) (hr1 : 1000 ≤ r1) (e_r2 : r2 = pr2) : Fo id (pf [2, 3, 4, 5, 6, 7, 8, 9] [pr2]) z0 (qm_X13_pack_2 K go x3 x4 x5 x6 x7 x8 x9 x10 x11 r1 r2 t0 t1 z) := by
  unfold qm_X13_pack_2
  exact (hgo 1 _ _ _ _ _ _ _ _ _ _ _ _ _ z hz (fun _ => (by first | omega | decide)) (fun _ => e_r2))
theorem fb_X13_pack_3 {K : Nat} {z0 z : ow_MS} {pr2 : Nat} {go : Nat → Int32 → Int32 → Int32 → Int32 → Int32 → Int32 → Int32 → Int32 → Int32 → Nat → Nat → Int32 → Int32 → ow_MS → Option ow_MS} {x3 : Int32} {x4 : Int32} {x5 : Int32} {x6 : Int32} {x7 : Int32} {x8 : Int32} {x9 : Int32} {x10 : Int32} {x11 : Int32} {r1 : Nat} {r2 : Nat} {t0 : Int32} {t1 : Int32}  (hgo : ∀ (L : Nat) (x3 : Int32) (x4 : Int32) (x5 : Int32) (x6 : Int32) (x7 : Int32) (x8 : Int32) (x9 : Int32) (x10 : Int32) (x11 : Int32) (r1 : Nat) (r2 : Nat) (t0 : Int32) (t1 : Int32) (z : ow_MS), fr (pf [2, 3, 4, 5, 6, 7, 8, 9] [pr2]) z0 z → (L = 0 ∨ L = 1 ∨ L = 2 ∨ L = 3 ∨ L = 4 ∨ L = 5 ∨ L = 6 ∨ L = 7 ∨ L = 8 ∨ L = 9 → 1000 ≤ r1) → (L = 0 ∨ L = 1 ∨ L = 2 ∨ L = 3 ∨ L = 4 ∨ L = 5 ∨ L = 6 ∨ L = 7 ∨ L = 8 ∨ L = 9 → r2 = pr2) → Fo id (pf [2, 3, 4, 5, 6, 7, 8, 9] [pr2]) z0 (go L x3 x4 x5 x6 x7 x8 x9 x10 x11 r1 r2 t0 t1 z)) (hz : fr (pf [2, 3, 4, 5, 6, 7, 8, 9] [pr2]) z0 z) (hr1 : 1000 ≤ r1) (e_r2 : r2 = pr2) : Fo id (pf [2, 3, 4, 5, 6, 7, 8, 9] [pr2]) z0 (qm_X13_pack_3 K go x3 x4 x5 x6 x7 x8 x9 x10 x11 r1 r2 t0 t1 z) := by
  unfold qm_X13_pack_3
  exact (fo_if (hgo 9 _ _ _ _ _ _ _ _ _ _ _ _ _ z hz (fun _ => (by first | omega | decide)) (fun _ => e_r2)) (hgo 4 _ _ _ _ _ _ _ _ _ _ _ _ _ z hz (fun _ => (by first | omega | decide)) (fun _ => e_r2)))
theorem fb_X13_pack_4 {K : Nat} {z0 z : ow_MS} {pr2 : Nat} {go : Nat → Int32 → Int32 → Int32 → Int32 → Int32 → Int32 → Int32 → Int32 → Int32 → Nat → Nat → Int32 → Int32 → ow_MS → Option ow_MS} {x3 : Int32} {x4 : Int32} {x5 : Int32} {x6 : Int32} {x7 : Int32} {x8 : Int32} {x9 : Int32} {x10 : Int32} {x11 : Int32} {r1 : Nat} {r2 : Nat} {t0 : Int32} {t1 : Int32}  (hgo : ∀ (L : Nat) (x3 : Int32) (x4 : Int32) (x5 : Int32) (x6 : Int32) (x7 : Int32) (x8 : Int32) (x9 : Int32) (x10 : Int32) (x11 : Int32) (r1 : Nat) (r2 : Nat) (t0 : Int32) (t1 : Int32) (z : ow_MS), fr (pf [2, 3, 4, 5, 6, 7, 8, 9] [pr2]) z0 z → (L = 0 ∨ L = 1 ∨ L = 2 ∨ L = 3 ∨ L = 4 ∨ L = 5 ∨ L = 6 ∨ L = 7 ∨ L = 8 ∨ L = 9 → 1000 ≤ r1) → (L = 0 ∨ L = 1 ∨ L = 2 ∨ L = 3 ∨ L = 4 ∨ L = 5 ∨ L = 6 ∨ L = 7 ∨ L = 8 ∨ L = 9 → r2 = pr2) → Fo id (pf [2, 3, 4, 5, 6, 7, 8, 9] [pr2]) z0 (go L x3 x4 x5 x6 x7 x8 x9 x10 x11 r1 r2 t0 t1 z)) (hz : fr (pf [2, 3, 4, 5, 6, 7, 8, 9] [pr2]) z0 z) (hr1 : 1000 ≤ r1) (e_r2 : r2 = pr2) : Fo id (pf [2, 3, 4, 5, 6, 7, 8, 9] [pr2]) z0 (qm_X13_pack_4 K go x3 x4 x5 x6 x7 x8 x9 x10 x11 r1 r2 t0 t1 z) := by
  unfold qm_X13_pack_4
  exact (fo_if (fo_wrZ (Or.inl (by decide)) hz (fun z8 h_z8 => (hgo 7 _ _ _ _ _ _ _ _ _ _ _ _ _ z8 h_z8 (fun _ => (by first | omega | decide)) (fun _ => e_r2)))) (fo_rdI (fun v9 => (fo_if (fo_if (hgo 5 _ _ _ _ _ _ _ _ _ _ _ _ _ z hz (fun _ => (by first | omega | decide)) (fun _ => e_r2)) (fo_rdI (fun v10 => (fo_rdI (fun v11 => (fo_if (hgo 5 _ _ _ _ _ _ _ _ _ _ _ _ _ z hz (fun _ => (by first | omega | decide)) (fun _ => e_r2)) (fo_rdI (fun v12 => (fo_rdI (fun v13 => (fo_if (fo_cs1 (ff_X13_isBelow) (pf_sub (by decide) pf_0) hz (fun v15 z14 h_z14 => (fo_if (hgo 6 _ _ _ _ _ _ _ _ _ _ _ _ _ z14 h_z14 (fun _ => (by first | omega | decide)) (fun _ => e_r2)) (hgo 5 _ _ _ _ _ _ _ _ _ _ _ _ _ z14 h_z14 (fun _ => (by first | omega | decide)) (fun _ => e_r2))))) (hgo 6 _ _ _ _ _ _ _ _ _ _ _ _ _ z hz (fun _ => (by first | omega | decide)) (fun _ => e_r2))))))))))))) (hgo 6 _ _ _ _ _ _ _ _ _ _ _ _ _ z hz (fun _ => (by first | omega | decide)) (fun _ => e_r2))))))
theorem fb_X13_pack_5 {K : Nat} {z0 z : ow_MS} {pr2 : Nat} {go : Nat → Int32 → Int32 → Int32 → Int32 → Int32 → Int32 → Int32 → Int32 → Int32 → Nat → Nat → Int32 → Int32 → ow_MS → Option ow_MS} {x3 : Int32} {x4 : Int32} {x5 : Int32} {x6 : Int32} {x7 : Int32} {x8 : Int32} {x9 : Int32} {x10 : Int32} {x11 : Int32} {r1 : Nat} {r2 : Nat} {t0 : Int32} {t1 : Int32}  (hgo : ∀ (L : Nat) (x3 : Int32) (x4 : Int32) (x5 : Int32) (x6 : Int32) (x7 : Int32) (x8 : Int32) (x9 : Int32) (x10 : Int32) (x11 : Int32) (r1 : Nat) (r2 : Nat) (t0 : Int32) (t1 : Int32) (z : ow_MS), fr (pf [2, 3, 4, 5, 6, 7, 8, 9] [pr2]) z0 z → (L = 0 ∨ L = 1 ∨ L = 2 ∨ L = 3 ∨ L = 4 ∨ L = 5 ∨ L = 6 ∨ L = 7 ∨ L = 8 ∨ L = 9 → 1000 ≤ r1) → (L = 0 ∨ L = 1 ∨ L = 2 ∨ L = 3 ∨ L = 4 ∨ L = 5 ∨ L = 6 ∨ L = 7 ∨ L = 8 ∨ L = 9 → r2 = pr2) → Fo id (pf [2, 3, 4, 5, 6, 7, 8, 9] [pr2]) z0 (go L x3 x4 x5 x6 x7 x8 x9 x10 x11 r1 r2 t0 t1 z)) (hz : fr (pf [2, 3, 4, 5, 6, 7, 8, 9] [pr2]) z0 z) (hr1 : 1000 ≤ r1) (e_r2 : r2 = pr2) : Fo id (pf [2, 3, 4, 5, 6, 7, 8, 9] [pr2]) z0 (qm_X13_pack_5 K go x3 x4 x5 x6 x7 x8 x9 x10 x11 r1 r2 t0 t1 z) := by
  unfold qm_X13_pack_5
  exact (hgo 6 _ _ _ _ _ _ _ _ _ _ _ _ _ z hz (fun _ => (by first | omega | decide)) (fun _ => e_r2))
theorem fb_X13_pack_6 {K : Nat} {z0 z : ow_MS} {pr2 : Nat} {go : Nat → Int32 → Int32 → Int32 → Int32 → Int32 → Int32 → Int32 → Int32 → Int32 → Nat → Nat → Int32 → Int32 → ow_MS → Option ow_MS} {x3 : Int32} {x4 : Int32} {x5 : Int32} {x6 : Int32} {x7 : Int32} {x8 : Int32} {x9 : Int32} {x10 : Int32} {x11 : Int32} {r1 : Nat} {r2 : Nat} {t0 : Int32} {t1 : Int32}  (hgo : ∀ (L : Nat) (x3 : Int32) (x4 : Int32) (x5 : Int32) (x6 : Int32) (x7 : Int32) (x8 : Int32) (x9 : Int32) (x10 : Int32) (x11 : Int32) (r1 : Nat) (r2 : Nat) (t0 : Int32) (t1 : Int32) (z : ow_MS), fr (pf [2, 3, 4, 5, 6, 7, 8, 9] [pr2]) z0 z → (L = 0 ∨ L = 1 ∨ L = 2 ∨ L = 3 ∨ L = 4 ∨ L = 5 ∨ L = 6 ∨ L = 7 ∨ L = 8 ∨ L = 9 → 1000 ≤ r1) → (L = 0 ∨ L = 1 ∨ L = 2 ∨ L = 3 ∨ L = 4 ∨ L = 5 ∨ L = 6 ∨ L = 7 ∨ L = 8 ∨ L = 9 → r2 = pr2) → Fo id (pf [2, 3, 4, 5, 6, 7, 8, 9] [pr2]) z0 (go L x3 x4 x5 x6 x7 x8 x9 x10 x11 r1 r2 t0 t1 z)) (hz : fr (pf [2, 3, 4, 5, 6, 7, 8, 9] [pr2]) z0 z) (hr1 : 1000 ≤ r1) (e_r2 : r2 = pr2) : Fo id (pf [2, 3, 4, 5, 6, 7, 8, 9] [pr2]) z0 (qm_X13_pack_6 K go x3 x4 x5 x6 x7 x8 x9 x10 x11 r1 r2 t0 t1 z) := by
  unfold qm_X13_pack_6
  exact (hgo 4 _ _ _ _ _ _ _ _ _ _ _ _ _ z hz (fun _ => (by first | omega | decide)) (fun _ => e_r2))
theorem fb_X13_pack_7 {K : Nat} {z0 z : ow_MS} {pr2 : Nat} {go : Nat → Int32 → Int32 → Int32 → Int32 → Int32 → Int32 → Int32 → Int32 → Int32 → Nat → Nat → Int32 → Int32 → ow_MS → Option ow_MS} {x3 : Int32} {x4 : Int32} {x5 : Int32} {x6 : Int32} {x7 : Int32} {x8 : Int32} {x9 : Int32} {x10 : Int32} {x11 : Int32} {r1 : Nat} {r2 : Nat} {t0 : Int32} {t1 : Int32}  (hgo : ∀ (L : Nat) (x3 : Int32) (x4 : Int32) (x5 : Int32) (x6 : Int32) (x7 : Int32) (x8 : Int32) (x9 : Int32) (x10 : Int32) (x11 : Int32) (r1 : Nat) (r2 : Nat) (t0 : Int32) (t1 : Int32) (z : ow_MS), fr (pf [2, 3, 4, 5, 6, 7, 8, 9] [pr2]) z0 z → (L = 0 ∨ L = 1 ∨ L = 2 ∨ L = 3 ∨ L = 4 ∨ L = 5 ∨ L = 6 ∨ L = 7 ∨ L = 8 ∨ L = 9 → 1000 ≤ r1) → (L = 0 ∨ L = 1 ∨ L = 2 ∨ L = 3 ∨ L = 4 ∨ L = 5 ∨ L = 6 ∨ L = 7 ∨ L = 8 ∨ L = 9 → r2 = pr2) → Fo id (pf [2, 3, 4, 5, 6, 7, 8, 9] [pr2]) z0 (go L x3 x4 x5 x6 x7 x8 x9 x10 x11 r1 r2 t0 t1 z)) (hz : fr (pf [2, 3, 4, 5, 6, 7, 8, 9] [pr2]) z0 z) (hr1 : 1000 ≤ r1) (e_r2 : r2 = pr2) : Fo id (pf [2, 3, 4, 5, 6, 7, 8, 9] [pr2]) z0 (qm_X13_pack_7 K go x3 x4 x5 x6 x7 x8 x9 x10 x11 r1 r2 t0 t1 z) := by
  unfold qm_X13_pack_7
  exact (fo_rdI (fun v16 => (fo_if (fo_rdI (fun v17 => (fo_nzI (hgo 3 _ _ _ _ _ _ _ _ _ _ _ _ _ z hz (fun _ => (by first | omega | decide)) (fun _ => e_r2))))) (fo_rdI (fun v18 => (fo_if (hgo 8 _ _ _ _ _ _ _ _ _ _ _ _ _ z hz (fun _ => (by first | omega | decide)) (fun _ => e_r2)) (hgo 8 _ _ _ _ _ _ _ _ _ _ _ _ _ z hz (fun _ => (by first | omega | decide)) (fun _ => e_r2))))))))
theorem fb_X13_pack_8 {K : Nat} {z0 z : ow_MS} {pr2 : Nat} {go : Nat → Int32 → Int32 → Int32 → Int32 → Int32 → Int32 → Int32 → Int32 → Int32 → Nat → Nat → Int32 → Int32 → ow_MS → Option ow_MS} {x3 : Int32} {x4 : Int32} {x5 : Int32} {x6 : Int32} {x7 : Int32} {x8 : Int32} {x9 : Int32} {x10 : Int32} {x11 : Int32} {r1 : Nat} {r2 : Nat} {t0 : Int32} {t1 : Int32}  (hgo : ∀ (L : Nat) (x3 : Int32) (x4 : Int32) (x5 : Int32) (x6 : Int32) (x7 : Int32) (x8 : Int32) (x9 : Int32) (x10 : Int32) (x11 : Int32) (r1 : Nat) (r2 : Nat) (t0 : Int32) (t1 : Int32) (z : ow_MS), fr (pf [2, 3, 4, 5, 6, 7, 8, 9] [pr2]) z0 z → (L = 0 ∨ L = 1 ∨ L = 2 ∨ L = 3 ∨ L = 4 ∨ L = 5 ∨ L = 6 ∨ L = 7 ∨ L = 8 ∨ L = 9 → 1000 ≤ r1) → (L = 0 ∨ L = 1 ∨ L = 2 ∨ L = 3 ∨ L = 4 ∨ L = 5 ∨ L = 6 ∨ L = 7 ∨ L = 8 ∨ L = 9 → r2 = pr2) → Fo id (pf [2, 3, 4, 5, 6, 7, 8, 9] [pr2]) z0 (go L x3 x4 x5 x6 x7 x8 x9 x10 x11 r1 r2 t0 t1 z)) (hz : fr (pf [2, 3, 4, 5, 6, 7, 8, 9] [pr2]) z0 z) (hr1 : 1000 ≤ r1) (e_r2 : r2 = pr2) : Fo id (pf [2, 3, 4, 5, 6, 7, 8, 9] [pr2]) z0 (qm_X13_pack_8 K go x3 x4 x5 x6 x7 x8 x9 x10 x11 r1 r2 t0 t1 z) := by
  unfold qm_X13_pack_8
  exact (fo_wrI (Or.inr (Or.inl (by rw [e_r2]; simp))) hz (fun z19 h_z19 => (hgo 7 _ _ _ _ _ _ _ _ _ _ _ _ _ z19 h_z19 (fun _ => (by first | omega | decide)) (fun _ => e_r2))))
theorem fb_X13_pack_9 {K : Nat} {z0 z : ow_MS} {pr2 : Nat} {go : Nat → Int32 → Int32 → Int32 → Int32 → Int32 → Int32 → Int32 → Int32 → Int32 → Nat → Nat → Int32 → Int32 → ow_MS → Option ow_MS} {x3 : Int32} {x4 : Int32} {x5 : Int32} {x6 : Int32} {x7 : Int32} {x8 : Int32} {x9 : Int32} {x10 : Int32} {x11 : Int32} {r1 : Nat} {r2 : Nat} {t0 : Int32} {t1 : Int32}  (hgo : ∀ (L : Nat) (x3 : Int32) (x4 : Int32) (x5 : Int32) (x6 : Int32) (x7 : Int32) (x8 : Int32) (x9 : Int32) (x10 : Int32) (x11 : Int32) (r1 : Nat) (r2 : Nat) (t0 : Int32) (t1 : Int32) (z : ow_MS), fr (pf [2, 3, 4, 5, 6, 7, 8, 9] [pr2]) z0 z → (L = 0 ∨ L = 1 ∨ L = 2 ∨ L = 3 ∨ L = 4 ∨ L = 5 ∨ L = 6 ∨ L = 7 ∨ L = 8 ∨ L = 9 → 1000 ≤ r1) → (L = 0 ∨ L = 1 ∨ L = 2 ∨ L = 3 ∨ L = 4 ∨ L = 5 ∨ L = 6 ∨ L = 7 ∨ L = 8 ∨ L = 9 → r2 = pr2) → Fo id (pf [2, 3, 4, 5, 6, 7, 8, 9] [pr2]) z0 (go L x3 x4 x5 x6 x7 x8 x9 x10 x11 r1 r2 t0 t1 z)) (hz : fr (pf [2, 3, 4, 5, 6, 7, 8, 9] [pr2]) z0 z) (hr1 : 1000 ≤ r1) (e_r2 : r2 = pr2) : Fo id (pf [2, 3, 4, 5, 6, 7, 8, 9] [pr2]) z0 (qm_X13_pack_9 K go x3 x4 x5 x6 x7 x8 x9 x10 x11 r1 r2 t0 t1 z) := by
  unfold qm_X13_pack_9
  exact (fo_if (fo_wrI (Or.inr (Or.inl (by rw [e_r2]; simp))) hz (fun z20 h_z20 => (fo_some h_z20))) (fo_wrI (Or.inr (Or.inl (by rw [e_r2]; simp))) hz (fun z21 h_z21 => (hgo 9 _ _ _ _ _ _ _ _ _ _ _ _ _ z21 h_z21 (fun _ => (by first | omega | decide)) (fun _ => e_r2)))))
theorem fq_X13_pack {K : Nat} {z0 : ow_MS} {pr2 : Nat}  : ∀ (k L : Nat) (x3 : Int32) (x4 : Int32) (x5 : Int32) (x6 : Int32) (x7 : Int32) (x8 : Int32) (x9 : Int32) (x10 : Int32) (x11 : Int32) (r1 : Nat) (r2 : Nat) (t0 : Int32) (t1 : Int32) (z : ow_MS), fr (pf [2, 3, 4, 5, 6, 7, 8, 9] [pr2]) z0 z → (L = 0 ∨ L = 1 ∨ L = 2 ∨ L = 3 ∨ L = 4 ∨ L = 5 ∨ L = 6 ∨ L = 7 ∨ L = 8 ∨ L = 9 → 1000 ≤ r1) → (L = 0 ∨ L = 1 ∨ L = 2 ∨ L = 3 ∨ L = 4 ∨ L = 5 ∨ L = 6 ∨ L = 7 ∨ L = 8 ∨ L = 9 → r2 = pr2) → Fo id (pf [2, 3, 4, 5, 6, 7, 8, 9] [pr2]) z0 (q_X13_pack K k L x3 x4 x5 x6 x7 x8 x9 x10 x11 r1 r2 t0 t1 z)
  | 0 => by
    intros
    exact fo_none
  | k + 1 => by
    intro L x3 x4 x5 x6 x7 x8 x9 x10 x11 r1 r2 t0 t1 z hz h9_r1 h9_r2
    show Fo id (pf [2, 3, 4, 5, 6, 7, 8, 9] [pr2]) z0 (qb_X13_pack K (q_X13_pack K k) L x3 x4 x5 x6 x7 x8 x9 x10 x11 r1 r2 t0 t1 z)
    unfold qb_X13_pack
    split
    · exact fb_X13_pack_0 (fq_X13_pack k) hz (h9_r1 (by decide)) (h9_r2 (by decide))
    · exact fb_X13_pack_1 (fq_X13_pack k) hz (h9_r1 (by decide)) (h9_r2 (by decide))
    · exact fb_X13_pack_2 (fq_X13_pack k) hz (h9_r1 (by decide)) (h9_r2 (by decide))
    · exact fb_X13_pack_3 (fq_X13_pack k) hz (h9_r1 (by decide)) (h9_r2 (by decide))
    · exact fb_X13_pack_4 (fq_X13_pack k) hz (h9_r1 (by decide)) (h9_r2 (by decide))
    · exact fb_X13_pack_5 (fq_X13_pack k) hz (h9_r1 (by decide)) (h9_r2 (by decide))
    · exact fb_X13_pack_6 (fq_X13_pack k) hz (h9_r1 (by decide)) (h9_r2 (by decide))
    · exact fb_X13_pack_7 (fq_X13_pack k) hz (h9_r1 (by decide)) (h9_r2 (by decide))
    · exact fb_X13_pack_8 (fq_X13_pack k) hz (h9_r1 (by decide)) (h9_r2 (by decide))
    · exact fb_X13_pack_9 (fq_X13_pack k) hz (h9_r1 (by decide)) (h9_r2 (by decide))
    · exact fo_none
theorem ff_X13_pack {K : Nat} {r1 : Nat} {r2 : Nat} {x3 : Int32} {z : ow_MS} (hr1 : 1000 ≤ r1) : Fo id (pf [2, 3, 4, 5, 6, 7, 8, 9] [r2]) z (qe_X13_pack K r1 r2 x3 z) := fq_X13_pack (pr2 := r2) K 0 _ _ _ _ _ _ _ _ _ _ _ _ _ z fr_rf (fun _ => (by first | omega | decide)) (fun _ => rfl)
theorem ff_X13_keep {K : Nat} {z : ow_MS}  : Fo Prod.snd (pf [2, 3, 4, 5, 6, 7, 8, 9, 12] []) z (qe_X13_keep K z) := by
  unfold qe_X13_keep qm_X13_keep_0
  exact (fo_cs1 (ff_X13_free) (pf_sub (by decide) pf_0) fr_rf (fun v2 z1 h_z1 => (fo_cs0 (ff_X13_pack (by first | omega | decide)) (pf_sub (by decide) (pf_1 (Or.inl (by decide)))) h_z1 (fun z3 h_z3 => (fo_some h_z3)))))
theorem ff_X13_diagram {K : Nat} {z : ow_MS}  : Fo Prod.snd (pf [1, 2, 3, 4, 5, 6, 7, 8, 9, 11, 12, 16, 17, 18, 19] []) z (qe_X13_diagram K z) := by
  unfold qe_X13_diagram qm_X13_diagram_0
  exact (fo_wrF (Or.inl (by decide)) fr_rf (fun z1 h_z1 => (fo_cs1 (ff_X13_free) (pf_sub (by decide) pf_0) h_z1 (fun v3 z2 h_z2 => (fo_if (fo_cs1 (ff_X13_fails) (pf_sub (by decide) pf_0) h_z2 (fun v10 z9 h_z9 => (fo_some h_z9))) (fo_cs1 (ff_X13_read) (pf_sub (by decide) pf_0) h_z2 (fun v5 z4 h_z4 => (fo_wrF (Or.inl (by decide)) h_z4 (fun z6 h_z6 => (fo_if (fo_cs1 (ff_X13_keep) (pf_sub (by decide) pf_0) h_z6 (fun v8 z7 h_z7 => (fo_some h_z7))) (fo_some h_z6)))))))))))
theorem fb_X13_freeBraid_0 {K : Nat} {z0 z : ow_MS}  {go : Nat → Int32 → ow_MS → Option (Int32 × ow_MS)} {x1 : Int32}  (hgo : ∀ (L : Nat) (x1 : Int32) (z : ow_MS), fr (pf [] []) z0 z → Fo Prod.snd (pf [] []) z0 (go L x1 z)) (hz : fr (pf [] []) z0 z)  : Fo Prod.snd (pf [] []) z0 (qm_X13_freeBraid_0 K go x1 z) := by
  unfold qm_X13_freeBraid_0
  exact (hgo 1 _ z hz)
theorem fb_X13_freeBraid_1 {K : Nat} {z0 z : ow_MS}  {go : Nat → Int32 → ow_MS → Option (Int32 × ow_MS)} {x1 : Int32}  (hgo : ∀ (L : Nat) (x1 : Int32) (z : ow_MS), fr (pf [] []) z0 z → Fo Prod.snd (pf [] []) z0 (go L x1 z)) (hz : fr (pf [] []) z0 z)  : Fo Prod.snd (pf [] []) z0 (qm_X13_freeBraid_1 K go x1 z) := by
  unfold qm_X13_freeBraid_1
  exact (fo_if (hgo 2 _ z hz) (fo_rdI (fun v1 => (fo_if (hgo 2 _ z hz) (hgo 1 _ z hz)))))
theorem fb_X13_freeBraid_2 {K : Nat} {z0 z : ow_MS}  {go : Nat → Int32 → ow_MS → Option (Int32 × ow_MS)} {x1 : Int32}  (hgo : ∀ (L : Nat) (x1 : Int32) (z : ow_MS), fr (pf [] []) z0 z → Fo Prod.snd (pf [] []) z0 (go L x1 z)) (hz : fr (pf [] []) z0 z)  : Fo Prod.snd (pf [] []) z0 (qm_X13_freeBraid_2 K go x1 z) := by
  unfold qm_X13_freeBraid_2
  exact (fo_if (fo_some hz) (fo_some hz))
theorem fq_X13_freeBraid {K : Nat} {z0 : ow_MS}   : ∀ (k L : Nat) (x1 : Int32) (z : ow_MS), fr (pf [] []) z0 z → Fo Prod.snd (pf [] []) z0 (q_X13_freeBraid K k L x1 z)
  | 0 => by
    intros
    exact fo_none
  | k + 1 => by
    intro L x1 z hz 
    show Fo Prod.snd (pf [] []) z0 (qb_X13_freeBraid K (q_X13_freeBraid K k) L x1 z)
    unfold qb_X13_freeBraid
    split
    · exact fb_X13_freeBraid_0 (fq_X13_freeBraid k) hz 
    · exact fb_X13_freeBraid_1 (fq_X13_freeBraid k) hz 
    · exact fb_X13_freeBraid_2 (fq_X13_freeBraid k) hz 
    · exact fo_none
theorem ff_X13_freeBraid {K : Nat} {z : ow_MS}  : Fo Prod.snd (pf [] []) z (qe_X13_freeBraid K z) := fq_X13_freeBraid K 0 _ z fr_rf 
theorem fb_X13_braid_0 {K : Nat} {z0 z : ow_MS}  {go : Nat → Int32 → Int32 → Int32 → Int32 → Int32 → Int32 → Int32 → Int32 → Int32 → ow_MS → Option (Int32 × ow_MS)} {x1 : Int32} {x2 : Int32} {x3 : Int32} {x4 : Int32} {x5 : Int32} {x6 : Int32} {x7 : Int32} {t0 : Int32} {t1 : Int32}  (hgo : ∀ (L : Nat) (x1 : Int32) (x2 : Int32) (x3 : Int32) (x4 : Int32) (x5 : Int32) (x6 : Int32) (x7 : Int32) (t0 : Int32) (t1 : Int32) (z : ow_MS), fr (pf [1, 11, 94, 95, 96] []) z0 z → Fo Prod.snd (pf [1, 11, 94, 95, 96] []) z0 (go L x1 x2 x3 x4 x5 x6 x7 t0 t1 z)) (hz : fr (pf [1, 11, 94, 95, 96] []) z0 z)  : Fo Prod.snd (pf [1, 11, 94, 95, 96] []) z0 (qm_X13_braid_0 K go x1 x2 x3 x4 x5 x6 x7 t0 t1 z) := by
  unfold qm_X13_braid_0
  exact (fo_wrF (Or.inl (by decide)) hz (fun z1 h_z1 => (fo_if (hgo 1 _ _ _ _ _ _ _ _ _ z1 h_z1) (fo_if (fo_cs1 (ff_X13_freeBraid) (pf_sub (by decide) pf_0) h_z1 (fun v3 z2 h_z2 => (fo_if (fo_cs1 (ff_X13_fails) (pf_sub (by decide) pf_0) h_z2 (fun v5 z4 h_z4 => (fo_some h_z4))) (hgo 2 _ _ _ _ _ _ _ _ _ z2 h_z2)))) (hgo 1 _ _ _ _ _ _ _ _ _ z1 h_z1)))))
theorem fb_X13_braid_1 {K : Nat} {z0 z : ow_MS}  {go : Nat → Int32 → Int32 → Int32 → Int32 → Int32 → Int32 → Int32 → Int32 → Int32 → ow_MS → Option (Int32 × ow_MS)} {x1 : Int32} {x2 : Int32} {x3 : Int32} {x4 : Int32} {x5 : Int32} {x6 : Int32} {x7 : Int32} {t0 : Int32} {t1 : Int32}  (hgo : ∀ (L : Nat) (x1 : Int32) (x2 : Int32) (x3 : Int32) (x4 : Int32) (x5 : Int32) (x6 : Int32) (x7 : Int32) (t0 : Int32) (t1 : Int32) (z : ow_MS), fr (pf [1, 11, 94, 95, 96] []) z0 z → Fo Prod.snd (pf [1, 11, 94, 95, 96] []) z0 (go L x1 x2 x3 x4 x5 x6 x7 t0 t1 z)) (hz : fr (pf [1, 11, 94, 95, 96] []) z0 z)  : Fo Prod.snd (pf [1, 11, 94, 95, 96] []) z0 (qm_X13_braid_1 K go x1 x2 x3 x4 x5 x6 x7 t0 t1 z) := by
  unfold qm_X13_braid_1
  exact (fo_cs1 (ff_X13_fails) (pf_sub (by decide) pf_0) hz (fun v7 z6 h_z6 => (fo_some h_z6)))
theorem fb_X13_braid_2 {K : Nat} {z0 z : ow_MS}  {go : Nat → Int32 → Int32 → Int32 → Int32 → Int32 → Int32 → Int32 → Int32 → Int32 → ow_MS → Option (Int32 × ow_MS)} {x1 : Int32} {x2 : Int32} {x3 : Int32} {x4 : Int32} {x5 : Int32} {x6 : Int32} {x7 : Int32} {t0 : Int32} {t1 : Int32}  (hgo : ∀ (L : Nat) (x1 : Int32) (x2 : Int32) (x3 : Int32) (x4 : Int32) (x5 : Int32) (x6 : Int32) (x7 : Int32) (t0 : Int32) (t1 : Int32) (z : ow_MS), fr (pf [1, 11, 94, 95, 96] []) z0 z → Fo Prod.snd (pf [1, 11, 94, 95, 96] []) z0 (go L x1 x2 x3 x4 x5 x6 x7 t0 t1 z)) (hz : fr (pf [1, 11, 94, 95, 96] []) z0 z)  : Fo Prod.snd (pf [1, 11, 94, 95, 96] []) z0 (qm_X13_braid_2 K go x1 x2 x3 x4 x5 x6 x7 t0 t1 z) := by
  unfold qm_X13_braid_2
  exact (fo_rdF (fun v8 => (fo_if (hgo 10 _ _ _ _ _ _ _ _ _ z hz) (fo_if (fo_rdI (fun v9 => (fo_rdI (fun v10 => (fo_if (hgo 3 _ _ _ _ _ _ _ _ _ z hz) (fo_if (hgo 4 _ _ _ _ _ _ _ _ _ z hz) (hgo 3 _ _ _ _ _ _ _ _ _ z hz))))))) (hgo 10 _ _ _ _ _ _ _ _ _ z hz)))))
theorem fb_X13_braid_3 {K : Nat} {z0 z : ow_MS}  {go : Nat → Int32 → Int32 → Int32 → Int32 → Int32 → Int32 → Int32 → Int32 → Int32 → ow_MS → Option (Int32 × ow_MS)} {x1 : Int32} {x2 : Int32} {x3 : Int32} {x4 : Int32} {x5 : Int32} {x6 : Int32} {x7 : Int32} {t0 : Int32} {t1 : Int32}  (hgo : ∀ (L : Nat) (x1 : Int32) (x2 : Int32) (x3 : Int32) (x4 : Int32) (x5 : Int32) (x6 : Int32) (x7 : Int32) (t0 : Int32) (t1 : Int32) (z : ow_MS), fr (pf [1, 11, 94, 95, 96] []) z0 z → Fo Prod.snd (pf [1, 11, 94, 95, 96] []) z0 (go L x1 x2 x3 x4 x5 x6 x7 t0 t1 z)) (hz : fr (pf [1, 11, 94, 95, 96] []) z0 z)  : Fo Prod.snd (pf [1, 11, 94, 95, 96] []) z0 (qm_X13_braid_3 K go x1 x2 x3 x4 x5 x6 x7 t0 t1 z) := by
  unfold qm_X13_braid_3
  exact (fo_if (hgo 5 _ _ _ _ _ _ _ _ _ z hz) (fo_if (hgo 5 _ _ _ _ _ _ _ _ _ z hz) (hgo 4 _ _ _ _ _ _ _ _ _ z hz)))
theorem fb_X13_braid_4 {K : Nat} {z0 z : ow_MS}  {go : Nat → Int32 → Int32 → Int32 → Int32 → Int32 → Int32 → Int32 → Int32 → Int32 → ow_MS → Option (Int32 × ow_MS)} {x1 : Int32} {x2 : Int32} {x3 : Int32} {x4 : Int32} {x5 : Int32} {x6 : Int32} {x7 : Int32} {t0 : Int32} {t1 : Int32}  (hgo : ∀ (L : Nat) (x1 : Int32) (x2 : Int32) (x3 : Int32) (x4 : Int32) (x5 : Int32) (x6 : Int32) (x7 : Int32) (t0 : Int32) (t1 : Int32) (z : ow_MS), fr (pf [1, 11, 94, 95, 96] []) z0 z → Fo Prod.snd (pf [1, 11, 94, 95, 96] []) z0 (go L x1 x2 x3 x4 x5 x6 x7 t0 t1 z)) (hz : fr (pf [1, 11, 94, 95, 96] []) z0 z)  : Fo Prod.snd (pf [1, 11, 94, 95, 96] []) z0 (qm_X13_braid_4 K go x1 x2 x3 x4 x5 x6 x7 t0 t1 z) := by
  unfold qm_X13_braid_4
  exact (hgo 6 _ _ _ _ _ _ _ _ _ z hz)
theorem fb_X13_braid_5 {K : Nat} {z0 z : ow_MS}  {go : Nat → Int32 → Int32 → Int32 → Int32 → Int32 → Int32 → Int32 → Int32 → Int32 → ow_MS → Option (Int32 × ow_MS)} {x1 : Int32} {x2 : Int32} {x3 : Int32} {x4 : Int32} {x5 : Int32} {x6 : Int32} {x7 : Int32} {t0 : Int32} {t1 : Int32}  (hgo : ∀ (L : Nat) (x1 : Int32) (x2 : Int32) (x3 : Int32) (x4 : Int32) (x5 : Int32) (x6 : Int32) (x7 : Int32) (t0 : Int32) (t1 : Int32) (z : ow_MS), fr (pf [1, 11, 94, 95, 96] []) z0 z → Fo Prod.snd (pf [1, 11, 94, 95, 96] []) z0 (go L x1 x2 x3 x4 x5 x6 x7 t0 t1 z)) (hz : fr (pf [1, 11, 94, 95, 96] []) z0 z)  : Fo Prod.snd (pf [1, 11, 94, 95, 96] []) z0 (qm_X13_braid_5 K go x1 x2 x3 x4 x5 x6 x7 t0 t1 z) := by
  unfold qm_X13_braid_5
  exact (hgo 6 _ _ _ _ _ _ _ _ _ z hz)
theorem fb_X13_braid_6 {K : Nat} {z0 z : ow_MS}  {go : Nat → Int32 → Int32 → Int32 → Int32 → Int32 → Int32 → Int32 → Int32 → Int32 → ow_MS → Option (Int32 × ow_MS)} {x1 : Int32} {x2 : Int32} {x3 : Int32} {x4 : Int32} {x5 : Int32} {x6 : Int32} {x7 : Int32} {t0 : Int32} {t1 : Int32}  (hgo : ∀ (L : Nat) (x1 : Int32) (x2 : Int32) (x3 : Int32) (x4 : Int32) (x5 : Int32) (x6 : Int32) (x7 : Int32) (t0 : Int32) (t1 : Int32) (z : ow_MS), fr (pf [1, 11, 94, 95, 96] []) z0 z → Fo Prod.snd (pf [1, 11, 94, 95, 96] []) z0 (go L x1 x2 x3 x4 x5 x6 x7 t0 t1 z)) (hz : fr (pf [1, 11, 94, 95, 96] []) z0 z)  : Fo Prod.snd (pf [1, 11, 94, 95, 96] []) z0 (qm_X13_braid_6 K go x1 x2 x3 x4 x5 x6 x7 t0 t1 z) := by
  unfold qm_X13_braid_6
  exact (fo_if (hgo 7 _ _ _ _ _ _ _ _ _ z hz) (fo_if (hgo 7 _ _ _ _ _ _ _ _ _ z hz) (fo_if (hgo 8 _ _ _ _ _ _ _ _ _ z hz) (hgo 8 _ _ _ _ _ _ _ _ _ z hz))))
theorem fb_X13_braid_7 {K : Nat} {z0 z : ow_MS}  {go : Nat → Int32 → Int32 → Int32 → Int32 → Int32 → Int32 → Int32 → Int32 → Int32 → ow_MS → Option (Int32 × ow_MS)} {x1 : Int32} {x2 : Int32} {x3 : Int32} {x4 : Int32} {x5 : Int32} {x6 : Int32} {x7 : Int32} {t0 : Int32} {t1 : Int32}  (hgo : ∀ (L : Nat) (x1 : Int32) (x2 : Int32) (x3 : Int32) (x4 : Int32) (x5 : Int32) (x6 : Int32) (x7 : Int32) (t0 : Int32) (t1 : Int32) (z : ow_MS), fr (pf [1, 11, 94, 95, 96] []) z0 z → Fo Prod.snd (pf [1, 11, 94, 95, 96] []) z0 (go L x1 x2 x3 x4 x5 x6 x7 t0 t1 z)) (hz : fr (pf [1, 11, 94, 95, 96] []) z0 z)  : Fo Prod.snd (pf [1, 11, 94, 95, 96] []) z0 (qm_X13_braid_7 K go x1 x2 x3 x4 x5 x6 x7 t0 t1 z) := by
  unfold qm_X13_braid_7
  exact (hgo 9 _ _ _ _ _ _ _ _ _ z hz)
theorem fb_X13_braid_8 {K : Nat} {z0 z : ow_MS}  {go : Nat → Int32 → Int32 → Int32 → Int32 → Int32 → Int32 → Int32 → Int32 → Int32 → ow_MS → Option (Int32 × ow_MS)} {x1 : Int32} {x2 : Int32} {x3 : Int32} {x4 : Int32} {x5 : Int32} {x6 : Int32} {x7 : Int32} {t0 : Int32} {t1 : Int32}  (hgo : ∀ (L : Nat) (x1 : Int32) (x2 : Int32) (x3 : Int32) (x4 : Int32) (x5 : Int32) (x6 : Int32) (x7 : Int32) (t0 : Int32) (t1 : Int32) (z : ow_MS), fr (pf [1, 11, 94, 95, 96] []) z0 z → Fo Prod.snd (pf [1, 11, 94, 95, 96] []) z0 (go L x1 x2 x3 x4 x5 x6 x7 t0 t1 z)) (hz : fr (pf [1, 11, 94, 95, 96] []) z0 z)  : Fo Prod.snd (pf [1, 11, 94, 95, 96] []) z0 (qm_X13_braid_8 K go x1 x2 x3 x4 x5 x6 x7 t0 t1 z) := by
  unfold qm_X13_braid_8
  exact (fo_wrI (Or.inl (by decide)) hz (fun z11 h_z11 => (hgo 9 _ _ _ _ _ _ _ _ _ z11 h_z11)))
theorem fb_X13_braid_9 {K : Nat} {z0 z : ow_MS}  {go : Nat → Int32 → Int32 → Int32 → Int32 → Int32 → Int32 → Int32 → Int32 → Int32 → ow_MS → Option (Int32 × ow_MS)} {x1 : Int32} {x2 : Int32} {x3 : Int32} {x4 : Int32} {x5 : Int32} {x6 : Int32} {x7 : Int32} {t0 : Int32} {t1 : Int32}  (hgo : ∀ (L : Nat) (x1 : Int32) (x2 : Int32) (x3 : Int32) (x4 : Int32) (x5 : Int32) (x6 : Int32) (x7 : Int32) (t0 : Int32) (t1 : Int32) (z : ow_MS), fr (pf [1, 11, 94, 95, 96] []) z0 z → Fo Prod.snd (pf [1, 11, 94, 95, 96] []) z0 (go L x1 x2 x3 x4 x5 x6 x7 t0 t1 z)) (hz : fr (pf [1, 11, 94, 95, 96] []) z0 z)  : Fo Prod.snd (pf [1, 11, 94, 95, 96] []) z0 (qm_X13_braid_9 K go x1 x2 x3 x4 x5 x6 x7 t0 t1 z) := by
  unfold qm_X13_braid_9
  exact (hgo 2 _ _ _ _ _ _ _ _ _ z hz)
theorem fb_X13_braid_10 {K : Nat} {z0 z : ow_MS}  {go : Nat → Int32 → Int32 → Int32 → Int32 → Int32 → Int32 → Int32 → Int32 → Int32 → ow_MS → Option (Int32 × ow_MS)} {x1 : Int32} {x2 : Int32} {x3 : Int32} {x4 : Int32} {x5 : Int32} {x6 : Int32} {x7 : Int32} {t0 : Int32} {t1 : Int32}  (hgo : ∀ (L : Nat) (x1 : Int32) (x2 : Int32) (x3 : Int32) (x4 : Int32) (x5 : Int32) (x6 : Int32) (x7 : Int32) (t0 : Int32) (t1 : Int32) (z : ow_MS), fr (pf [1, 11, 94, 95, 96] []) z0 z → Fo Prod.snd (pf [1, 11, 94, 95, 96] []) z0 (go L x1 x2 x3 x4 x5 x6 x7 t0 t1 z)) (hz : fr (pf [1, 11, 94, 95, 96] []) z0 z)  : Fo Prod.snd (pf [1, 11, 94, 95, 96] []) z0 (qm_X13_braid_10 K go x1 x2 x3 x4 x5 x6 x7 t0 t1 z) := by
  unfold qm_X13_braid_10
  exact (fo_rdF (fun v12 => (fo_wrF (Or.inl (by decide)) hz (fun z13 h_z13 => (fo_if (fo_wrI (Or.inl (by decide)) h_z13 (fun z14 h_z14 => (fo_wrI (Or.inl (by decide)) h_z14 (fun z15 h_z15 => (fo_some h_z15))))) (fo_some h_z13))))))
theorem fq_X13_braid {K : Nat} {z0 : ow_MS}   : ∀ (k L : Nat) (x1 : Int32) (x2 : Int32) (x3 : Int32) (x4 : Int32) (x5 : Int32) (x6 : Int32) (x7 : Int32) (t0 : Int32) (t1 : Int32) (z : ow_MS), fr (pf [1, 11, 94, 95, 96] []) z0 z → Fo Prod.snd (pf [1, 11, 94, 95, 96] []) z0 (q_X13_braid K k L x1 x2 x3 x4 x5 x6 x7 t0 t1 z)
  | 0 => by
    intros
    exact fo_none
  | k + 1 => by
    intro L x1 x2 x3 x4 x5 x6 x7 t0 t1 z hz 
    show Fo Prod.snd (pf [1, 11, 94, 95, 96] []) z0 (qb_X13_braid K (q_X13_braid K k) L x1 x2 x3 x4 x5 x6 x7 t0 t1 z)
    unfold qb_X13_braid
    split
    · exact fb_X13_braid_0 (fq_X13_braid k) hz 
    · exact fb_X13_braid_1 (fq_X13_braid k) hz 
    · exact fb_X13_braid_2 (fq_X13_braid k) hz 
    · exact fb_X13_braid_3 (fq_X13_braid k) hz 
    · exact fb_X13_braid_4 (fq_X13_braid k) hz 
    · exact fb_X13_braid_5 (fq_X13_braid k) hz 
    · exact fb_X13_braid_6 (fq_X13_braid k) hz 
    · exact fb_X13_braid_7 (fq_X13_braid k) hz 
    · exact fb_X13_braid_8 (fq_X13_braid k) hz 
    · exact fb_X13_braid_9 (fq_X13_braid k) hz 
    · exact fb_X13_braid_10 (fq_X13_braid k) hz 
    · exact fo_none
theorem ff_X13_braid {K : Nat} {x1 : Int32} {z : ow_MS}  : Fo Prod.snd (pf [1, 11, 94, 95, 96] []) z (qe_X13_braid K x1 z) := fq_X13_braid K 0 _ _ _ _ _ _ _ _ _ z fr_rf 
theorem ff_X13_has {K : Nat} {x1 : Int32} {z : ow_MS}  : Fo Prod.snd (pf [] []) z (qe_X13_has K x1 z) := by
  unfold qe_X13_has qm_X13_has_0
  exact (fo_if (fo_okZ (fo_some fr_rf)) (fo_if (fo_okZ (fo_some fr_rf)) (fo_rdI (fun v1 => (fo_if (fo_okZ (fo_some fr_rf)) (fo_okZ (fo_some fr_rf)))))))
theorem ff_X13_drop {K : Nat} {x1 : Int32} {z : ow_MS}  : Fo Prod.snd (pf [1, 12] []) z (qe_X13_drop K x1 z) := by
  unfold qe_X13_drop qm_X13_drop_0
  exact (fo_wrF (Or.inl (by decide)) fr_rf (fun z1 h_z1 => (fo_cs1 (ff_X13_has) (pf_sub (by decide) pf_0) h_z1 (fun v3 z2 h_z2 => (fo_if (fo_okZ (fo_some h_z2)) (fo_wrI (Or.inl (by decide)) h_z2 (fun z4 h_z4 => (fo_okZ (fo_some h_z4)))))))))
theorem ff_X13_hasBraid {K : Nat} {x1 : Int32} {z : ow_MS}  : Fo Prod.snd (pf [] []) z (qe_X13_hasBraid K x1 z) := by
  unfold qe_X13_hasBraid qm_X13_hasBraid_0
  exact (fo_if (fo_okZ (fo_some fr_rf)) (fo_if (fo_okZ (fo_some fr_rf)) (fo_rdI (fun v1 => (fo_if (fo_okZ (fo_some fr_rf)) (fo_okZ (fo_some fr_rf)))))))
theorem ff_X13_dropBraid {K : Nat} {x1 : Int32} {z : ow_MS}  : Fo Prod.snd (pf [1, 96] []) z (qe_X13_dropBraid K x1 z) := by
  unfold qe_X13_dropBraid qm_X13_dropBraid_0
  exact (fo_wrF (Or.inl (by decide)) fr_rf (fun z1 h_z1 => (fo_cs1 (ff_X13_hasBraid) (pf_sub (by decide) pf_0) h_z1 (fun v3 z2 h_z2 => (fo_if (fo_okZ (fo_some h_z2)) (fo_wrI (Or.inl (by decide)) h_z2 (fun z4 h_z4 => (fo_okZ (fo_some h_z4)))))))))
theorem fb_X13_unpack_0 {K : Nat} {z0 z : ow_MS}  {go : Nat → Int32 → Int32 → Int32 → Nat → Nat → Int32 → Int32 → ow_MS → Option ow_MS} {x1 : Int32} {x3 : Int32} {x4 : Int32} {r0 : Nat} {r2 : Nat} {t0 : Int32} {t1 : Int32}  (hgo : ∀ (L : Nat) (x1 : Int32) (x3 : Int32) (x4 : Int32) (r0 : Nat) (r2 : Nat) (t0 : Int32) (t1 : Int32) (z : ow_MS), fr (pf [] []) z0 z → (L = 0 ∨ L = 1 ∨ L = 2 ∨ L = 3 → 1000 ≤ r2) → Fo id (pf [] []) z0 (go L x1 x3 x4 r0 r2 t0 t1 z)) (hz : fr (pf [] []) z0 z) (hr2 : 1000 ≤ r2) : Fo id (pf [] []) z0 (qm_X13_unpack_0 K go x1 x3 x4 r0 r2 t0 t1 z) := by
  unfold qm_X13_unpack_0
  exact (fo_cs0 (ff_X12_clear (by first | omega | decide)) (pf_sub (by decide) pf_0) hz (fun z1 h_z1 => (hgo 1 _ _ _ _ _ _ _ z1 h_z1 (fun _ => (by first | omega | decide)))))
theorem fb_X13_unpack_1 {K : Nat} {z0 z : ow_MS}  {go : Nat → Int32 → Int32 → Int32 → Nat → Nat → Int32 → Int32 → ow_MS → Option ow_MS} {x1 : Int32} {x3 : Int32} {x4 : Int32} {r0 : Nat} {r2 : Nat} {t0 : Int32} {t1 : Int32}  (hgo : ∀ (L : Nat) (x1 : Int32) (x3 : Int32) (x4 : Int32) (r0 : Nat) (r2 : Nat) (t0 : Int32) (t1 : Int32) (z : ow_MS), fr (pf [] []) z0 z → (L = 0 ∨ L = 1 ∨ L = 2 ∨ L = 3 → 1000 ≤ r2) → Fo id (pf [] []) z0 (go L x1 x3 x4 r0 r2 t0 t1 z)) (hz : fr (pf [] []) z0 z) (hr2 : 1000 ≤ r2) : Fo id (pf [] []) z0 (qm_X13_unpack_1 K go x1 x3 x4 r0 r2 t0 t1 z) := by
  unfold qm_X13_unpack_1
  exact (fo_rdI (fun v2 => (fo_if (fo_some hz) (fo_rdI (fun v3 => (fo_if (fo_cs0 (ff_X12_end (by first | omega | decide)) (pf_sub (by decide) pf_0) hz (fun z4 h_z4 => (hgo 3 _ _ _ _ _ _ _ z4 h_z4 (fun _ => (by first | omega | decide))))) (fo_if (hgo 2 _ _ _ _ _ _ _ z hz (fun _ => (by first | omega | decide))) (hgo 2 _ _ _ _ _ _ _ z hz (fun _ => (by first | omega | decide))))))))))
theorem fb_X13_unpack_2 {K : Nat} {z0 z : ow_MS}  {go : Nat → Int32 → Int32 → Int32 → Nat → Nat → Int32 → Int32 → ow_MS → Option ow_MS} {x1 : Int32} {x3 : Int32} {x4 : Int32} {r0 : Nat} {r2 : Nat} {t0 : Int32} {t1 : Int32}  (hgo : ∀ (L : Nat) (x1 : Int32) (x3 : Int32) (x4 : Int32) (r0 : Nat) (r2 : Nat) (t0 : Int32) (t1 : Int32) (z : ow_MS), fr (pf [] []) z0 z → (L = 0 ∨ L = 1 ∨ L = 2 ∨ L = 3 → 1000 ≤ r2) → Fo id (pf [] []) z0 (go L x1 x3 x4 r0 r2 t0 t1 z)) (hz : fr (pf [] []) z0 z) (hr2 : 1000 ≤ r2) : Fo id (pf [] []) z0 (qm_X13_unpack_2 K go x1 x3 x4 r0 r2 t0 t1 z) := by
  unfold qm_X13_unpack_2
  exact (fo_wrI (Or.inr (Or.inr (by omega))) hz (fun z5 h_z5 => (fo_cs0 (ff_X12_add (by first | omega | decide)) (pf_sub (by decide) pf_0) h_z5 (fun z6 h_z6 => (hgo 3 _ _ _ _ _ _ _ z6 h_z6 (fun _ => (by first | omega | decide)))))))
theorem fb_X13_unpack_3 {K : Nat} {z0 z : ow_MS}  {go : Nat → Int32 → Int32 → Int32 → Nat → Nat → Int32 → Int32 → ow_MS → Option ow_MS} {x1 : Int32} {x3 : Int32} {x4 : Int32} {r0 : Nat} {r2 : Nat} {t0 : Int32} {t1 : Int32}  (hgo : ∀ (L : Nat) (x1 : Int32) (x3 : Int32) (x4 : Int32) (r0 : Nat) (r2 : Nat) (t0 : Int32) (t1 : Int32) (z : ow_MS), fr (pf [] []) z0 z → (L = 0 ∨ L = 1 ∨ L = 2 ∨ L = 3 → 1000 ≤ r2) → Fo id (pf [] []) z0 (go L x1 x3 x4 r0 r2 t0 t1 z)) (hz : fr (pf [] []) z0 z) (hr2 : 1000 ≤ r2) : Fo id (pf [] []) z0 (qm_X13_unpack_3 K go x1 x3 x4 r0 r2 t0 t1 z) := by
  unfold qm_X13_unpack_3
  exact (hgo 1 _ _ _ _ _ _ _ z hz (fun _ => (by first | omega | decide)))
theorem fq_X13_unpack {K : Nat} {z0 : ow_MS}   : ∀ (k L : Nat) (x1 : Int32) (x3 : Int32) (x4 : Int32) (r0 : Nat) (r2 : Nat) (t0 : Int32) (t1 : Int32) (z : ow_MS), fr (pf [] []) z0 z → (L = 0 ∨ L = 1 ∨ L = 2 ∨ L = 3 → 1000 ≤ r2) → Fo id (pf [] []) z0 (q_X13_unpack K k L x1 x3 x4 r0 r2 t0 t1 z)
  | 0 => by
    intros
    exact fo_none
  | k + 1 => by
    intro L x1 x3 x4 r0 r2 t0 t1 z hz h9_r2
    show Fo id (pf [] []) z0 (qb_X13_unpack K (q_X13_unpack K k) L x1 x3 x4 r0 r2 t0 t1 z)
    unfold qb_X13_unpack
    split
    · exact fb_X13_unpack_0 (fq_X13_unpack k) hz (h9_r2 (by decide))
    · exact fb_X13_unpack_1 (fq_X13_unpack k) hz (h9_r2 (by decide))
    · exact fb_X13_unpack_2 (fq_X13_unpack k) hz (h9_r2 (by decide))
    · exact fb_X13_unpack_3 (fq_X13_unpack k) hz (h9_r2 (by decide))
    · exact fo_none
theorem ff_X13_unpack {K : Nat} {r0 : Nat} {x1 : Int32} {r2 : Nat} {z : ow_MS} (hr2 : 1000 ≤ r2) : Fo id (pf [] []) z (qe_X13_unpack K r0 x1 r2 z) := fq_X13_unpack K 0 _ _ _ _ _ _ _ z fr_rf (fun _ => (by first | omega | decide))
theorem ff_X13_open {K : Nat} {x1 : Int32} {r2 : Nat} {z : ow_MS} (hr2 : 1000 ≤ r2) : Fo id (pf [] []) z (qe_X13_open K x1 r2 z) := by
  unfold qe_X13_open qm_X13_open_0
  exact (fo_cs0 (ff_X13_unpack (by first | omega | decide)) (pf_sub (by decide) pf_0) fr_rf (fun z1 h_z1 => (fo_cs0 (ff_X12_link (by first | omega | decide)) (pf_sub (by decide) pf_0) h_z1 (fun z2 h_z2 => (fo_some h_z2)))))
theorem fb_X13_circlesOf_0 {K : Nat} {z0 z : ow_MS}  {go : Nat → Int32 → Int32 → Nat → Int32 → Int32 → ow_MS → Option (Int32 × ow_MS)} {x2 : Int32} {x3 : Int32} {r1 : Nat} {t0 : Int32} {t1 : Int32}  (hgo : ∀ (L : Nat) (x2 : Int32) (x3 : Int32) (r1 : Nat) (t0 : Int32) (t1 : Int32) (z : ow_MS), fr (pf [] []) z0 z → (L = 0 ∨ L = 1 ∨ L = 2 → 1000 ≤ r1) → Fo Prod.snd (pf [] []) z0 (go L x2 x3 r1 t0 t1 z)) (hz : fr (pf [] []) z0 z) (hr1 : 1000 ≤ r1) : Fo Prod.snd (pf [] []) z0 (qm_X13_circlesOf_0 K go x2 x3 r1 t0 t1 z) := by
  unfold qm_X13_circlesOf_0
  exact (hgo 1 _ _ _ _ _ z hz (fun _ => (by first | omega | decide)))
theorem fb_X13_circlesOf_1 {K : Nat} {z0 z : ow_MS}  {go : Nat → Int32 → Int32 → Nat → Int32 → Int32 → ow_MS → Option (Int32 × ow_MS)} {x2 : Int32} {x3 : Int32} {r1 : Nat} {t0 : Int32} {t1 : Int32}  (hgo : ∀ (L : Nat) (x2 : Int32) (x3 : Int32) (r1 : Nat) (t0 : Int32) (t1 : Int32) (z : ow_MS), fr (pf [] []) z0 z → (L = 0 ∨ L = 1 ∨ L = 2 → 1000 ≤ r1) → Fo Prod.snd (pf [] []) z0 (go L x2 x3 r1 t0 t1 z)) (hz : fr (pf [] []) z0 z) (hr1 : 1000 ≤ r1) : Fo Prod.snd (pf [] []) z0 (qm_X13_circlesOf_1 K go x2 x3 r1 t0 t1 z) := by
  unfold qm_X13_circlesOf_1
  exact (fo_rdF (fun v1 => (fo_if (fo_some hz) (fo_cs1 (ff_X12_isCircle (by first | omega | decide)) (pf_sub (by decide) pf_0) hz (fun v3 z2 h_z2 => (fo_if (hgo 2 _ _ _ _ _ z2 h_z2 (fun _ => (by first | omega | decide))) (hgo 2 _ _ _ _ _ z2 h_z2 (fun _ => (by first | omega | decide)))))))))
theorem fb_X13_circlesOf_2 {K : Nat} {z0 z : ow_MS}  {go : Nat → Int32 → Int32 → Nat → Int32 → Int32 → ow_MS → Option (Int32 × ow_MS)} {x2 : Int32} {x3 : Int32} {r1 : Nat} {t0 : Int32} {t1 : Int32}  (hgo : ∀ (L : Nat) (x2 : Int32) (x3 : Int32) (r1 : Nat) (t0 : Int32) (t1 : Int32) (z : ow_MS), fr (pf [] []) z0 z → (L = 0 ∨ L = 1 ∨ L = 2 → 1000 ≤ r1) → Fo Prod.snd (pf [] []) z0 (go L x2 x3 r1 t0 t1 z)) (hz : fr (pf [] []) z0 z) (hr1 : 1000 ≤ r1) : Fo Prod.snd (pf [] []) z0 (qm_X13_circlesOf_2 K go x2 x3 r1 t0 t1 z) := by
  unfold qm_X13_circlesOf_2
  exact (hgo 1 _ _ _ _ _ z hz (fun _ => (by first | omega | decide)))
theorem fq_X13_circlesOf {K : Nat} {z0 : ow_MS}   : ∀ (k L : Nat) (x2 : Int32) (x3 : Int32) (r1 : Nat) (t0 : Int32) (t1 : Int32) (z : ow_MS), fr (pf [] []) z0 z → (L = 0 ∨ L = 1 ∨ L = 2 → 1000 ≤ r1) → Fo Prod.snd (pf [] []) z0 (q_X13_circlesOf K k L x2 x3 r1 t0 t1 z)
  | 0 => by
    intros
    exact fo_none
  | k + 1 => by
    intro L x2 x3 r1 t0 t1 z hz h9_r1
    show Fo Prod.snd (pf [] []) z0 (qb_X13_circlesOf K (q_X13_circlesOf K k) L x2 x3 r1 t0 t1 z)
    unfold qb_X13_circlesOf
    split
    · exact fb_X13_circlesOf_0 (fq_X13_circlesOf k) hz (h9_r1 (by decide))
    · exact fb_X13_circlesOf_1 (fq_X13_circlesOf k) hz (h9_r1 (by decide))
    · exact fb_X13_circlesOf_2 (fq_X13_circlesOf k) hz (h9_r1 (by decide))
    · exact fo_none
theorem ff_X13_circlesOf {K : Nat} {r1 : Nat} {z : ow_MS} (hr1 : 1000 ≤ r1) : Fo Prod.snd (pf [] []) z (qe_X13_circlesOf K r1 z) := fq_X13_circlesOf K 0 _ _ _ _ _ z fr_rf (fun _ => (by first | omega | decide))
theorem fb_X13_writheOf_0 {K : Nat} {z0 z : ow_MS}  {go : Nat → Int32 → Int32 → Nat → Int32 → Int32 → ow_MS → Option (Int32 × ow_MS)} {x1 : Int32} {x2 : Int32} {r0 : Nat} {t0 : Int32} {t1 : Int32}  (hgo : ∀ (L : Nat) (x1 : Int32) (x2 : Int32) (r0 : Nat) (t0 : Int32) (t1 : Int32) (z : ow_MS), fr (pf [] []) z0 z → (L = 0 ∨ L = 1 ∨ L = 2 → 1000 ≤ r0) → Fo Prod.snd (pf [] []) z0 (go L x1 x2 r0 t0 t1 z)) (hz : fr (pf [] []) z0 z) (hr0 : 1000 ≤ r0) : Fo Prod.snd (pf [] []) z0 (qm_X13_writheOf_0 K go x1 x2 r0 t0 t1 z) := by
  unfold qm_X13_writheOf_0
  exact (hgo 1 _ _ _ _ _ z hz (fun _ => (by first | omega | decide)))
theorem fb_X13_writheOf_1 {K : Nat} {z0 z : ow_MS}  {go : Nat → Int32 → Int32 → Nat → Int32 → Int32 → ow_MS → Option (Int32 × ow_MS)} {x1 : Int32} {x2 : Int32} {r0 : Nat} {t0 : Int32} {t1 : Int32}  (hgo : ∀ (L : Nat) (x1 : Int32) (x2 : Int32) (r0 : Nat) (t0 : Int32) (t1 : Int32) (z : ow_MS), fr (pf [] []) z0 z → (L = 0 ∨ L = 1 ∨ L = 2 → 1000 ≤ r0) → Fo Prod.snd (pf [] []) z0 (go L x1 x2 r0 t0 t1 z)) (hz : fr (pf [] []) z0 z) (hr0 : 1000 ≤ r0) : Fo Prod.snd (pf [] []) z0 (qm_X13_writheOf_1 K go x1 x2 r0 t0 t1 z) := by
  unfold qm_X13_writheOf_1
  exact (fo_rdF (fun v1 => (fo_if (fo_some hz) (fo_rdI (fun v2 => (fo_if (fo_rdI (fun v3 => (fo_rdI (fun v4 => (hgo 2 _ _ _ _ _ z hz (fun _ => (by first | omega | decide))))))) (hgo 2 _ _ _ _ _ z hz (fun _ => (by first | omega | decide)))))))))
theorem fb_X13_writheOf_2 {K : Nat} {z0 z : ow_MS}  {go : Nat → Int32 → Int32 → Nat → Int32 → Int32 → ow_MS → Option (Int32 × ow_MS)} {x1 : Int32} {x2 : Int32} {r0 : Nat} {t0 : Int32} {t1 : Int32}  (hgo : ∀ (L : Nat) (x1 : Int32) (x2 : Int32) (r0 : Nat) (t0 : Int32) (t1 : Int32) (z : ow_MS), fr (pf [] []) z0 z → (L = 0 ∨ L = 1 ∨ L = 2 → 1000 ≤ r0) → Fo Prod.snd (pf [] []) z0 (go L x1 x2 r0 t0 t1 z)) (hz : fr (pf [] []) z0 z) (hr0 : 1000 ≤ r0) : Fo Prod.snd (pf [] []) z0 (qm_X13_writheOf_2 K go x1 x2 r0 t0 t1 z) := by
  unfold qm_X13_writheOf_2
  exact (hgo 1 _ _ _ _ _ z hz (fun _ => (by first | omega | decide)))
theorem fq_X13_writheOf {K : Nat} {z0 : ow_MS}   : ∀ (k L : Nat) (x1 : Int32) (x2 : Int32) (r0 : Nat) (t0 : Int32) (t1 : Int32) (z : ow_MS), fr (pf [] []) z0 z → (L = 0 ∨ L = 1 ∨ L = 2 → 1000 ≤ r0) → Fo Prod.snd (pf [] []) z0 (q_X13_writheOf K k L x1 x2 r0 t0 t1 z)
  | 0 => by
    intros
    exact fo_none
  | k + 1 => by
    intro L x1 x2 r0 t0 t1 z hz h9_r0
    show Fo Prod.snd (pf [] []) z0 (qb_X13_writheOf K (q_X13_writheOf K k) L x1 x2 r0 t0 t1 z)
    unfold qb_X13_writheOf
    split
    · exact fb_X13_writheOf_0 (fq_X13_writheOf k) hz (h9_r0 (by decide))
    · exact fb_X13_writheOf_1 (fq_X13_writheOf k) hz (h9_r0 (by decide))
    · exact fb_X13_writheOf_2 (fq_X13_writheOf k) hz (h9_r0 (by decide))
    · exact fo_none
theorem ff_X13_writheOf {K : Nat} {r0 : Nat} {z : ow_MS} (hr0 : 1000 ≤ r0) : Fo Prod.snd (pf [] []) z (qe_X13_writheOf K r0 z) := fq_X13_writheOf K 0 _ _ _ _ _ z fr_rf (fun _ => (by first | omega | decide))
theorem fb_X13_figure_0 {K : Nat} {z0 z : ow_MS}  {go : Nat → Int32 → Int32 → Int32 → ow_MS → Option (Int32 × ow_MS)} {x1 : Int32} {x2 : Int32} {x3 : Int32}  (hgo : ∀ (L : Nat) (x1 : Int32) (x2 : Int32) (x3 : Int32) (z : ow_MS), fr (pf [1] []) z0 z → Fo Prod.snd (pf [1] []) z0 (go L x1 x2 x3 z)) (hz : fr (pf [1] []) z0 z)  : Fo Prod.snd (pf [1] []) z0 (qm_X13_figure_0 K go x1 x2 x3 z) := by
  unfold qm_X13_figure_0
  exact (fo_wrF (Or.inl (by decide)) hz (fun z1 h_z1 => (fo_cs1 (ff_X13_has) (pf_sub (by decide) pf_0) h_z1 (fun v3 z2 h_z2 => (fo_if (fo_cs1 (ff_X13_fails) (pf_sub (by decide) pf_0) h_z2 (fun v14 z13 h_z13 => (fo_some h_z13))) (fo_if (hgo 1 _ _ _ z2 h_z2) (fo_if (fo_cs0 (ff_X13_open (by first | omega | decide)) (pf_sub (by decide) pf_0) h_z2 (fun z4 h_z4 => (fo_if (fo_rdF (fun v12 => (fo_nzI (fo_some h_z4)))) (fo_if (fo_rdF (fun v11 => (fo_some h_z4))) (fo_if (fo_cs1 (ff_X13_circlesOf (by first | omega | decide)) (pf_sub (by decide) pf_0) h_z4 (fun v10 z9 h_z9 => (fo_some h_z9))) (fo_if (fo_cs0 (ff_X12_split (by first | omega | decide)) (pf_sub (by decide) pf_0) h_z4 (fun z7 h_z7 => (fo_rdF (fun v8 => (fo_some h_z7))))) (fo_if (fo_cs1 (ff_X13_writheOf (by first | omega | decide)) (pf_sub (by decide) pf_0) h_z4 (fun v6 z5 h_z5 => (fo_some h_z5))) (hgo 2 _ _ _ z4 h_z4)))))))) (hgo 1 _ _ _ z2 h_z2))))))))
theorem fb_X13_figure_1 {K : Nat} {z0 z : ow_MS}  {go : Nat → Int32 → Int32 → Int32 → ow_MS → Option (Int32 × ow_MS)} {x1 : Int32} {x2 : Int32} {x3 : Int32}  (hgo : ∀ (L : Nat) (x1 : Int32) (x2 : Int32) (x3 : Int32) (z : ow_MS), fr (pf [1] []) z0 z → Fo Prod.snd (pf [1] []) z0 (go L x1 x2 x3 z)) (hz : fr (pf [1] []) z0 z)  : Fo Prod.snd (pf [1] []) z0 (qm_X13_figure_1 K go x1 x2 x3 z) := by
  unfold qm_X13_figure_1
  exact (fo_cs1 (ff_X13_fails) (pf_sub (by decide) pf_0) hz (fun v16 z15 h_z15 => (fo_some h_z15)))
theorem fb_X13_figure_2 {K : Nat} {z0 z : ow_MS}  {go : Nat → Int32 → Int32 → Int32 → ow_MS → Option (Int32 × ow_MS)} {x1 : Int32} {x2 : Int32} {x3 : Int32}  (hgo : ∀ (L : Nat) (x1 : Int32) (x2 : Int32) (x3 : Int32) (z : ow_MS), fr (pf [1] []) z0 z → Fo Prod.snd (pf [1] []) z0 (go L x1 x2 x3 z)) (hz : fr (pf [1] []) z0 z)  : Fo Prod.snd (pf [1] []) z0 (qm_X13_figure_2 K go x1 x2 x3 z) := by
  unfold qm_X13_figure_2
  exact (fo_rdF (fun v17 => (fo_if (fo_some hz) (fo_rdI (fun v18 => (fo_rdI (fun v19 => (fo_rdI (fun v20 => (fo_if (fo_some hz) (hgo 2 _ _ _ z hz)))))))))))
theorem fq_X13_figure {K : Nat} {z0 : ow_MS}   : ∀ (k L : Nat) (x1 : Int32) (x2 : Int32) (x3 : Int32) (z : ow_MS), fr (pf [1] []) z0 z → Fo Prod.snd (pf [1] []) z0 (q_X13_figure K k L x1 x2 x3 z)
  | 0 => by
    intros
    exact fo_none
  | k + 1 => by
    intro L x1 x2 x3 z hz 
    show Fo Prod.snd (pf [1] []) z0 (qb_X13_figure K (q_X13_figure K k) L x1 x2 x3 z)
    unfold qb_X13_figure
    split
    · exact fb_X13_figure_0 (fq_X13_figure k) hz 
    · exact fb_X13_figure_1 (fq_X13_figure k) hz 
    · exact fb_X13_figure_2 (fq_X13_figure k) hz 
    · exact fo_none
theorem ff_X13_figure {K : Nat} {x1 : Int32} {x2 : Int32} {z : ow_MS}  : Fo Prod.snd (pf [1] []) z (qe_X13_figure K x1 x2 z) := fq_X13_figure K 0 _ _ _ z fr_rf 
theorem fb_X13_visit_0 {K : Nat} {z0 z : ow_MS}  {go : Nat → Int32 → Int32 → Int32 → ow_MS → Option (Int32 × ow_MS)} {x1 : Int32} {x2 : Int32} {x3 : Int32}  (hgo : ∀ (L : Nat) (x1 : Int32) (x2 : Int32) (x3 : Int32) (z : ow_MS), fr (pf [1] []) z0 z → Fo Prod.snd (pf [1] []) z0 (go L x1 x2 x3 z)) (hz : fr (pf [1] []) z0 z)  : Fo Prod.snd (pf [1] []) z0 (qm_X13_visit_0 K go x1 x2 x3 z) := by
  unfold qm_X13_visit_0
  exact (fo_wrF (Or.inl (by decide)) hz (fun z1 h_z1 => (fo_cs1 (ff_X13_has) (pf_sub (by decide) pf_0) h_z1 (fun v3 z2 h_z2 => (fo_if (fo_cs1 (ff_X13_fails) (pf_sub (by decide) pf_0) h_z2 (fun v14 z13 h_z13 => (fo_some h_z13))) (fo_cs0 (ff_X13_open (by first | omega | decide)) (pf_sub (by decide) pf_0) h_z2 (fun z4 h_z4 => (fo_if (hgo 1 _ _ _ z4 h_z4) (fo_rdF (fun v5 => (fo_if (fo_if (fo_cs1 (ff_X13_fails) (pf_sub (by decide) pf_0) h_z4 (fun v7 z6 h_z6 => (fo_some h_z6))) (fo_if (fo_rdI (fun v8 => (fo_some h_z4))) (fo_if (fo_rdI (fun v9 => (fo_some h_z4))) (fo_if (fo_rdI (fun v10 => (fo_some h_z4))) (fo_if (fo_rdI (fun v11 => (fo_rdI (fun v12 => (fo_some h_z4))))) fo_none))))) (hgo 1 _ _ _ z4 h_z4))))))))))))
theorem fb_X13_visit_1 {K : Nat} {z0 z : ow_MS}  {go : Nat → Int32 → Int32 → Int32 → ow_MS → Option (Int32 × ow_MS)} {x1 : Int32} {x2 : Int32} {x3 : Int32}  (hgo : ∀ (L : Nat) (x1 : Int32) (x2 : Int32) (x3 : Int32) (z : ow_MS), fr (pf [1] []) z0 z → Fo Prod.snd (pf [1] []) z0 (go L x1 x2 x3 z)) (hz : fr (pf [1] []) z0 z)  : Fo Prod.snd (pf [1] []) z0 (qm_X13_visit_1 K go x1 x2 x3 z) := by
  unfold qm_X13_visit_1
  exact (fo_cs1 (ff_X13_fails) (pf_sub (by decide) pf_0) hz (fun v16 z15 h_z15 => (fo_some h_z15)))
theorem fq_X13_visit {K : Nat} {z0 : ow_MS}   : ∀ (k L : Nat) (x1 : Int32) (x2 : Int32) (x3 : Int32) (z : ow_MS), fr (pf [1] []) z0 z → Fo Prod.snd (pf [1] []) z0 (q_X13_visit K k L x1 x2 x3 z)
  | 0 => by
    intros
    exact fo_none
  | k + 1 => by
    intro L x1 x2 x3 z hz 
    show Fo Prod.snd (pf [1] []) z0 (qb_X13_visit K (q_X13_visit K k) L x1 x2 x3 z)
    unfold qb_X13_visit
    split
    · exact fb_X13_visit_0 (fq_X13_visit k) hz 
    · exact fb_X13_visit_1 (fq_X13_visit k) hz 
    · exact fo_none
theorem ff_X13_visit {K : Nat} {x1 : Int32} {x2 : Int32} {x3 : Int32} {z : ow_MS}  : Fo Prod.snd (pf [1] []) z (qe_X13_visit K x1 x2 x3 z) := fq_X13_visit K 0 _ _ _ z fr_rf 
theorem fb_X13_linking_0 {K : Nat} {z0 z : ow_MS}  {go : Nat → Int32 → Int32 → Int32 → Int32 → Int32 → ow_MS → Option (Int32 × ow_MS)} {x1 : Int32} {x2 : Int32} {x3 : Int32} {x4 : Int32} {x5 : Int32}  (hgo : ∀ (L : Nat) (x1 : Int32) (x2 : Int32) (x3 : Int32) (x4 : Int32) (x5 : Int32) (z : ow_MS), fr (pf [1] []) z0 z → Fo Prod.snd (pf [1] []) z0 (go L x1 x2 x3 x4 x5 z)) (hz : fr (pf [1] []) z0 z)  : Fo Prod.snd (pf [1] []) z0 (qm_X13_linking_0 K go x1 x2 x3 x4 x5 z) := by
  unfold qm_X13_linking_0
  exact (fo_wrF (Or.inl (by decide)) hz (fun z1 h_z1 => (fo_cs1 (ff_X13_has) (pf_sub (by decide) pf_0) h_z1 (fun v3 z2 h_z2 => (fo_if (fo_cs1 (ff_X13_fails) (pf_sub (by decide) pf_0) h_z2 (fun v10 z9 h_z9 => (fo_some h_z9))) (fo_cs0 (ff_X13_open (by first | omega | decide)) (pf_sub (by decide) pf_0) h_z2 (fun z4 h_z4 => (fo_if (hgo 1 _ _ _ _ _ z4 h_z4) (fo_rdF (fun v5 => (fo_if (hgo 1 _ _ _ _ _ z4 h_z4) (fo_if (hgo 1 _ _ _ _ _ z4 h_z4) (fo_rdF (fun v6 => (fo_if (fo_if (fo_cs1 (ff_X13_fails) (pf_sub (by decide) pf_0) h_z4 (fun v8 z7 h_z7 => (fo_some h_z7))) (hgo 2 _ _ _ _ _ z4 h_z4)) (hgo 1 _ _ _ _ _ z4 h_z4))))))))))))))))
theorem fb_X13_linking_1 {K : Nat} {z0 z : ow_MS}  {go : Nat → Int32 → Int32 → Int32 → Int32 → Int32 → ow_MS → Option (Int32 × ow_MS)} {x1 : Int32} {x2 : Int32} {x3 : Int32} {x4 : Int32} {x5 : Int32}  (hgo : ∀ (L : Nat) (x1 : Int32) (x2 : Int32) (x3 : Int32) (x4 : Int32) (x5 : Int32) (z : ow_MS), fr (pf [1] []) z0 z → Fo Prod.snd (pf [1] []) z0 (go L x1 x2 x3 x4 x5 z)) (hz : fr (pf [1] []) z0 z)  : Fo Prod.snd (pf [1] []) z0 (qm_X13_linking_1 K go x1 x2 x3 x4 x5 z) := by
  unfold qm_X13_linking_1
  exact (fo_cs1 (ff_X13_fails) (pf_sub (by decide) pf_0) hz (fun v12 z11 h_z11 => (fo_some h_z11)))
theorem fb_X13_linking_2 {K : Nat} {z0 z : ow_MS}  {go : Nat → Int32 → Int32 → Int32 → Int32 → Int32 → ow_MS → Option (Int32 × ow_MS)} {x1 : Int32} {x2 : Int32} {x3 : Int32} {x4 : Int32} {x5 : Int32}  (hgo : ∀ (L : Nat) (x1 : Int32) (x2 : Int32) (x3 : Int32) (x4 : Int32) (x5 : Int32) (z : ow_MS), fr (pf [1] []) z0 z → Fo Prod.snd (pf [1] []) z0 (go L x1 x2 x3 x4 x5 z)) (hz : fr (pf [1] []) z0 z)  : Fo Prod.snd (pf [1] []) z0 (qm_X13_linking_2 K go x1 x2 x3 x4 x5 z) := by
  unfold qm_X13_linking_2
  exact (fo_rdF (fun v13 => (fo_if (fo_nzI (fo_some hz)) (fo_rdI (fun v14 => (fo_if (fo_rdI (fun v15 => (fo_rdI (fun v16 => (fo_if (fo_rdI (fun v17 => (fo_rdI (fun v18 => (hgo 3 _ _ _ _ _ z hz))))) (hgo 3 _ _ _ _ _ z hz)))))) (hgo 3 _ _ _ _ _ z hz)))))))
theorem fb_X13_linking_3 {K : Nat} {z0 z : ow_MS}  {go : Nat → Int32 → Int32 → Int32 → Int32 → Int32 → ow_MS → Option (Int32 × ow_MS)} {x1 : Int32} {x2 : Int32} {x3 : Int32} {x4 : Int32} {x5 : Int32}  (hgo : ∀ (L : Nat) (x1 : Int32) (x2 : Int32) (x3 : Int32) (x4 : Int32) (x5 : Int32) (z : ow_MS), fr (pf [1] []) z0 z → Fo Prod.snd (pf [1] []) z0 (go L x1 x2 x3 x4 x5 z)) (hz : fr (pf [1] []) z0 z)  : Fo Prod.snd (pf [1] []) z0 (qm_X13_linking_3 K go x1 x2 x3 x4 x5 z) := by
  unfold qm_X13_linking_3
  exact (hgo 2 _ _ _ _ _ z hz)
theorem fq_X13_linking {K : Nat} {z0 : ow_MS}   : ∀ (k L : Nat) (x1 : Int32) (x2 : Int32) (x3 : Int32) (x4 : Int32) (x5 : Int32) (z : ow_MS), fr (pf [1] []) z0 z → Fo Prod.snd (pf [1] []) z0 (q_X13_linking K k L x1 x2 x3 x4 x5 z)
  | 0 => by
    intros
    exact fo_none
  | k + 1 => by
    intro L x1 x2 x3 x4 x5 z hz 
    show Fo Prod.snd (pf [1] []) z0 (qb_X13_linking K (q_X13_linking K k) L x1 x2 x3 x4 x5 z)
    unfold qb_X13_linking
    split
    · exact fb_X13_linking_0 (fq_X13_linking k) hz 
    · exact fb_X13_linking_1 (fq_X13_linking k) hz 
    · exact fb_X13_linking_2 (fq_X13_linking k) hz 
    · exact fb_X13_linking_3 (fq_X13_linking k) hz 
    · exact fo_none
theorem ff_X13_linking {K : Nat} {x1 : Int32} {x2 : Int32} {x3 : Int32} {z : ow_MS}  : Fo Prod.snd (pf [1] []) z (qe_X13_linking K x1 x2 x3 z) := fq_X13_linking K 0 _ _ _ _ _ z fr_rf 
theorem fb_X13_isSame_0 {K : Nat} {z0 z : ow_MS}  {go : Nat → Int32 → Int32 → Int32 → Nat → Nat → ow_MS → Option (Int32 × ow_MS)} {x1 : Int32} {x3 : Int32} {x4 : Int32} {r0 : Nat} {r2 : Nat}  (hgo : ∀ (L : Nat) (x1 : Int32) (x3 : Int32) (x4 : Int32) (r0 : Nat) (r2 : Nat) (z : ow_MS), fr (pf [] []) z0 z → Fo Prod.snd (pf [] []) z0 (go L x1 x3 x4 r0 r2 z)) (hz : fr (pf [] []) z0 z)  : Fo Prod.snd (pf [] []) z0 (qm_X13_isSame_0 K go x1 x3 x4 r0 r2 z) := by
  unfold qm_X13_isSame_0
  exact (hgo 1 _ _ _ _ _ z hz)
theorem fb_X13_isSame_1 {K : Nat} {z0 z : ow_MS}  {go : Nat → Int32 → Int32 → Int32 → Nat → Nat → ow_MS → Option (Int32 × ow_MS)} {x1 : Int32} {x3 : Int32} {x4 : Int32} {r0 : Nat} {r2 : Nat}  (hgo : ∀ (L : Nat) (x1 : Int32) (x3 : Int32) (x4 : Int32) (r0 : Nat) (r2 : Nat) (z : ow_MS), fr (pf [] []) z0 z → Fo Prod.snd (pf [] []) z0 (go L x1 x3 x4 r0 r2 z)) (hz : fr (pf [] []) z0 z)  : Fo Prod.snd (pf [] []) z0 (qm_X13_isSame_1 K go x1 x3 x4 r0 r2 z) := by
  unfold qm_X13_isSame_1
  exact (fo_rdI (fun v1 => (fo_if (fo_okZ (fo_some hz)) (fo_rdI (fun v2 => (fo_rdI (fun v3 => (fo_if (hgo 1 _ _ _ _ _ z hz) (fo_okZ (fo_some hz))))))))))
theorem fq_X13_isSame {K : Nat} {z0 : ow_MS}   : ∀ (k L : Nat) (x1 : Int32) (x3 : Int32) (x4 : Int32) (r0 : Nat) (r2 : Nat) (z : ow_MS), fr (pf [] []) z0 z → Fo Prod.snd (pf [] []) z0 (q_X13_isSame K k L x1 x3 x4 r0 r2 z)
  | 0 => by
    intros
    exact fo_none
  | k + 1 => by
    intro L x1 x3 x4 r0 r2 z hz 
    show Fo Prod.snd (pf [] []) z0 (qb_X13_isSame K (q_X13_isSame K k) L x1 x3 x4 r0 r2 z)
    unfold qb_X13_isSame
    split
    · exact fb_X13_isSame_0 (fq_X13_isSame k) hz 
    · exact fb_X13_isSame_1 (fq_X13_isSame k) hz 
    · exact fo_none
theorem ff_X13_isSame {K : Nat} {r0 : Nat} {x1 : Int32} {r2 : Nat} {x3 : Int32} {z : ow_MS}  : Fo Prod.snd (pf [] []) z (qe_X13_isSame K r0 x1 r2 x3 z) := fq_X13_isSame K 0 _ _ _ _ _ z fr_rf 
end
section
/-! 99zzzzzzzzzzzzib.fo1 -/
/-! frames of the reference, on -/
theorem ff_X13_alike {K : Nat} {x1 : Int32} {x2 : Int32} {z : ow_MS}  : Fo Prod.snd (pf [1] []) z (qe_X13_alike K x1 x2 z) := by
  unfold qe_X13_alike qm_X13_alike_0
  exact (fo_wrF (Or.inl (by decide)) fr_rf (fun z1 h_z1 => (fo_cs1 (ff_X13_has) (pf_sub (by decide) pf_0) h_z1 (fun v3 z2 h_z2 => (fo_if (fo_okZ (fo_some h_z2)) (fo_cs1 (ff_X13_has) (pf_sub (by decide) pf_0) h_z2 (fun v5 z4 h_z4 => (fo_if (fo_okZ (fo_some h_z4)) (fo_cs1 (ff_X13_isSame) (pf_sub (by decide) pf_0) h_z4 (fun v7 z6 h_z6 => (fo_if (fo_okZ (fo_some h_z6)) (fo_okZ (fo_some h_z6)))))))))))))
theorem fb_X13_mirror_0 {K : Nat} {z0 z : ow_MS}  {go : Nat → Int32 → Int32 → ow_MS → Option (Int32 × ow_MS)} {x1 : Int32} {x2 : Int32}  (hgo : ∀ (L : Nat) (x1 : Int32) (x2 : Int32) (z : ow_MS), fr (pf [1, 2, 3, 4, 5, 6, 7, 8, 9, 12] []) z0 z → Fo Prod.snd (pf [1, 2, 3, 4, 5, 6, 7, 8, 9, 12] []) z0 (go L x1 x2 z)) (hz : fr (pf [1, 2, 3, 4, 5, 6, 7, 8, 9, 12] []) z0 z)  : Fo Prod.snd (pf [1, 2, 3, 4, 5, 6, 7, 8, 9, 12] []) z0 (qm_X13_mirror_0 K go x1 x2 z) := by
  unfold qm_X13_mirror_0
  exact (fo_wrF (Or.inl (by decide)) hz (fun z1 h_z1 => (fo_cs1 (ff_X13_has) (pf_sub (by decide) pf_0) h_z1 (fun v3 z2 h_z2 => (fo_if (fo_cs1 (ff_X13_fails) (pf_sub (by decide) pf_0) h_z2 (fun v10 z9 h_z9 => (fo_some h_z9))) (fo_cs1 (ff_X13_free) (pf_sub (by decide) pf_0) h_z2 (fun v5 z4 h_z4 => (fo_if (fo_cs1 (ff_X13_fails) (pf_sub (by decide) pf_0) h_z4 (fun v8 z7 h_z7 => (fo_some h_z7))) (fo_cs0 (ff_X13_open (by first | omega | decide)) (pf_sub (by decide) pf_0) h_z4 (fun z6 h_z6 => (hgo 1 _ _ z6 h_z6)))))))))))
theorem fb_X13_mirror_1 {K : Nat} {z0 z : ow_MS}  {go : Nat → Int32 → Int32 → ow_MS → Option (Int32 × ow_MS)} {x1 : Int32} {x2 : Int32}  (hgo : ∀ (L : Nat) (x1 : Int32) (x2 : Int32) (z : ow_MS), fr (pf [1, 2, 3, 4, 5, 6, 7, 8, 9, 12] []) z0 z → Fo Prod.snd (pf [1, 2, 3, 4, 5, 6, 7, 8, 9, 12] []) z0 (go L x1 x2 z)) (hz : fr (pf [1, 2, 3, 4, 5, 6, 7, 8, 9, 12] []) z0 z)  : Fo Prod.snd (pf [1, 2, 3, 4, 5, 6, 7, 8, 9, 12] []) z0 (qm_X13_mirror_1 K go x1 x2 z) := by
  unfold qm_X13_mirror_1
  exact (fo_rdF (fun v11 => (fo_if (hgo 2 _ _ z hz) (fo_rdI (fun v12 => (fo_wrI (Or.inr (Or.inr (by decide))) hz (fun z13 h_z13 => (hgo 1 _ _ z13 h_z13))))))))
theorem fb_X13_mirror_2 {K : Nat} {z0 z : ow_MS}  {go : Nat → Int32 → Int32 → ow_MS → Option (Int32 × ow_MS)} {x1 : Int32} {x2 : Int32}  (hgo : ∀ (L : Nat) (x1 : Int32) (x2 : Int32) (z : ow_MS), fr (pf [1, 2, 3, 4, 5, 6, 7, 8, 9, 12] []) z0 z → Fo Prod.snd (pf [1, 2, 3, 4, 5, 6, 7, 8, 9, 12] []) z0 (go L x1 x2 z)) (hz : fr (pf [1, 2, 3, 4, 5, 6, 7, 8, 9, 12] []) z0 z)  : Fo Prod.snd (pf [1, 2, 3, 4, 5, 6, 7, 8, 9, 12] []) z0 (qm_X13_mirror_2 K go x1 x2 z) := by
  unfold qm_X13_mirror_2
  exact (fo_if (fo_cs1 (ff_X13_keep) (pf_sub (by decide) pf_0) hz (fun v15 z14 h_z14 => (fo_some h_z14))) (fo_rdI (fun v16 => (fo_wrI (Or.inr (Or.inr (by decide))) hz (fun z17 h_z17 => (hgo 2 _ _ z17 h_z17))))))
theorem fq_X13_mirror {K : Nat} {z0 : ow_MS}   : ∀ (k L : Nat) (x1 : Int32) (x2 : Int32) (z : ow_MS), fr (pf [1, 2, 3, 4, 5, 6, 7, 8, 9, 12] []) z0 z → Fo Prod.snd (pf [1, 2, 3, 4, 5, 6, 7, 8, 9, 12] []) z0 (q_X13_mirror K k L x1 x2 z)
  | 0 => by
    intros
    exact fo_none
  | k + 1 => by
    intro L x1 x2 z hz 
    show Fo Prod.snd (pf [1, 2, 3, 4, 5, 6, 7, 8, 9, 12] []) z0 (qb_X13_mirror K (q_X13_mirror K k) L x1 x2 z)
    unfold qb_X13_mirror
    split
    · exact fb_X13_mirror_0 (fq_X13_mirror k) hz 
    · exact fb_X13_mirror_1 (fq_X13_mirror k) hz 
    · exact fb_X13_mirror_2 (fq_X13_mirror k) hz 
    · exact fo_none
theorem ff_X13_mirror {K : Nat} {x1 : Int32} {z : ow_MS}  : Fo Prod.snd (pf [1, 2, 3, 4, 5, 6, 7, 8, 9, 12] []) z (qe_X13_mirror K x1 z) := fq_X13_mirror K 0 _ _ z fr_rf 
theorem fb_X12_signsOf_0 {K : Nat} {z0 z : ow_MS}  {go : Nat → Int32 → Nat → Nat → ow_MS → Option ow_MS} {x2 : Int32} {r0 : Nat} {r1 : Nat}  (hgo : ∀ (L : Nat) (x2 : Int32) (r0 : Nat) (r1 : Nat) (z : ow_MS), fr (pf [] []) z0 z → (L = 0 ∨ L = 1 → 1000 ≤ r0) → (L = 0 ∨ L = 1 → 1000 ≤ r1) → Fo id (pf [] []) z0 (go L x2 r0 r1 z)) (hz : fr (pf [] []) z0 z) (hr0 : 1000 ≤ r0) (hr1 : 1000 ≤ r1) : Fo id (pf [] []) z0 (qm_X12_signsOf_0 K go x2 r0 r1 z) := by
  unfold qm_X12_signsOf_0
  exact (hgo 1 _ _ _ z hz (fun _ => (by first | omega | decide)) (fun _ => (by first | omega | decide)))
theorem fb_X12_signsOf_1 {K : Nat} {z0 z : ow_MS}  {go : Nat → Int32 → Nat → Nat → ow_MS → Option ow_MS} {x2 : Int32} {r0 : Nat} {r1 : Nat}  (hgo : ∀ (L : Nat) (x2 : Int32) (r0 : Nat) (r1 : Nat) (z : ow_MS), fr (pf [] []) z0 z → (L = 0 ∨ L = 1 → 1000 ≤ r0) → (L = 0 ∨ L = 1 → 1000 ≤ r1) → Fo id (pf [] []) z0 (go L x2 r0 r1 z)) (hz : fr (pf [] []) z0 z) (hr0 : 1000 ≤ r0) (hr1 : 1000 ≤ r1) : Fo id (pf [] []) z0 (qm_X12_signsOf_1 K go x2 r0 r1 z) := by
  unfold qm_X12_signsOf_1
  exact (fo_if (fo_some hz) (fo_rdI (fun v1 => (fo_wrI (Or.inr (Or.inr (by omega))) hz (fun z2 h_z2 => (hgo 1 _ _ _ z2 h_z2 (fun _ => (by first | omega | decide)) (fun _ => (by first | omega | decide))))))))
theorem fq_X12_signsOf {K : Nat} {z0 : ow_MS}   : ∀ (k L : Nat) (x2 : Int32) (r0 : Nat) (r1 : Nat) (z : ow_MS), fr (pf [] []) z0 z → (L = 0 ∨ L = 1 → 1000 ≤ r0) → (L = 0 ∨ L = 1 → 1000 ≤ r1) → Fo id (pf [] []) z0 (q_X12_signsOf K k L x2 r0 r1 z)
  | 0 => by
    intros
    exact fo_none
  | k + 1 => by
    intro L x2 r0 r1 z hz h9_r0 h9_r1
    show Fo id (pf [] []) z0 (qb_X12_signsOf K (q_X12_signsOf K k) L x2 r0 r1 z)
    unfold qb_X12_signsOf
    split
    · exact fb_X12_signsOf_0 (fq_X12_signsOf k) hz (h9_r0 (by decide)) (h9_r1 (by decide))
    · exact fb_X12_signsOf_1 (fq_X12_signsOf k) hz (h9_r0 (by decide)) (h9_r1 (by decide))
    · exact fo_none
theorem ff_X12_signsOf {K : Nat} {r0 : Nat} {r1 : Nat} {z : ow_MS} (hr0 : 1000 ≤ r0) (hr1 : 1000 ≤ r1) : Fo id (pf [] []) z (qe_X12_signsOf K r0 r1 z) := fq_X12_signsOf K 0 _ _ _ z fr_rf (fun _ => (by first | omega | decide)) (fun _ => (by first | omega | decide))
theorem fb_X13_reverse_0 {K : Nat} {z0 z : ow_MS}  {go : Nat → Int32 → Int32 → Int32 → Int32 → Int32 → Int32 → Int32 → ow_MS → Option (Int32 × ow_MS)} {x1 : Int32} {x2 : Int32} {x3 : Int32} {x4 : Int32} {x5 : Int32} {x6 : Int32} {t0 : Int32}  (hgo : ∀ (L : Nat) (x1 : Int32) (x2 : Int32) (x3 : Int32) (x4 : Int32) (x5 : Int32) (x6 : Int32) (t0 : Int32) (z : ow_MS), fr (pf [1, 2, 3, 4, 5, 6, 7, 8, 9, 12] []) z0 z → Fo Prod.snd (pf [1, 2, 3, 4, 5, 6, 7, 8, 9, 12] []) z0 (go L x1 x2 x3 x4 x5 x6 t0 z)) (hz : fr (pf [1, 2, 3, 4, 5, 6, 7, 8, 9, 12] []) z0 z)  : Fo Prod.snd (pf [1, 2, 3, 4, 5, 6, 7, 8, 9, 12] []) z0 (qm_X13_reverse_0 K go x1 x2 x3 x4 x5 x6 t0 z) := by
  unfold qm_X13_reverse_0
  exact (fo_wrF (Or.inl (by decide)) hz (fun z1 h_z1 => (fo_cs1 (ff_X13_has) (pf_sub (by decide) pf_0) h_z1 (fun v3 z2 h_z2 => (fo_if (fo_cs1 (ff_X13_fails) (pf_sub (by decide) pf_0) h_z2 (fun v13 z12 h_z12 => (fo_some h_z12))) (fo_cs0 (ff_X13_open (by first | omega | decide)) (pf_sub (by decide) pf_0) h_z2 (fun z4 h_z4 => (fo_if (hgo 1 _ _ _ _ _ _ _ z4 h_z4) (fo_rdF (fun v5 => (fo_if (fo_cs1 (ff_X13_free) (pf_sub (by decide) pf_0) h_z4 (fun v7 z6 h_z6 => (fo_if (fo_cs1 (ff_X13_fails) (pf_sub (by decide) pf_0) h_z6 (fun v11 z10 h_z10 => (fo_some h_z10))) (fo_cs0 (ff_X12_clear (by first | omega | decide)) (pf_sub (by decide) pf_0) h_z6 (fun z8 h_z8 => (fo_cs0 (ff_X12_signsOf (by first | omega | decide) (by first | omega | decide)) (pf_sub (by decide) pf_0) h_z8 (fun z9 h_z9 => (hgo 2 _ _ _ _ _ _ _ z9 h_z9)))))))) (hgo 1 _ _ _ _ _ _ _ z4 h_z4))))))))))))
theorem fb_X13_reverse_1 {K : Nat} {z0 z : ow_MS}  {go : Nat → Int32 → Int32 → Int32 → Int32 → Int32 → Int32 → Int32 → ow_MS → Option (Int32 × ow_MS)} {x1 : Int32} {x2 : Int32} {x3 : Int32} {x4 : Int32} {x5 : Int32} {x6 : Int32} {t0 : Int32}  (hgo : ∀ (L : Nat) (x1 : Int32) (x2 : Int32) (x3 : Int32) (x4 : Int32) (x5 : Int32) (x6 : Int32) (t0 : Int32) (z : ow_MS), fr (pf [1, 2, 3, 4, 5, 6, 7, 8, 9, 12] []) z0 z → Fo Prod.snd (pf [1, 2, 3, 4, 5, 6, 7, 8, 9, 12] []) z0 (go L x1 x2 x3 x4 x5 x6 t0 z)) (hz : fr (pf [1, 2, 3, 4, 5, 6, 7, 8, 9, 12] []) z0 z)  : Fo Prod.snd (pf [1, 2, 3, 4, 5, 6, 7, 8, 9, 12] []) z0 (qm_X13_reverse_1 K go x1 x2 x3 x4 x5 x6 t0 z) := by
  unfold qm_X13_reverse_1
  exact (fo_cs1 (ff_X13_fails) (pf_sub (by decide) pf_0) hz (fun v15 z14 h_z14 => (fo_some h_z14)))
theorem fb_X13_reverse_2 {K : Nat} {z0 z : ow_MS}  {go : Nat → Int32 → Int32 → Int32 → Int32 → Int32 → Int32 → Int32 → ow_MS → Option (Int32 × ow_MS)} {x1 : Int32} {x2 : Int32} {x3 : Int32} {x4 : Int32} {x5 : Int32} {x6 : Int32} {t0 : Int32}  (hgo : ∀ (L : Nat) (x1 : Int32) (x2 : Int32) (x3 : Int32) (x4 : Int32) (x5 : Int32) (x6 : Int32) (t0 : Int32) (z : ow_MS), fr (pf [1, 2, 3, 4, 5, 6, 7, 8, 9, 12] []) z0 z → Fo Prod.snd (pf [1, 2, 3, 4, 5, 6, 7, 8, 9, 12] []) z0 (go L x1 x2 x3 x4 x5 x6 t0 z)) (hz : fr (pf [1, 2, 3, 4, 5, 6, 7, 8, 9, 12] []) z0 z)  : Fo Prod.snd (pf [1, 2, 3, 4, 5, 6, 7, 8, 9, 12] []) z0 (qm_X13_reverse_2 K go x1 x2 x3 x4 x5 x6 t0 z) := by
  unfold qm_X13_reverse_2
  exact (fo_rdF (fun v16 => (fo_if (fo_cs1 (ff_X13_keep) (pf_sub (by decide) pf_0) hz (fun v18 z17 h_z17 => (fo_some h_z17))) (fo_if (hgo 3 _ _ _ _ _ _ _ z hz) (fo_if (hgo 3 _ _ _ _ _ _ _ z hz) (hgo 4 _ _ _ _ _ _ _ z hz))))))
theorem fb_X13_reverse_3 {K : Nat} {z0 z : ow_MS}  {go : Nat → Int32 → Int32 → Int32 → Int32 → Int32 → Int32 → Int32 → ow_MS → Option (Int32 × ow_MS)} {x1 : Int32} {x2 : Int32} {x3 : Int32} {x4 : Int32} {x5 : Int32} {x6 : Int32} {t0 : Int32}  (hgo : ∀ (L : Nat) (x1 : Int32) (x2 : Int32) (x3 : Int32) (x4 : Int32) (x5 : Int32) (x6 : Int32) (t0 : Int32) (z : ow_MS), fr (pf [1, 2, 3, 4, 5, 6, 7, 8, 9, 12] []) z0 z → Fo Prod.snd (pf [1, 2, 3, 4, 5, 6, 7, 8, 9, 12] []) z0 (go L x1 x2 x3 x4 x5 x6 t0 z)) (hz : fr (pf [1, 2, 3, 4, 5, 6, 7, 8, 9, 12] []) z0 z)  : Fo Prod.snd (pf [1, 2, 3, 4, 5, 6, 7, 8, 9, 12] []) z0 (qm_X13_reverse_3 K go x1 x2 x3 x4 x5 x6 t0 z) := by
  unfold qm_X13_reverse_3
  exact (hgo 4 _ _ _ _ _ _ _ z hz)
theorem fb_X13_reverse_4 {K : Nat} {z0 z : ow_MS}  {go : Nat → Int32 → Int32 → Int32 → Int32 → Int32 → Int32 → Int32 → ow_MS → Option (Int32 × ow_MS)} {x1 : Int32} {x2 : Int32} {x3 : Int32} {x4 : Int32} {x5 : Int32} {x6 : Int32} {t0 : Int32}  (hgo : ∀ (L : Nat) (x1 : Int32) (x2 : Int32) (x3 : Int32) (x4 : Int32) (x5 : Int32) (x6 : Int32) (t0 : Int32) (z : ow_MS), fr (pf [1, 2, 3, 4, 5, 6, 7, 8, 9, 12] []) z0 z → Fo Prod.snd (pf [1, 2, 3, 4, 5, 6, 7, 8, 9, 12] []) z0 (go L x1 x2 x3 x4 x5 x6 t0 z)) (hz : fr (pf [1, 2, 3, 4, 5, 6, 7, 8, 9, 12] []) z0 z)  : Fo Prod.snd (pf [1, 2, 3, 4, 5, 6, 7, 8, 9, 12] []) z0 (qm_X13_reverse_4 K go x1 x2 x3 x4 x5 x6 t0 z) := by
  unfold qm_X13_reverse_4
  exact (hgo 5 _ _ _ _ _ _ _ z hz)
theorem fb_X13_reverse_5 {K : Nat} {z0 z : ow_MS}  {go : Nat → Int32 → Int32 → Int32 → Int32 → Int32 → Int32 → Int32 → ow_MS → Option (Int32 × ow_MS)} {x1 : Int32} {x2 : Int32} {x3 : Int32} {x4 : Int32} {x5 : Int32} {x6 : Int32} {t0 : Int32}  (hgo : ∀ (L : Nat) (x1 : Int32) (x2 : Int32) (x3 : Int32) (x4 : Int32) (x5 : Int32) (x6 : Int32) (t0 : Int32) (z : ow_MS), fr (pf [1, 2, 3, 4, 5, 6, 7, 8, 9, 12] []) z0 z → Fo Prod.snd (pf [1, 2, 3, 4, 5, 6, 7, 8, 9, 12] []) z0 (go L x1 x2 x3 x4 x5 x6 t0 z)) (hz : fr (pf [1, 2, 3, 4, 5, 6, 7, 8, 9, 12] []) z0 z)  : Fo Prod.snd (pf [1, 2, 3, 4, 5, 6, 7, 8, 9, 12] []) z0 (qm_X13_reverse_5 K go x1 x2 x3 x4 x5 x6 t0 z) := by
  unfold qm_X13_reverse_5
  exact (fo_rdI (fun v19 => (fo_rdI (fun v20 => (fo_if (fo_cs0 (ff_X12_end (by first | omega | decide)) (pf_sub (by decide) pf_0) hz (fun z21 h_z21 => (hgo 2 _ _ _ _ _ _ _ z21 h_z21))) (fo_if (fo_rdI (fun v22 => (hgo 6 _ _ _ _ _ _ _ z hz))) (fo_rdI (fun v23 => (hgo 6 _ _ _ _ _ _ _ z hz)))))))))
theorem fb_X13_reverse_6 {K : Nat} {z0 z : ow_MS}  {go : Nat → Int32 → Int32 → Int32 → Int32 → Int32 → Int32 → Int32 → ow_MS → Option (Int32 × ow_MS)} {x1 : Int32} {x2 : Int32} {x3 : Int32} {x4 : Int32} {x5 : Int32} {x6 : Int32} {t0 : Int32}  (hgo : ∀ (L : Nat) (x1 : Int32) (x2 : Int32) (x3 : Int32) (x4 : Int32) (x5 : Int32) (x6 : Int32) (t0 : Int32) (z : ow_MS), fr (pf [1, 2, 3, 4, 5, 6, 7, 8, 9, 12] []) z0 z → Fo Prod.snd (pf [1, 2, 3, 4, 5, 6, 7, 8, 9, 12] []) z0 (go L x1 x2 x3 x4 x5 x6 t0 z)) (hz : fr (pf [1, 2, 3, 4, 5, 6, 7, 8, 9, 12] []) z0 z)  : Fo Prod.snd (pf [1, 2, 3, 4, 5, 6, 7, 8, 9, 12] []) z0 (qm_X13_reverse_6 K go x1 x2 x3 x4 x5 x6 t0 z) := by
  unfold qm_X13_reverse_6
  exact (fo_rdI (fun v24 => (fo_rdI (fun v25 => (fo_cs0 (ff_X12_add (by first | omega | decide)) (pf_sub (by decide) pf_0) hz (fun z26 h_z26 => (fo_if (hgo 7 _ _ _ _ _ _ _ z26 h_z26) (fo_if (hgo 7 _ _ _ _ _ _ _ z26 h_z26) (fo_rdI (fun v27 => (fo_rdI (fun v28 => (fo_if (hgo 7 _ _ _ _ _ _ _ z26 h_z26) (fo_rdI (fun v29 => (fo_rdI (fun v30 => (fo_rdI (fun v31 => (fo_wrI (Or.inr (Or.inr (by decide))) h_z26 (fun z32 h_z32 => (hgo 7 _ _ _ _ _ _ _ z32 h_z32))))))))))))))))))))))
theorem fb_X13_reverse_7 {K : Nat} {z0 z : ow_MS}  {go : Nat → Int32 → Int32 → Int32 → Int32 → Int32 → Int32 → Int32 → ow_MS → Option (Int32 × ow_MS)} {x1 : Int32} {x2 : Int32} {x3 : Int32} {x4 : Int32} {x5 : Int32} {x6 : Int32} {t0 : Int32}  (hgo : ∀ (L : Nat) (x1 : Int32) (x2 : Int32) (x3 : Int32) (x4 : Int32) (x5 : Int32) (x6 : Int32) (t0 : Int32) (z : ow_MS), fr (pf [1, 2, 3, 4, 5, 6, 7, 8, 9, 12] []) z0 z → Fo Prod.snd (pf [1, 2, 3, 4, 5, 6, 7, 8, 9, 12] []) z0 (go L x1 x2 x3 x4 x5 x6 t0 z)) (hz : fr (pf [1, 2, 3, 4, 5, 6, 7, 8, 9, 12] []) z0 z)  : Fo Prod.snd (pf [1, 2, 3, 4, 5, 6, 7, 8, 9, 12] []) z0 (qm_X13_reverse_7 K go x1 x2 x3 x4 x5 x6 t0 z) := by
  unfold qm_X13_reverse_7
  exact (hgo 5 _ _ _ _ _ _ _ z hz)
theorem fq_X13_reverse {K : Nat} {z0 : ow_MS}   : ∀ (k L : Nat) (x1 : Int32) (x2 : Int32) (x3 : Int32) (x4 : Int32) (x5 : Int32) (x6 : Int32) (t0 : Int32) (z : ow_MS), fr (pf [1, 2, 3, 4, 5, 6, 7, 8, 9, 12] []) z0 z → Fo Prod.snd (pf [1, 2, 3, 4, 5, 6, 7, 8, 9, 12] []) z0 (q_X13_reverse K k L x1 x2 x3 x4 x5 x6 t0 z)
  | 0 => by
    intros
    exact fo_none
  | k + 1 => by
    intro L x1 x2 x3 x4 x5 x6 t0 z hz 
    show Fo Prod.snd (pf [1, 2, 3, 4, 5, 6, 7, 8, 9, 12] []) z0 (qb_X13_reverse K (q_X13_reverse K k) L x1 x2 x3 x4 x5 x6 t0 z)
    unfold qb_X13_reverse
    split
    · exact fb_X13_reverse_0 (fq_X13_reverse k) hz 
    · exact fb_X13_reverse_1 (fq_X13_reverse k) hz 
    · exact fb_X13_reverse_2 (fq_X13_reverse k) hz 
    · exact fb_X13_reverse_3 (fq_X13_reverse k) hz 
    · exact fb_X13_reverse_4 (fq_X13_reverse k) hz 
    · exact fb_X13_reverse_5 (fq_X13_reverse k) hz 
    · exact fb_X13_reverse_6 (fq_X13_reverse k) hz 
    · exact fb_X13_reverse_7 (fq_X13_reverse k) hz 
    · exact fo_none
theorem ff_X13_reverse {K : Nat} {x1 : Int32} {x2 : Int32} {z : ow_MS}  : Fo Prod.snd (pf [1, 2, 3, 4, 5, 6, 7, 8, 9, 12] []) z (qe_X13_reverse K x1 x2 z) := fq_X13_reverse K 0 _ _ _ _ _ _ _ z fr_rf 
theorem fb_X13_changeIn_0 {K : Nat} {z0 z : ow_MS}  {go : Nat → Int32 → Int32 → Nat → ow_MS → Option ow_MS} {x1 : Int32} {x2 : Int32} {r0 : Nat}  (hgo : ∀ (L : Nat) (x1 : Int32) (x2 : Int32) (r0 : Nat) (z : ow_MS), fr (pf [] []) z0 z → (L = 0 ∨ L = 1 ∨ L = 2 → 1000 ≤ r0) → Fo id (pf [] []) z0 (go L x1 x2 r0 z)) (hz : fr (pf [] []) z0 z) (hr0 : 1000 ≤ r0) : Fo id (pf [] []) z0 (qm_X13_changeIn_0 K go x1 x2 r0 z) := by
  unfold qm_X13_changeIn_0
  exact (hgo 1 _ _ _ z hz (fun _ => (by first | omega | decide)))
theorem fb_X13_changeIn_1 {K : Nat} {z0 z : ow_MS}  {go : Nat → Int32 → Int32 → Nat → ow_MS → Option ow_MS} {x1 : Int32} {x2 : Int32} {r0 : Nat}  (hgo : ∀ (L : Nat) (x1 : Int32) (x2 : Int32) (r0 : Nat) (z : ow_MS), fr (pf [] []) z0 z → (L = 0 ∨ L = 1 ∨ L = 2 → 1000 ≤ r0) → Fo id (pf [] []) z0 (go L x1 x2 r0 z)) (hz : fr (pf [] []) z0 z) (hr0 : 1000 ≤ r0) : Fo id (pf [] []) z0 (qm_X13_changeIn_1 K go x1 x2 r0 z) := by
  unfold qm_X13_changeIn_1
  exact (fo_rdF (fun v1 => (fo_if (fo_rdI (fun v2 => (fo_wrI (Or.inr (Or.inr (by omega))) hz (fun z3 h_z3 => (fo_some h_z3))))) (fo_rdI (fun v4 => (fo_if (fo_rdI (fun v5 => (fo_wrI (Or.inr (Or.inr (by omega))) hz (fun z6 h_z6 => (hgo 2 _ _ _ z6 h_z6 (fun _ => (by first | omega | decide))))))) (hgo 2 _ _ _ z hz (fun _ => (by first | omega | decide)))))))))
theorem fb_X13_changeIn_2 {K : Nat} {z0 z : ow_MS}  {go : Nat → Int32 → Int32 → Nat → ow_MS → Option ow_MS} {x1 : Int32} {x2 : Int32} {r0 : Nat}  (hgo : ∀ (L : Nat) (x1 : Int32) (x2 : Int32) (r0 : Nat) (z : ow_MS), fr (pf [] []) z0 z → (L = 0 ∨ L = 1 ∨ L = 2 → 1000 ≤ r0) → Fo id (pf [] []) z0 (go L x1 x2 r0 z)) (hz : fr (pf [] []) z0 z) (hr0 : 1000 ≤ r0) : Fo id (pf [] []) z0 (qm_X13_changeIn_2 K go x1 x2 r0 z) := by
  unfold qm_X13_changeIn_2
  exact (hgo 1 _ _ _ z hz (fun _ => (by first | omega | decide)))
theorem fq_X13_changeIn {K : Nat} {z0 : ow_MS}   : ∀ (k L : Nat) (x1 : Int32) (x2 : Int32) (r0 : Nat) (z : ow_MS), fr (pf [] []) z0 z → (L = 0 ∨ L = 1 ∨ L = 2 → 1000 ≤ r0) → Fo id (pf [] []) z0 (q_X13_changeIn K k L x1 x2 r0 z)
  | 0 => by
    intros
    exact fo_none
  | k + 1 => by
    intro L x1 x2 r0 z hz h9_r0
    show Fo id (pf [] []) z0 (qb_X13_changeIn K (q_X13_changeIn K k) L x1 x2 r0 z)
    unfold qb_X13_changeIn
    split
    · exact fb_X13_changeIn_0 (fq_X13_changeIn k) hz (h9_r0 (by decide))
    · exact fb_X13_changeIn_1 (fq_X13_changeIn k) hz (h9_r0 (by decide))
    · exact fb_X13_changeIn_2 (fq_X13_changeIn k) hz (h9_r0 (by decide))
    · exact fo_none
theorem ff_X13_changeIn {K : Nat} {r0 : Nat} {x1 : Int32} {z : ow_MS} (hr0 : 1000 ≤ r0) : Fo id (pf [] []) z (qe_X13_changeIn K r0 x1 z) := fq_X13_changeIn K 0 _ _ _ z fr_rf (fun _ => (by first | omega | decide))
theorem fb_X13_change_0 {K : Nat} {z0 z : ow_MS}  {go : Nat → Int32 → Int32 → ow_MS → Option (Int32 × ow_MS)} {x1 : Int32} {x2 : Int32}  (hgo : ∀ (L : Nat) (x1 : Int32) (x2 : Int32) (z : ow_MS), fr (pf [1, 2, 3, 4, 5, 6, 7, 8, 9, 12] []) z0 z → Fo Prod.snd (pf [1, 2, 3, 4, 5, 6, 7, 8, 9, 12] []) z0 (go L x1 x2 z)) (hz : fr (pf [1, 2, 3, 4, 5, 6, 7, 8, 9, 12] []) z0 z)  : Fo Prod.snd (pf [1, 2, 3, 4, 5, 6, 7, 8, 9, 12] []) z0 (qm_X13_change_0 K go x1 x2 z) := by
  unfold qm_X13_change_0
  exact (fo_wrF (Or.inl (by decide)) hz (fun z1 h_z1 => (fo_cs1 (ff_X13_has) (pf_sub (by decide) pf_0) h_z1 (fun v3 z2 h_z2 => (fo_if (fo_cs1 (ff_X13_fails) (pf_sub (by decide) pf_0) h_z2 (fun v14 z13 h_z13 => (fo_some h_z13))) (fo_cs0 (ff_X13_open (by first | omega | decide)) (pf_sub (by decide) pf_0) h_z2 (fun z4 h_z4 => (fo_if (hgo 1 _ _ z4 h_z4) (fo_rdF (fun v5 => (fo_nzI (fo_if (fo_cs1 (ff_X13_free) (pf_sub (by decide) pf_0) h_z4 (fun v7 z6 h_z6 => (fo_if (fo_cs1 (ff_X13_fails) (pf_sub (by decide) pf_0) h_z6 (fun v12 z11 h_z11 => (fo_some h_z11))) (fo_cs0 (ff_X13_changeIn (by first | omega | decide)) (pf_sub (by decide) pf_0) h_z6 (fun z8 h_z8 => (fo_cs1 (ff_X13_keep) (pf_sub (by decide) pf_0) h_z8 (fun v10 z9 h_z9 => (fo_some h_z9)))))))) (hgo 1 _ _ z4 h_z4)))))))))))))
theorem fb_X13_change_1 {K : Nat} {z0 z : ow_MS}  {go : Nat → Int32 → Int32 → ow_MS → Option (Int32 × ow_MS)} {x1 : Int32} {x2 : Int32}  (hgo : ∀ (L : Nat) (x1 : Int32) (x2 : Int32) (z : ow_MS), fr (pf [1, 2, 3, 4, 5, 6, 7, 8, 9, 12] []) z0 z → Fo Prod.snd (pf [1, 2, 3, 4, 5, 6, 7, 8, 9, 12] []) z0 (go L x1 x2 z)) (hz : fr (pf [1, 2, 3, 4, 5, 6, 7, 8, 9, 12] []) z0 z)  : Fo Prod.snd (pf [1, 2, 3, 4, 5, 6, 7, 8, 9, 12] []) z0 (qm_X13_change_1 K go x1 x2 z) := by
  unfold qm_X13_change_1
  exact (fo_cs1 (ff_X13_fails) (pf_sub (by decide) pf_0) hz (fun v16 z15 h_z15 => (fo_some h_z15)))
theorem fq_X13_change {K : Nat} {z0 : ow_MS}   : ∀ (k L : Nat) (x1 : Int32) (x2 : Int32) (z : ow_MS), fr (pf [1, 2, 3, 4, 5, 6, 7, 8, 9, 12] []) z0 z → Fo Prod.snd (pf [1, 2, 3, 4, 5, 6, 7, 8, 9, 12] []) z0 (q_X13_change K k L x1 x2 z)
  | 0 => by
    intros
    exact fo_none
  | k + 1 => by
    intro L x1 x2 z hz 
    show Fo Prod.snd (pf [1, 2, 3, 4, 5, 6, 7, 8, 9, 12] []) z0 (qb_X13_change K (q_X13_change K k) L x1 x2 z)
    unfold qb_X13_change
    split
    · exact fb_X13_change_0 (fq_X13_change k) hz 
    · exact fb_X13_change_1 (fq_X13_change k) hz 
    · exact fo_none
theorem ff_X13_change {K : Nat} {x1 : Int32} {x2 : Int32} {z : ow_MS}  : Fo Prod.snd (pf [1, 2, 3, 4, 5, 6, 7, 8, 9, 12] []) z (qe_X13_change K x1 x2 z) := fq_X13_change K 0 _ _ z fr_rf 
theorem fb_X13_smoothIn_0 {K : Nat} {z0 z : ow_MS}  {go : Nat → Int32 → Int32 → Int32 → Int32 → Int32 → Int32 → Int32 → Nat → Nat → Int32 → ow_MS → Option ow_MS} {x1 : Int32} {x2 : Int32} {x3 : Int32} {x5 : Int32} {x6 : Int32} {x7 : Int32} {x8 : Int32} {r0 : Nat} {r4 : Nat} {t0 : Int32}  (hgo : ∀ (L : Nat) (x1 : Int32) (x2 : Int32) (x3 : Int32) (x5 : Int32) (x6 : Int32) (x7 : Int32) (x8 : Int32) (r0 : Nat) (r4 : Nat) (t0 : Int32) (z : ow_MS), fr (pf [] []) z0 z → (L = 0 ∨ L = 1 ∨ L = 2 ∨ L = 3 ∨ L = 4 ∨ L = 5 ∨ L = 6 ∨ L = 7 ∨ L = 8 ∨ L = 9 ∨ L = 10 ∨ L = 11 ∨ L = 12 ∨ L = 13 → 1000 ≤ r0) → (L = 0 ∨ L = 1 ∨ L = 2 ∨ L = 3 ∨ L = 4 ∨ L = 5 ∨ L = 6 ∨ L = 7 ∨ L = 8 ∨ L = 9 ∨ L = 10 ∨ L = 11 ∨ L = 12 ∨ L = 13 → 1000 ≤ r4) → Fo id (pf [] []) z0 (go L x1 x2 x3 x5 x6 x7 x8 r0 r4 t0 z)) (hz : fr (pf [] []) z0 z) (hr0 : 1000 ≤ r0) (hr4 : 1000 ≤ r4) : Fo id (pf [] []) z0 (qm_X13_smoothIn_0 K go x1 x2 x3 x5 x6 x7 x8 r0 r4 t0 z) := by
  unfold qm_X13_smoothIn_0
  exact (fo_cs0 (ff_X12_clear (by first | omega | decide)) (pf_sub (by decide) pf_0) hz (fun z1 h_z1 => (fo_cs0 (ff_X12_signsOf (by first | omega | decide) (by first | omega | decide)) (pf_sub (by decide) pf_0) h_z1 (fun z2 h_z2 => (fo_rdI (fun v3 => (fo_if (hgo 1 _ _ _ _ _ _ _ _ _ _ z2 h_z2 (fun _ => (by first | omega | decide)) (fun _ => (by first | omega | decide))) (hgo 1 _ _ _ _ _ _ _ _ _ _ z2 h_z2 (fun _ => (by first | omega | decide)) (fun _ => (by first | omega | decide))))))))))
theorem fb_X13_smoothIn_1 {K : Nat} {z0 z : ow_MS}  {go : Nat → Int32 → Int32 → Int32 → Int32 → Int32 → Int32 → Int32 → Nat → Nat → Int32 → ow_MS → Option ow_MS} {x1 : Int32} {x2 : Int32} {x3 : Int32} {x5 : Int32} {x6 : Int32} {x7 : Int32} {x8 : Int32} {r0 : Nat} {r4 : Nat} {t0 : Int32}  (hgo : ∀ (L : Nat) (x1 : Int32) (x2 : Int32) (x3 : Int32) (x5 : Int32) (x6 : Int32) (x7 : Int32) (x8 : Int32) (r0 : Nat) (r4 : Nat) (t0 : Int32) (z : ow_MS), fr (pf [] []) z0 z → (L = 0 ∨ L = 1 ∨ L = 2 ∨ L = 3 ∨ L = 4 ∨ L = 5 ∨ L = 6 ∨ L = 7 ∨ L = 8 ∨ L = 9 ∨ L = 10 ∨ L = 11 ∨ L = 12 ∨ L = 13 → 1000 ≤ r0) → (L = 0 ∨ L = 1 ∨ L = 2 ∨ L = 3 ∨ L = 4 ∨ L = 5 ∨ L = 6 ∨ L = 7 ∨ L = 8 ∨ L = 9 ∨ L = 10 ∨ L = 11 ∨ L = 12 ∨ L = 13 → 1000 ≤ r4) → Fo id (pf [] []) z0 (go L x1 x2 x3 x5 x6 x7 x8 r0 r4 t0 z)) (hz : fr (pf [] []) z0 z) (hr0 : 1000 ≤ r0) (hr4 : 1000 ≤ r4) : Fo id (pf [] []) z0 (qm_X13_smoothIn_1 K go x1 x2 x3 x5 x6 x7 x8 r0 r4 t0 z) := by
  unfold qm_X13_smoothIn_1
  exact (hgo 2 _ _ _ _ _ _ _ _ _ _ z hz (fun _ => (by first | omega | decide)) (fun _ => (by first | omega | decide)))
theorem fb_X13_smoothIn_2 {K : Nat} {z0 z : ow_MS}  {go : Nat → Int32 → Int32 → Int32 → Int32 → Int32 → Int32 → Int32 → Nat → Nat → Int32 → ow_MS → Option ow_MS} {x1 : Int32} {x2 : Int32} {x3 : Int32} {x5 : Int32} {x6 : Int32} {x7 : Int32} {x8 : Int32} {r0 : Nat} {r4 : Nat} {t0 : Int32}  (hgo : ∀ (L : Nat) (x1 : Int32) (x2 : Int32) (x3 : Int32) (x5 : Int32) (x6 : Int32) (x7 : Int32) (x8 : Int32) (r0 : Nat) (r4 : Nat) (t0 : Int32) (z : ow_MS), fr (pf [] []) z0 z → (L = 0 ∨ L = 1 ∨ L = 2 ∨ L = 3 ∨ L = 4 ∨ L = 5 ∨ L = 6 ∨ L = 7 ∨ L = 8 ∨ L = 9 ∨ L = 10 ∨ L = 11 ∨ L = 12 ∨ L = 13 → 1000 ≤ r0) → (L = 0 ∨ L = 1 ∨ L = 2 ∨ L = 3 ∨ L = 4 ∨ L = 5 ∨ L = 6 ∨ L = 7 ∨ L = 8 ∨ L = 9 ∨ L = 10 ∨ L = 11 ∨ L = 12 ∨ L = 13 → 1000 ≤ r4) → Fo id (pf [] []) z0 (go L x1 x2 x3 x5 x6 x7 x8 r0 r4 t0 z)) (hz : fr (pf [] []) z0 z) (hr0 : 1000 ≤ r0) (hr4 : 1000 ≤ r4) : Fo id (pf [] []) z0 (qm_X13_smoothIn_2 K go x1 x2 x3 x5 x6 x7 x8 r0 r4 t0 z) := by
  unfold qm_X13_smoothIn_2
  exact (fo_rdF (fun v4 => (fo_if (fo_if (fo_some hz) (hgo 13 _ _ _ _ _ _ _ _ _ _ z hz (fun _ => (by first | omega | decide)) (fun _ => (by first | omega | decide)))) (fo_if (fo_rdI (fun v7 => (hgo 3 _ _ _ _ _ _ _ _ _ _ z hz (fun _ => (by first | omega | decide)) (fun _ => (by first | omega | decide))))) (fo_if (fo_rdI (fun v5 => (fo_if (hgo 10 _ _ _ _ _ _ _ _ _ _ z hz (fun _ => (by first | omega | decide)) (fun _ => (by first | omega | decide))) (fo_rdI (fun v6 => (fo_if (hgo 12 _ _ _ _ _ _ _ _ _ _ z hz (fun _ => (by first | omega | decide)) (fun _ => (by first | omega | decide))) (hgo 10 _ _ _ _ _ _ _ _ _ _ z hz (fun _ => (by first | omega | decide)) (fun _ => (by first | omega | decide))))))))) (hgo 10 _ _ _ _ _ _ _ _ _ _ z hz (fun _ => (by first | omega | decide)) (fun _ => (by first | omega | decide))))))))
theorem fb_X13_smoothIn_3 {K : Nat} {z0 z : ow_MS}  {go : Nat → Int32 → Int32 → Int32 → Int32 → Int32 → Int32 → Int32 → Nat → Nat → Int32 → ow_MS → Option ow_MS} {x1 : Int32} {x2 : Int32} {x3 : Int32} {x5 : Int32} {x6 : Int32} {x7 : Int32} {x8 : Int32} {r0 : Nat} {r4 : Nat} {t0 : Int32}  (hgo : ∀ (L : Nat) (x1 : Int32) (x2 : Int32) (x3 : Int32) (x5 : Int32) (x6 : Int32) (x7 : Int32) (x8 : Int32) (r0 : Nat) (r4 : Nat) (t0 : Int32) (z : ow_MS), fr (pf [] []) z0 z → (L = 0 ∨ L = 1 ∨ L = 2 ∨ L = 3 ∨ L = 4 ∨ L = 5 ∨ L = 6 ∨ L = 7 ∨ L = 8 ∨ L = 9 ∨ L = 10 ∨ L = 11 ∨ L = 12 ∨ L = 13 → 1000 ≤ r0) → (L = 0 ∨ L = 1 ∨ L = 2 ∨ L = 3 ∨ L = 4 ∨ L = 5 ∨ L = 6 ∨ L = 7 ∨ L = 8 ∨ L = 9 ∨ L = 10 ∨ L = 11 ∨ L = 12 ∨ L = 13 → 1000 ≤ r4) → Fo id (pf [] []) z0 (go L x1 x2 x3 x5 x6 x7 x8 r0 r4 t0 z)) (hz : fr (pf [] []) z0 z) (hr0 : 1000 ≤ r0) (hr4 : 1000 ≤ r4) : Fo id (pf [] []) z0 (qm_X13_smoothIn_3 K go x1 x2 x3 x5 x6 x7 x8 r0 r4 t0 z) := by
  unfold qm_X13_smoothIn_3
  exact (fo_if (fo_if (hgo 5 _ _ _ _ _ _ _ _ _ _ z hz (fun _ => (by first | omega | decide)) (fun _ => (by first | omega | decide))) (hgo 4 _ _ _ _ _ _ _ _ _ _ z hz (fun _ => (by first | omega | decide)) (fun _ => (by first | omega | decide)))) (fo_rdI (fun v8 => (fo_rdI (fun v9 => (fo_cs0 (ff_X12_add (by first | omega | decide)) (pf_sub (by decide) pf_0) hz (fun z10 h_z10 => (hgo 3 _ _ _ _ _ _ _ _ _ _ z10 h_z10 (fun _ => (by first | omega | decide)) (fun _ => (by first | omega | decide))))))))))
theorem fb_X13_smoothIn_4 {K : Nat} {z0 z : ow_MS}  {go : Nat → Int32 → Int32 → Int32 → Int32 → Int32 → Int32 → Int32 → Nat → Nat → Int32 → ow_MS → Option ow_MS} {x1 : Int32} {x2 : Int32} {x3 : Int32} {x5 : Int32} {x6 : Int32} {x7 : Int32} {x8 : Int32} {r0 : Nat} {r4 : Nat} {t0 : Int32}  (hgo : ∀ (L : Nat) (x1 : Int32) (x2 : Int32) (x3 : Int32) (x5 : Int32) (x6 : Int32) (x7 : Int32) (x8 : Int32) (r0 : Nat) (r4 : Nat) (t0 : Int32) (z : ow_MS), fr (pf [] []) z0 z → (L = 0 ∨ L = 1 ∨ L = 2 ∨ L = 3 ∨ L = 4 ∨ L = 5 ∨ L = 6 ∨ L = 7 ∨ L = 8 ∨ L = 9 ∨ L = 10 ∨ L = 11 ∨ L = 12 ∨ L = 13 → 1000 ≤ r0) → (L = 0 ∨ L = 1 ∨ L = 2 ∨ L = 3 ∨ L = 4 ∨ L = 5 ∨ L = 6 ∨ L = 7 ∨ L = 8 ∨ L = 9 ∨ L = 10 ∨ L = 11 ∨ L = 12 ∨ L = 13 → 1000 ≤ r4) → Fo id (pf [] []) z0 (go L x1 x2 x3 x5 x6 x7 x8 r0 r4 t0 z)) (hz : fr (pf [] []) z0 z) (hr0 : 1000 ≤ r0) (hr4 : 1000 ≤ r4) : Fo id (pf [] []) z0 (qm_X13_smoothIn_4 K go x1 x2 x3 x5 x6 x7 x8 r0 r4 t0 z) := by
  unfold qm_X13_smoothIn_4
  exact (fo_rdI (fun v11 => (fo_if (hgo 9 _ _ _ _ _ _ _ _ _ _ z hz (fun _ => (by first | omega | decide)) (fun _ => (by first | omega | decide))) (fo_rdI (fun v12 => (fo_rdI (fun v13 => (fo_cs0 (ff_X12_add (by first | omega | decide)) (pf_sub (by decide) pf_0) hz (fun z14 h_z14 => (hgo 4 _ _ _ _ _ _ _ _ _ _ z14 h_z14 (fun _ => (by first | omega | decide)) (fun _ => (by first | omega | decide))))))))))))
theorem fb_X13_smoothIn_5 {K : Nat} {z0 z : ow_MS}  {go : Nat → Int32 → Int32 → Int32 → Int32 → Int32 → Int32 → Int32 → Nat → Nat → Int32 → ow_MS → Option ow_MS} {x1 : Int32} {x2 : Int32} {x3 : Int32} {x5 : Int32} {x6 : Int32} {x7 : Int32} {x8 : Int32} {r0 : Nat} {r4 : Nat} {t0 : Int32}  (hgo : ∀ (L : Nat) (x1 : Int32) (x2 : Int32) (x3 : Int32) (x5 : Int32) (x6 : Int32) (x7 : Int32) (x8 : Int32) (r0 : Nat) (r4 : Nat) (t0 : Int32) (z : ow_MS), fr (pf [] []) z0 z → (L = 0 ∨ L = 1 ∨ L = 2 ∨ L = 3 ∨ L = 4 ∨ L = 5 ∨ L = 6 ∨ L = 7 ∨ L = 8 ∨ L = 9 ∨ L = 10 ∨ L = 11 ∨ L = 12 ∨ L = 13 → 1000 ≤ r0) → (L = 0 ∨ L = 1 ∨ L = 2 ∨ L = 3 ∨ L = 4 ∨ L = 5 ∨ L = 6 ∨ L = 7 ∨ L = 8 ∨ L = 9 ∨ L = 10 ∨ L = 11 ∨ L = 12 ∨ L = 13 → 1000 ≤ r4) → Fo id (pf [] []) z0 (go L x1 x2 x3 x5 x6 x7 x8 r0 r4 t0 z)) (hz : fr (pf [] []) z0 z) (hr0 : 1000 ≤ r0) (hr4 : 1000 ≤ r4) : Fo id (pf [] []) z0 (qm_X13_smoothIn_5 K go x1 x2 x3 x5 x6 x7 x8 r0 r4 t0 z) := by
  unfold qm_X13_smoothIn_5
  exact (fo_rdI (fun v15 => (fo_if (hgo 6 _ _ _ _ _ _ _ _ _ _ z hz (fun _ => (by first | omega | decide)) (fun _ => (by first | omega | decide))) (hgo 5 _ _ _ _ _ _ _ _ _ _ z hz (fun _ => (by first | omega | decide)) (fun _ => (by first | omega | decide))))))
theorem fb_X13_smoothIn_6 {K : Nat} {z0 z : ow_MS}  {go : Nat → Int32 → Int32 → Int32 → Int32 → Int32 → Int32 → Int32 → Nat → Nat → Int32 → ow_MS → Option ow_MS} {x1 : Int32} {x2 : Int32} {x3 : Int32} {x5 : Int32} {x6 : Int32} {x7 : Int32} {x8 : Int32} {r0 : Nat} {r4 : Nat} {t0 : Int32}  (hgo : ∀ (L : Nat) (x1 : Int32) (x2 : Int32) (x3 : Int32) (x5 : Int32) (x6 : Int32) (x7 : Int32) (x8 : Int32) (r0 : Nat) (r4 : Nat) (t0 : Int32) (z : ow_MS), fr (pf [] []) z0 z → (L = 0 ∨ L = 1 ∨ L = 2 ∨ L = 3 ∨ L = 4 ∨ L = 5 ∨ L = 6 ∨ L = 7 ∨ L = 8 ∨ L = 9 ∨ L = 10 ∨ L = 11 ∨ L = 12 ∨ L = 13 → 1000 ≤ r0) → (L = 0 ∨ L = 1 ∨ L = 2 ∨ L = 3 ∨ L = 4 ∨ L = 5 ∨ L = 6 ∨ L = 7 ∨ L = 8 ∨ L = 9 ∨ L = 10 ∨ L = 11 ∨ L = 12 ∨ L = 13 → 1000 ≤ r4) → Fo id (pf [] []) z0 (go L x1 x2 x3 x5 x6 x7 x8 r0 r4 t0 z)) (hz : fr (pf [] []) z0 z) (hr0 : 1000 ≤ r0) (hr4 : 1000 ≤ r4) : Fo id (pf [] []) z0 (qm_X13_smoothIn_6 K go x1 x2 x3 x5 x6 x7 x8 r0 r4 t0 z) := by
  unfold qm_X13_smoothIn_6
  exact (fo_rdI (fun v16 => (fo_if (fo_rdI (fun v17 => (hgo 7 _ _ _ _ _ _ _ _ _ _ z hz (fun _ => (by first | omega | decide)) (fun _ => (by first | omega | decide))))) (fo_rdI (fun v18 => (fo_rdI (fun v19 => (fo_cs0 (ff_X12_add (by first | omega | decide)) (pf_sub (by decide) pf_0) hz (fun z20 h_z20 => (hgo 6 _ _ _ _ _ _ _ _ _ _ z20 h_z20 (fun _ => (by first | omega | decide)) (fun _ => (by first | omega | decide))))))))))))
theorem fb_X13_smoothIn_7 {K : Nat} {z0 z : ow_MS}  {go : Nat → Int32 → Int32 → Int32 → Int32 → Int32 → Int32 → Int32 → Nat → Nat → Int32 → ow_MS → Option ow_MS} {x1 : Int32} {x2 : Int32} {x3 : Int32} {x5 : Int32} {x6 : Int32} {x7 : Int32} {x8 : Int32} {r0 : Nat} {r4 : Nat} {t0 : Int32}  (hgo : ∀ (L : Nat) (x1 : Int32) (x2 : Int32) (x3 : Int32) (x5 : Int32) (x6 : Int32) (x7 : Int32) (x8 : Int32) (r0 : Nat) (r4 : Nat) (t0 : Int32) (z : ow_MS), fr (pf [] []) z0 z → (L = 0 ∨ L = 1 ∨ L = 2 ∨ L = 3 ∨ L = 4 ∨ L = 5 ∨ L = 6 ∨ L = 7 ∨ L = 8 ∨ L = 9 ∨ L = 10 ∨ L = 11 ∨ L = 12 ∨ L = 13 → 1000 ≤ r0) → (L = 0 ∨ L = 1 ∨ L = 2 ∨ L = 3 ∨ L = 4 ∨ L = 5 ∨ L = 6 ∨ L = 7 ∨ L = 8 ∨ L = 9 ∨ L = 10 ∨ L = 11 ∨ L = 12 ∨ L = 13 → 1000 ≤ r4) → Fo id (pf [] []) z0 (go L x1 x2 x3 x5 x6 x7 x8 r0 r4 t0 z)) (hz : fr (pf [] []) z0 z) (hr0 : 1000 ≤ r0) (hr4 : 1000 ≤ r4) : Fo id (pf [] []) z0 (qm_X13_smoothIn_7 K go x1 x2 x3 x5 x6 x7 x8 r0 r4 t0 z) := by
  unfold qm_X13_smoothIn_7
  exact (fo_if (hgo 8 _ _ _ _ _ _ _ _ _ _ z hz (fun _ => (by first | omega | decide)) (fun _ => (by first | omega | decide))) (fo_rdI (fun v21 => (fo_rdI (fun v22 => (fo_cs0 (ff_X12_add (by first | omega | decide)) (pf_sub (by decide) pf_0) hz (fun z23 h_z23 => (hgo 7 _ _ _ _ _ _ _ _ _ _ z23 h_z23 (fun _ => (by first | omega | decide)) (fun _ => (by first | omega | decide))))))))))
theorem fb_X13_smoothIn_8 {K : Nat} {z0 z : ow_MS}  {go : Nat → Int32 → Int32 → Int32 → Int32 → Int32 → Int32 → Int32 → Nat → Nat → Int32 → ow_MS → Option ow_MS} {x1 : Int32} {x2 : Int32} {x3 : Int32} {x5 : Int32} {x6 : Int32} {x7 : Int32} {x8 : Int32} {r0 : Nat} {r4 : Nat} {t0 : Int32}  (hgo : ∀ (L : Nat) (x1 : Int32) (x2 : Int32) (x3 : Int32) (x5 : Int32) (x6 : Int32) (x7 : Int32) (x8 : Int32) (r0 : Nat) (r4 : Nat) (t0 : Int32) (z : ow_MS), fr (pf [] []) z0 z → (L = 0 ∨ L = 1 ∨ L = 2 ∨ L = 3 ∨ L = 4 ∨ L = 5 ∨ L = 6 ∨ L = 7 ∨ L = 8 ∨ L = 9 ∨ L = 10 ∨ L = 11 ∨ L = 12 ∨ L = 13 → 1000 ≤ r0) → (L = 0 ∨ L = 1 ∨ L = 2 ∨ L = 3 ∨ L = 4 ∨ L = 5 ∨ L = 6 ∨ L = 7 ∨ L = 8 ∨ L = 9 ∨ L = 10 ∨ L = 11 ∨ L = 12 ∨ L = 13 → 1000 ≤ r4) → Fo id (pf [] []) z0 (go L x1 x2 x3 x5 x6 x7 x8 r0 r4 t0 z)) (hz : fr (pf [] []) z0 z) (hr0 : 1000 ≤ r0) (hr4 : 1000 ≤ r4) : Fo id (pf [] []) z0 (qm_X13_smoothIn_8 K go x1 x2 x3 x5 x6 x7 x8 r0 r4 t0 z) := by
  unfold qm_X13_smoothIn_8
  exact (fo_rdI (fun v24 => (fo_if (hgo 9 _ _ _ _ _ _ _ _ _ _ z hz (fun _ => (by first | omega | decide)) (fun _ => (by first | omega | decide))) (fo_rdI (fun v25 => (fo_rdI (fun v26 => (fo_cs0 (ff_X12_add (by first | omega | decide)) (pf_sub (by decide) pf_0) hz (fun z27 h_z27 => (hgo 8 _ _ _ _ _ _ _ _ _ _ z27 h_z27 (fun _ => (by first | omega | decide)) (fun _ => (by first | omega | decide))))))))))))
theorem fb_X13_smoothIn_9 {K : Nat} {z0 z : ow_MS}  {go : Nat → Int32 → Int32 → Int32 → Int32 → Int32 → Int32 → Int32 → Nat → Nat → Int32 → ow_MS → Option ow_MS} {x1 : Int32} {x2 : Int32} {x3 : Int32} {x5 : Int32} {x6 : Int32} {x7 : Int32} {x8 : Int32} {r0 : Nat} {r4 : Nat} {t0 : Int32}  (hgo : ∀ (L : Nat) (x1 : Int32) (x2 : Int32) (x3 : Int32) (x5 : Int32) (x6 : Int32) (x7 : Int32) (x8 : Int32) (r0 : Nat) (r4 : Nat) (t0 : Int32) (z : ow_MS), fr (pf [] []) z0 z → (L = 0 ∨ L = 1 ∨ L = 2 ∨ L = 3 ∨ L = 4 ∨ L = 5 ∨ L = 6 ∨ L = 7 ∨ L = 8 ∨ L = 9 ∨ L = 10 ∨ L = 11 ∨ L = 12 ∨ L = 13 → 1000 ≤ r0) → (L = 0 ∨ L = 1 ∨ L = 2 ∨ L = 3 ∨ L = 4 ∨ L = 5 ∨ L = 6 ∨ L = 7 ∨ L = 8 ∨ L = 9 ∨ L = 10 ∨ L = 11 ∨ L = 12 ∨ L = 13 → 1000 ≤ r4) → Fo id (pf [] []) z0 (go L x1 x2 x3 x5 x6 x7 x8 r0 r4 t0 z)) (hz : fr (pf [] []) z0 z) (hr0 : 1000 ≤ r0) (hr4 : 1000 ≤ r4) : Fo id (pf [] []) z0 (qm_X13_smoothIn_9 K go x1 x2 x3 x5 x6 x7 x8 r0 r4 t0 z) := by
  unfold qm_X13_smoothIn_9
  exact (fo_cs0 (ff_X12_end (by first | omega | decide)) (pf_sub (by decide) pf_0) hz (fun z28 h_z28 => (hgo 12 _ _ _ _ _ _ _ _ _ _ z28 h_z28 (fun _ => (by first | omega | decide)) (fun _ => (by first | omega | decide)))))
theorem fb_X13_smoothIn_10 {K : Nat} {z0 z : ow_MS}  {go : Nat → Int32 → Int32 → Int32 → Int32 → Int32 → Int32 → Int32 → Nat → Nat → Int32 → ow_MS → Option ow_MS} {x1 : Int32} {x2 : Int32} {x3 : Int32} {x5 : Int32} {x6 : Int32} {x7 : Int32} {x8 : Int32} {r0 : Nat} {r4 : Nat} {t0 : Int32}  (hgo : ∀ (L : Nat) (x1 : Int32) (x2 : Int32) (x3 : Int32) (x5 : Int32) (x6 : Int32) (x7 : Int32) (x8 : Int32) (r0 : Nat) (r4 : Nat) (t0 : Int32) (z : ow_MS), fr (pf [] []) z0 z → (L = 0 ∨ L = 1 ∨ L = 2 ∨ L = 3 ∨ L = 4 ∨ L = 5 ∨ L = 6 ∨ L = 7 ∨ L = 8 ∨ L = 9 ∨ L = 10 ∨ L = 11 ∨ L = 12 ∨ L = 13 → 1000 ≤ r0) → (L = 0 ∨ L = 1 ∨ L = 2 ∨ L = 3 ∨ L = 4 ∨ L = 5 ∨ L = 6 ∨ L = 7 ∨ L = 8 ∨ L = 9 ∨ L = 10 ∨ L = 11 ∨ L = 12 ∨ L = 13 → 1000 ≤ r4) → Fo id (pf [] []) z0 (go L x1 x2 x3 x5 x6 x7 x8 r0 r4 t0 z)) (hz : fr (pf [] []) z0 z) (hr0 : 1000 ≤ r0) (hr4 : 1000 ≤ r4) : Fo id (pf [] []) z0 (qm_X13_smoothIn_10 K go x1 x2 x3 x5 x6 x7 x8 r0 r4 t0 z) := by
  unfold qm_X13_smoothIn_10
  exact (fo_rdI (fun v29 => (hgo 11 _ _ _ _ _ _ _ _ _ _ z hz (fun _ => (by first | omega | decide)) (fun _ => (by first | omega | decide)))))
theorem fb_X13_smoothIn_11 {K : Nat} {z0 z : ow_MS}  {go : Nat → Int32 → Int32 → Int32 → Int32 → Int32 → Int32 → Int32 → Nat → Nat → Int32 → ow_MS → Option ow_MS} {x1 : Int32} {x2 : Int32} {x3 : Int32} {x5 : Int32} {x6 : Int32} {x7 : Int32} {x8 : Int32} {r0 : Nat} {r4 : Nat} {t0 : Int32}  (hgo : ∀ (L : Nat) (x1 : Int32) (x2 : Int32) (x3 : Int32) (x5 : Int32) (x6 : Int32) (x7 : Int32) (x8 : Int32) (r0 : Nat) (r4 : Nat) (t0 : Int32) (z : ow_MS), fr (pf [] []) z0 z → (L = 0 ∨ L = 1 ∨ L = 2 ∨ L = 3 ∨ L = 4 ∨ L = 5 ∨ L = 6 ∨ L = 7 ∨ L = 8 ∨ L = 9 ∨ L = 10 ∨ L = 11 ∨ L = 12 ∨ L = 13 → 1000 ≤ r0) → (L = 0 ∨ L = 1 ∨ L = 2 ∨ L = 3 ∨ L = 4 ∨ L = 5 ∨ L = 6 ∨ L = 7 ∨ L = 8 ∨ L = 9 ∨ L = 10 ∨ L = 11 ∨ L = 12 ∨ L = 13 → 1000 ≤ r4) → Fo id (pf [] []) z0 (go L x1 x2 x3 x5 x6 x7 x8 r0 r4 t0 z)) (hz : fr (pf [] []) z0 z) (hr0 : 1000 ≤ r0) (hr4 : 1000 ≤ r4) : Fo id (pf [] []) z0 (qm_X13_smoothIn_11 K go x1 x2 x3 x5 x6 x7 x8 r0 r4 t0 z) := by
  unfold qm_X13_smoothIn_11
  exact (fo_rdI (fun v30 => (fo_if (fo_cs0 (ff_X12_end (by first | omega | decide)) (pf_sub (by decide) pf_0) hz (fun z31 h_z31 => (hgo 12 _ _ _ _ _ _ _ _ _ _ z31 h_z31 (fun _ => (by first | omega | decide)) (fun _ => (by first | omega | decide))))) (fo_rdI (fun v32 => (fo_rdI (fun v33 => (fo_cs0 (ff_X12_add (by first | omega | decide)) (pf_sub (by decide) pf_0) hz (fun z34 h_z34 => (hgo 11 _ _ _ _ _ _ _ _ _ _ z34 h_z34 (fun _ => (by first | omega | decide)) (fun _ => (by first | omega | decide))))))))))))
theorem fb_X13_smoothIn_12 {K : Nat} {z0 z : ow_MS}  {go : Nat → Int32 → Int32 → Int32 → Int32 → Int32 → Int32 → Int32 → Nat → Nat → Int32 → ow_MS → Option ow_MS} {x1 : Int32} {x2 : Int32} {x3 : Int32} {x5 : Int32} {x6 : Int32} {x7 : Int32} {x8 : Int32} {r0 : Nat} {r4 : Nat} {t0 : Int32}  (hgo : ∀ (L : Nat) (x1 : Int32) (x2 : Int32) (x3 : Int32) (x5 : Int32) (x6 : Int32) (x7 : Int32) (x8 : Int32) (r0 : Nat) (r4 : Nat) (t0 : Int32) (z : ow_MS), fr (pf [] []) z0 z → (L = 0 ∨ L = 1 ∨ L = 2 ∨ L = 3 ∨ L = 4 ∨ L = 5 ∨ L = 6 ∨ L = 7 ∨ L = 8 ∨ L = 9 ∨ L = 10 ∨ L = 11 ∨ L = 12 ∨ L = 13 → 1000 ≤ r0) → (L = 0 ∨ L = 1 ∨ L = 2 ∨ L = 3 ∨ L = 4 ∨ L = 5 ∨ L = 6 ∨ L = 7 ∨ L = 8 ∨ L = 9 ∨ L = 10 ∨ L = 11 ∨ L = 12 ∨ L = 13 → 1000 ≤ r4) → Fo id (pf [] []) z0 (go L x1 x2 x3 x5 x6 x7 x8 r0 r4 t0 z)) (hz : fr (pf [] []) z0 z) (hr0 : 1000 ≤ r0) (hr4 : 1000 ≤ r4) : Fo id (pf [] []) z0 (qm_X13_smoothIn_12 K go x1 x2 x3 x5 x6 x7 x8 r0 r4 t0 z) := by
  unfold qm_X13_smoothIn_12
  exact (hgo 2 _ _ _ _ _ _ _ _ _ _ z hz (fun _ => (by first | omega | decide)) (fun _ => (by first | omega | decide)))
theorem fb_X13_smoothIn_13 {K : Nat} {z0 z : ow_MS}  {go : Nat → Int32 → Int32 → Int32 → Int32 → Int32 → Int32 → Int32 → Nat → Nat → Int32 → ow_MS → Option ow_MS} {x1 : Int32} {x2 : Int32} {x3 : Int32} {x5 : Int32} {x6 : Int32} {x7 : Int32} {x8 : Int32} {r0 : Nat} {r4 : Nat} {t0 : Int32}  (hgo : ∀ (L : Nat) (x1 : Int32) (x2 : Int32) (x3 : Int32) (x5 : Int32) (x6 : Int32) (x7 : Int32) (x8 : Int32) (r0 : Nat) (r4 : Nat) (t0 : Int32) (z : ow_MS), fr (pf [] []) z0 z → (L = 0 ∨ L = 1 ∨ L = 2 ∨ L = 3 ∨ L = 4 ∨ L = 5 ∨ L = 6 ∨ L = 7 ∨ L = 8 ∨ L = 9 ∨ L = 10 ∨ L = 11 ∨ L = 12 ∨ L = 13 → 1000 ≤ r0) → (L = 0 ∨ L = 1 ∨ L = 2 ∨ L = 3 ∨ L = 4 ∨ L = 5 ∨ L = 6 ∨ L = 7 ∨ L = 8 ∨ L = 9 ∨ L = 10 ∨ L = 11 ∨ L = 12 ∨ L = 13 → 1000 ≤ r4) → Fo id (pf [] []) z0 (go L x1 x2 x3 x5 x6 x7 x8 r0 r4 t0 z)) (hz : fr (pf [] []) z0 z) (hr0 : 1000 ≤ r0) (hr4 : 1000 ≤ r4) : Fo id (pf [] []) z0 (qm_X13_smoothIn_13 K go x1 x2 x3 x5 x6 x7 x8 r0 r4 t0 z) := by
  unfold qm_X13_smoothIn_13
  exact (fo_if (fo_cs0 (ff_X12_end (by first | omega | decide)) (pf_sub (by decide) pf_0) hz (fun z35 h_z35 => (fo_some h_z35))) (fo_rdI (fun v36 => (fo_rdI (fun v37 => (fo_cs0 (ff_X12_add (by first | omega | decide)) (pf_sub (by decide) pf_0) hz (fun z38 h_z38 => (hgo 13 _ _ _ _ _ _ _ _ _ _ z38 h_z38 (fun _ => (by first | omega | decide)) (fun _ => (by first | omega | decide))))))))))
theorem fq_X13_smoothIn {K : Nat} {z0 : ow_MS}   : ∀ (k L : Nat) (x1 : Int32) (x2 : Int32) (x3 : Int32) (x5 : Int32) (x6 : Int32) (x7 : Int32) (x8 : Int32) (r0 : Nat) (r4 : Nat) (t0 : Int32) (z : ow_MS), fr (pf [] []) z0 z → (L = 0 ∨ L = 1 ∨ L = 2 ∨ L = 3 ∨ L = 4 ∨ L = 5 ∨ L = 6 ∨ L = 7 ∨ L = 8 ∨ L = 9 ∨ L = 10 ∨ L = 11 ∨ L = 12 ∨ L = 13 → 1000 ≤ r0) → (L = 0 ∨ L = 1 ∨ L = 2 ∨ L = 3 ∨ L = 4 ∨ L = 5 ∨ L = 6 ∨ L = 7 ∨ L = 8 ∨ L = 9 ∨ L = 10 ∨ L = 11 ∨ L = 12 ∨ L = 13 → 1000 ≤ r4) → Fo id (pf [] []) z0 (q_X13_smoothIn K k L x1 x2 x3 x5 x6 x7 x8 r0 r4 t0 z)
  | 0 => by
    intros
    exact fo_none
  | k + 1 => by
    intro L x1 x2 x3 x5 x6 x7 x8 r0 r4 t0 z hz h9_r0 h9_r4
    show Fo id (pf [] []) z0 (qb_X13_smoothIn K (q_X13_smoothIn K k) L x1 x2 x3 x5 x6 x7 x8 r0 r4 t0 z)
    unfold qb_X13_smoothIn
    split
    · exact fb_X13_smoothIn_0 (fq_X13_smoothIn k) hz (h9_r0 (by decide)) (h9_r4 (by decide))
    · exact fb_X13_smoothIn_1 (fq_X13_smoothIn k) hz (h9_r0 (by decide)) (h9_r4 (by decide))
    · exact fb_X13_smoothIn_2 (fq_X13_smoothIn k) hz (h9_r0 (by decide)) (h9_r4 (by decide))
    · exact fb_X13_smoothIn_3 (fq_X13_smoothIn k) hz (h9_r0 (by decide)) (h9_r4 (by decide))
    · exact fb_X13_smoothIn_4 (fq_X13_smoothIn k) hz (h9_r0 (by decide)) (h9_r4 (by decide))
    · exact fb_X13_smoothIn_5 (fq_X13_smoothIn k) hz (h9_r0 (by decide)) (h9_r4 (by decide))
    · exact fb_X13_smoothIn_6 (fq_X13_smoothIn k) hz (h9_r0 (by decide)) (h9_r4 (by decide))
    · exact fb_X13_smoothIn_7 (fq_X13_smoothIn k) hz (h9_r0 (by decide)) (h9_r4 (by decide))
    · exact fb_X13_smoothIn_8 (fq_X13_smoothIn k) hz (h9_r0 (by decide)) (h9_r4 (by decide))
    · exact fb_X13_smoothIn_9 (fq_X13_smoothIn k) hz (h9_r0 (by decide)) (h9_r4 (by decide))
    · exact fb_X13_smoothIn_10 (fq_X13_smoothIn k) hz (h9_r0 (by decide)) (h9_r4 (by decide))
    · exact fb_X13_smoothIn_11 (fq_X13_smoothIn k) hz (h9_r0 (by decide)) (h9_r4 (by decide))
    · exact fb_X13_smoothIn_12 (fq_X13_smoothIn k) hz (h9_r0 (by decide)) (h9_r4 (by decide))
    · exact fb_X13_smoothIn_13 (fq_X13_smoothIn k) hz (h9_r0 (by decide)) (h9_r4 (by decide))
    · exact fo_none
theorem ff_X13_smoothIn {K : Nat} {r0 : Nat} {x1 : Int32} {x2 : Int32} {x3 : Int32} {r4 : Nat} {z : ow_MS} (hr0 : 1000 ≤ r0) (hr4 : 1000 ≤ r4) : Fo id (pf [] []) z (qe_X13_smoothIn K r0 x1 x2 x3 r4 z) := fq_X13_smoothIn K 0 _ _ _ _ _ _ _ _ _ _ z fr_rf (fun _ => (by first | omega | decide)) (fun _ => (by first | omega | decide))
theorem fb_X13_smooth_0 {K : Nat} {z0 z : ow_MS}  {go : Nat → Int32 → Int32 → Int32 → ow_MS → Option (Int32 × ow_MS)} {x1 : Int32} {x2 : Int32} {x3 : Int32}  (hgo : ∀ (L : Nat) (x1 : Int32) (x2 : Int32) (x3 : Int32) (z : ow_MS), fr (pf [1, 2, 3, 4, 5, 6, 7, 8, 9, 12] []) z0 z → Fo Prod.snd (pf [1, 2, 3, 4, 5, 6, 7, 8, 9, 12] []) z0 (go L x1 x2 x3 z)) (hz : fr (pf [1, 2, 3, 4, 5, 6, 7, 8, 9, 12] []) z0 z)  : Fo Prod.snd (pf [1, 2, 3, 4, 5, 6, 7, 8, 9, 12] []) z0 (qm_X13_smooth_0 K go x1 x2 x3 z) := by
  unfold qm_X13_smooth_0
  exact (fo_wrF (Or.inl (by decide)) hz (fun z1 h_z1 => (fo_cs1 (ff_X13_has) (pf_sub (by decide) pf_0) h_z1 (fun v3 z2 h_z2 => (fo_if (fo_cs1 (ff_X13_fails) (pf_sub (by decide) pf_0) h_z2 (fun v7 z6 h_z6 => (fo_some h_z6))) (fo_cs0 (ff_X13_open (by first | omega | decide)) (pf_sub (by decide) pf_0) h_z2 (fun z4 h_z4 => (fo_if (hgo 1 _ _ _ z4 h_z4) (fo_rdF (fun v5 => (fo_nzI (fo_if (hgo 2 _ _ _ z4 h_z4) (hgo 1 _ _ _ z4 h_z4)))))))))))))
theorem fb_X13_smooth_1 {K : Nat} {z0 z : ow_MS}  {go : Nat → Int32 → Int32 → Int32 → ow_MS → Option (Int32 × ow_MS)} {x1 : Int32} {x2 : Int32} {x3 : Int32}  (hgo : ∀ (L : Nat) (x1 : Int32) (x2 : Int32) (x3 : Int32) (z : ow_MS), fr (pf [1, 2, 3, 4, 5, 6, 7, 8, 9, 12] []) z0 z → Fo Prod.snd (pf [1, 2, 3, 4, 5, 6, 7, 8, 9, 12] []) z0 (go L x1 x2 x3 z)) (hz : fr (pf [1, 2, 3, 4, 5, 6, 7, 8, 9, 12] []) z0 z)  : Fo Prod.snd (pf [1, 2, 3, 4, 5, 6, 7, 8, 9, 12] []) z0 (qm_X13_smooth_1 K go x1 x2 x3 z) := by
  unfold qm_X13_smooth_1
  exact (fo_cs1 (ff_X13_fails) (pf_sub (by decide) pf_0) hz (fun v9 z8 h_z8 => (fo_some h_z8)))
theorem fb_X13_smooth_2 {K : Nat} {z0 z : ow_MS}  {go : Nat → Int32 → Int32 → Int32 → ow_MS → Option (Int32 × ow_MS)} {x1 : Int32} {x2 : Int32} {x3 : Int32}  (hgo : ∀ (L : Nat) (x1 : Int32) (x2 : Int32) (x3 : Int32) (z : ow_MS), fr (pf [1, 2, 3, 4, 5, 6, 7, 8, 9, 12] []) z0 z → Fo Prod.snd (pf [1, 2, 3, 4, 5, 6, 7, 8, 9, 12] []) z0 (go L x1 x2 x3 z)) (hz : fr (pf [1, 2, 3, 4, 5, 6, 7, 8, 9, 12] []) z0 z)  : Fo Prod.snd (pf [1, 2, 3, 4, 5, 6, 7, 8, 9, 12] []) z0 (qm_X13_smooth_2 K go x1 x2 x3 z) := by
  unfold qm_X13_smooth_2
  exact (fo_rdI (fun v10 => (fo_if (fo_rdI (fun v11 => (fo_rdI (fun v12 => (fo_cs0 (ff_X13_smoothIn (by first | omega | decide) (by first | omega | decide)) (pf_sub (by decide) pf_0) hz (fun z13 h_z13 => (fo_rdF (fun v14 => (fo_if (fo_cs1 (ff_X13_free) (pf_sub (by decide) pf_0) h_z13 (fun v16 z15 h_z15 => (fo_if (fo_cs1 (ff_X13_fails) (pf_sub (by decide) pf_0) h_z15 (fun v20 z19 h_z19 => (fo_some h_z19))) (fo_cs1 (ff_X13_keep) (pf_sub (by decide) pf_0) h_z15 (fun v18 z17 h_z17 => (fo_some h_z17)))))) (fo_cs1 (ff_X13_fails) (pf_sub (by decide) pf_0) h_z13 (fun v22 z21 h_z21 => (fo_some h_z21)))))))))))) (hgo 2 _ _ _ z hz))))
theorem fq_X13_smooth {K : Nat} {z0 : ow_MS}   : ∀ (k L : Nat) (x1 : Int32) (x2 : Int32) (x3 : Int32) (z : ow_MS), fr (pf [1, 2, 3, 4, 5, 6, 7, 8, 9, 12] []) z0 z → Fo Prod.snd (pf [1, 2, 3, 4, 5, 6, 7, 8, 9, 12] []) z0 (q_X13_smooth K k L x1 x2 x3 z)
  | 0 => by
    intros
    exact fo_none
  | k + 1 => by
    intro L x1 x2 x3 z hz 
    show Fo Prod.snd (pf [1, 2, 3, 4, 5, 6, 7, 8, 9, 12] []) z0 (qb_X13_smooth K (q_X13_smooth K k) L x1 x2 x3 z)
    unfold qb_X13_smooth
    split
    · exact fb_X13_smooth_0 (fq_X13_smooth k) hz 
    · exact fb_X13_smooth_1 (fq_X13_smooth k) hz 
    · exact fb_X13_smooth_2 (fq_X13_smooth k) hz 
    · exact fo_none
theorem ff_X13_smooth {K : Nat} {x1 : Int32} {x2 : Int32} {z : ow_MS}  : Fo Prod.snd (pf [1, 2, 3, 4, 5, 6, 7, 8, 9, 12] []) z (qe_X13_smooth K x1 x2 z) := fq_X13_smooth K 0 _ _ _ z fr_rf 
theorem fb_X13_addNet_0 {K : Nat} {z0 z : ow_MS}  {go : Nat → Int32 → Int32 → Int32 → Nat → ow_MS → Option ow_MS} {x2 : Int32} {x3 : Int32} {x4 : Int32} {r1 : Nat}  (hgo : ∀ (L : Nat) (x2 : Int32) (x3 : Int32) (x4 : Int32) (r1 : Nat) (z : ow_MS), fr (pf [] []) z0 z → (L = 0 ∨ L = 1 ∨ L = 2 ∨ L = 3 → 1000 ≤ r1) → Fo id (pf [] []) z0 (go L x2 x3 x4 r1 z)) (hz : fr (pf [] []) z0 z) (hr1 : 1000 ≤ r1) : Fo id (pf [] []) z0 (qm_X13_addNet_0 K go x2 x3 x4 r1 z) := by
  unfold qm_X13_addNet_0
  exact (hgo 1 _ _ _ _ z hz (fun _ => (by first | omega | decide)))
theorem fb_X13_addNet_1 {K : Nat} {z0 z : ow_MS}  {go : Nat → Int32 → Int32 → Int32 → Nat → ow_MS → Option ow_MS} {x2 : Int32} {x3 : Int32} {x4 : Int32} {r1 : Nat}  (hgo : ∀ (L : Nat) (x2 : Int32) (x3 : Int32) (x4 : Int32) (r1 : Nat) (z : ow_MS), fr (pf [] []) z0 z → (L = 0 ∨ L = 1 ∨ L = 2 ∨ L = 3 → 1000 ≤ r1) → Fo id (pf [] []) z0 (go L x2 x3 x4 r1 z)) (hz : fr (pf [] []) z0 z) (hr1 : 1000 ≤ r1) : Fo id (pf [] []) z0 (qm_X13_addNet_1 K go x2 x3 x4 r1 z) := by
  unfold qm_X13_addNet_1
  exact (fo_rdF (fun v1 => (fo_if (hgo 3 _ _ _ _ z hz (fun _ => (by first | omega | decide))) (fo_rdI (fun v2 => (hgo 2 _ _ _ _ z hz (fun _ => (by first | omega | decide))))))))
theorem fb_X13_addNet_2 {K : Nat} {z0 z : ow_MS}  {go : Nat → Int32 → Int32 → Int32 → Nat → ow_MS → Option ow_MS} {x2 : Int32} {x3 : Int32} {x4 : Int32} {r1 : Nat}  (hgo : ∀ (L : Nat) (x2 : Int32) (x3 : Int32) (x4 : Int32) (r1 : Nat) (z : ow_MS), fr (pf [] []) z0 z → (L = 0 ∨ L = 1 ∨ L = 2 ∨ L = 3 → 1000 ≤ r1) → Fo id (pf [] []) z0 (go L x2 x3 x4 r1 z)) (hz : fr (pf [] []) z0 z) (hr1 : 1000 ≤ r1) : Fo id (pf [] []) z0 (qm_X13_addNet_2 K go x2 x3 x4 r1 z) := by
  unfold qm_X13_addNet_2
  exact (fo_rdI (fun v3 => (fo_if (fo_cs0 (ff_X12_end (by first | omega | decide)) (pf_sub (by decide) pf_0) hz (fun z4 h_z4 => (hgo 1 _ _ _ _ z4 h_z4 (fun _ => (by first | omega | decide))))) (fo_rdI (fun v5 => (fo_rdI (fun v6 => (fo_cs0 (ff_X12_add (by first | omega | decide)) (pf_sub (by decide) pf_0) hz (fun z7 h_z7 => (hgo 2 _ _ _ _ z7 h_z7 (fun _ => (by first | omega | decide))))))))))))
theorem fb_X13_addNet_3 {K : Nat} {z0 z : ow_MS}  {go : Nat → Int32 → Int32 → Int32 → Nat → ow_MS → Option ow_MS} {x2 : Int32} {x3 : Int32} {x4 : Int32} {r1 : Nat}  (hgo : ∀ (L : Nat) (x2 : Int32) (x3 : Int32) (x4 : Int32) (r1 : Nat) (z : ow_MS), fr (pf [] []) z0 z → (L = 0 ∨ L = 1 ∨ L = 2 ∨ L = 3 → 1000 ≤ r1) → Fo id (pf [] []) z0 (go L x2 x3 x4 r1 z)) (hz : fr (pf [] []) z0 z) (hr1 : 1000 ≤ r1) : Fo id (pf [] []) z0 (qm_X13_addNet_3 K go x2 x3 x4 r1 z) := by
  unfold qm_X13_addNet_3
  exact (fo_rdF (fun v8 => (fo_nzI (fo_if (fo_some hz) (fo_rdI (fun v9 => (fo_wrI (Or.inr (Or.inr (by decide))) hz (fun z10 h_z10 => (hgo 3 _ _ _ _ z10 h_z10 (fun _ => (by first | omega | decide)))))))))))
theorem fq_X13_addNet {K : Nat} {z0 : ow_MS}   : ∀ (k L : Nat) (x2 : Int32) (x3 : Int32) (x4 : Int32) (r1 : Nat) (z : ow_MS), fr (pf [] []) z0 z → (L = 0 ∨ L = 1 ∨ L = 2 ∨ L = 3 → 1000 ≤ r1) → Fo id (pf [] []) z0 (q_X13_addNet K k L x2 x3 x4 r1 z)
  | 0 => by
    intros
    exact fo_none
  | k + 1 => by
    intro L x2 x3 x4 r1 z hz h9_r1
    show Fo id (pf [] []) z0 (qb_X13_addNet K (q_X13_addNet K k) L x2 x3 x4 r1 z)
    unfold qb_X13_addNet
    split
    · exact fb_X13_addNet_0 (fq_X13_addNet k) hz (h9_r1 (by decide))
    · exact fb_X13_addNet_1 (fq_X13_addNet k) hz (h9_r1 (by decide))
    · exact fb_X13_addNet_2 (fq_X13_addNet k) hz (h9_r1 (by decide))
    · exact fb_X13_addNet_3 (fq_X13_addNet k) hz (h9_r1 (by decide))
    · exact fo_none
theorem ff_X13_addNet {K : Nat} {r1 : Nat} {x2 : Int32} {z : ow_MS} (hr1 : 1000 ≤ r1) : Fo id (pf [] []) z (qe_X13_addNet K r1 x2 z) := fq_X13_addNet K 0 _ _ _ _ z fr_rf (fun _ => (by first | omega | decide))
theorem fb_X13_apart_0 {K : Nat} {z0 z : ow_MS}  {go : Nat → Int32 → Int32 → ow_MS → Option (Int32 × ow_MS)} {x1 : Int32} {x2 : Int32}  (hgo : ∀ (L : Nat) (x1 : Int32) (x2 : Int32) (z : ow_MS), fr (pf [1, 2, 3, 4, 5, 6, 7, 8, 9, 12] []) z0 z → Fo Prod.snd (pf [1, 2, 3, 4, 5, 6, 7, 8, 9, 12] []) z0 (go L x1 x2 z)) (hz : fr (pf [1, 2, 3, 4, 5, 6, 7, 8, 9, 12] []) z0 z)  : Fo Prod.snd (pf [1, 2, 3, 4, 5, 6, 7, 8, 9, 12] []) z0 (qm_X13_apart_0 K go x1 x2 z) := by
  unfold qm_X13_apart_0
  exact (fo_wrF (Or.inl (by decide)) hz (fun z1 h_z1 => (fo_cs1 (ff_X13_has) (pf_sub (by decide) pf_0) h_z1 (fun v3 z2 h_z2 => (fo_if (hgo 1 _ _ z2 h_z2) (fo_cs1 (ff_X13_has) (pf_sub (by decide) pf_0) h_z2 (fun v5 z4 h_z4 => (fo_if (hgo 1 _ _ z4 h_z4) (fo_cs0 (ff_X13_open (by first | omega | decide)) (pf_sub (by decide) pf_0) h_z4 (fun z6 h_z6 => (fo_cs0 (ff_X13_open (by first | omega | decide)) (pf_sub (by decide) pf_0) h_z6 (fun z7 h_z7 => (fo_rdF (fun v8 => (fo_rdF (fun v9 => (fo_if (hgo 2 _ _ z7 h_z7) (fo_rdF (fun v10 => (fo_rdF (fun v11 => (fo_if (fo_cs1 (ff_X13_free) (pf_sub (by decide) pf_0) h_z7 (fun v13 z12 h_z12 => (fo_if (fo_cs1 (ff_X13_fails) (pf_sub (by decide) pf_0) h_z12 (fun v21 z20 h_z20 => (fo_some h_z20))) (fo_cs0 (ff_X12_clear (by first | omega | decide)) (pf_sub (by decide) pf_0) h_z12 (fun z14 h_z14 => (fo_cs0 (ff_X13_addNet (by first | omega | decide)) (pf_sub (by decide) pf_0) h_z14 (fun z15 h_z15 => (fo_rdF (fun v16 => (fo_nzI (fo_cs0 (ff_X13_addNet (by first | omega | decide)) (pf_sub (by decide) pf_0) h_z15 (fun z17 h_z17 => (fo_cs1 (ff_X13_keep) (pf_sub (by decide) pf_0) h_z17 (fun v19 z18 h_z18 => (fo_some h_z18))))))))))))))) (hgo 2 _ _ z7 h_z7)))))))))))))))))))))))
theorem fb_X13_apart_1 {K : Nat} {z0 z : ow_MS}  {go : Nat → Int32 → Int32 → ow_MS → Option (Int32 × ow_MS)} {x1 : Int32} {x2 : Int32}  (hgo : ∀ (L : Nat) (x1 : Int32) (x2 : Int32) (z : ow_MS), fr (pf [1, 2, 3, 4, 5, 6, 7, 8, 9, 12] []) z0 z → Fo Prod.snd (pf [1, 2, 3, 4, 5, 6, 7, 8, 9, 12] []) z0 (go L x1 x2 z)) (hz : fr (pf [1, 2, 3, 4, 5, 6, 7, 8, 9, 12] []) z0 z)  : Fo Prod.snd (pf [1, 2, 3, 4, 5, 6, 7, 8, 9, 12] []) z0 (qm_X13_apart_1 K go x1 x2 z) := by
  unfold qm_X13_apart_1
  exact (fo_cs1 (ff_X13_fails) (pf_sub (by decide) pf_0) hz (fun v23 z22 h_z22 => (fo_some h_z22)))
theorem fb_X13_apart_2 {K : Nat} {z0 z : ow_MS}  {go : Nat → Int32 → Int32 → ow_MS → Option (Int32 × ow_MS)} {x1 : Int32} {x2 : Int32}  (hgo : ∀ (L : Nat) (x1 : Int32) (x2 : Int32) (z : ow_MS), fr (pf [1, 2, 3, 4, 5, 6, 7, 8, 9, 12] []) z0 z → Fo Prod.snd (pf [1, 2, 3, 4, 5, 6, 7, 8, 9, 12] []) z0 (go L x1 x2 z)) (hz : fr (pf [1, 2, 3, 4, 5, 6, 7, 8, 9, 12] []) z0 z)  : Fo Prod.snd (pf [1, 2, 3, 4, 5, 6, 7, 8, 9, 12] []) z0 (qm_X13_apart_2 K go x1 x2 z) := by
  unfold qm_X13_apart_2
  exact (fo_cs1 (ff_X13_fails) (pf_sub (by decide) pf_0) hz (fun v25 z24 h_z24 => (fo_some h_z24)))
theorem fq_X13_apart {K : Nat} {z0 : ow_MS}   : ∀ (k L : Nat) (x1 : Int32) (x2 : Int32) (z : ow_MS), fr (pf [1, 2, 3, 4, 5, 6, 7, 8, 9, 12] []) z0 z → Fo Prod.snd (pf [1, 2, 3, 4, 5, 6, 7, 8, 9, 12] []) z0 (q_X13_apart K k L x1 x2 z)
  | 0 => by
    intros
    exact fo_none
  | k + 1 => by
    intro L x1 x2 z hz 
    show Fo Prod.snd (pf [1, 2, 3, 4, 5, 6, 7, 8, 9, 12] []) z0 (qb_X13_apart K (q_X13_apart K k) L x1 x2 z)
    unfold qb_X13_apart
    split
    · exact fb_X13_apart_0 (fq_X13_apart k) hz 
    · exact fb_X13_apart_1 (fq_X13_apart k) hz 
    · exact fb_X13_apart_2 (fq_X13_apart k) hz 
    · exact fo_none
theorem ff_X13_apart {K : Nat} {x1 : Int32} {x2 : Int32} {z : ow_MS}  : Fo Prod.snd (pf [1, 2, 3, 4, 5, 6, 7, 8, 9, 12] []) z (qe_X13_apart K x1 x2 z) := fq_X13_apart K 0 _ _ z fr_rf 
theorem fb_X13_join_0 {K : Nat} {z0 z : ow_MS}  {go : Nat → Int32 → Int32 → Int32 → Int32 → Int32 → Int32 → Int32 → Int32 → Int32 → Int32 → ow_MS → Option (Int32 × ow_MS)} {x1 : Int32} {x2 : Int32} {x3 : Int32} {x4 : Int32} {x5 : Int32} {x6 : Int32} {x7 : Int32} {x8 : Int32} {t0 : Int32} {t1 : Int32}  (hgo : ∀ (L : Nat) (x1 : Int32) (x2 : Int32) (x3 : Int32) (x4 : Int32) (x5 : Int32) (x6 : Int32) (x7 : Int32) (x8 : Int32) (t0 : Int32) (t1 : Int32) (z : ow_MS), fr (pf [1, 2, 3, 4, 5, 6, 7, 8, 9, 12] []) z0 z → Fo Prod.snd (pf [1, 2, 3, 4, 5, 6, 7, 8, 9, 12] []) z0 (go L x1 x2 x3 x4 x5 x6 x7 x8 t0 t1 z)) (hz : fr (pf [1, 2, 3, 4, 5, 6, 7, 8, 9, 12] []) z0 z)  : Fo Prod.snd (pf [1, 2, 3, 4, 5, 6, 7, 8, 9, 12] []) z0 (qm_X13_join_0 K go x1 x2 x3 x4 x5 x6 x7 x8 t0 t1 z) := by
  unfold qm_X13_join_0
  exact (fo_wrF (Or.inl (by decide)) hz (fun z1 h_z1 => (fo_cs1 (ff_X13_has) (pf_sub (by decide) pf_0) h_z1 (fun v3 z2 h_z2 => (fo_if (hgo 1 _ _ _ _ _ _ _ _ _ _ z2 h_z2) (fo_cs1 (ff_X13_has) (pf_sub (by decide) pf_0) h_z2 (fun v5 z4 h_z4 => (fo_if (hgo 1 _ _ _ _ _ _ _ _ _ _ z4 h_z4) (fo_cs0 (ff_X13_open (by first | omega | decide)) (pf_sub (by decide) pf_0) h_z4 (fun z6 h_z6 => (fo_cs0 (ff_X13_open (by first | omega | decide)) (pf_sub (by decide) pf_0) h_z6 (fun z7 h_z7 => (fo_if (hgo 2 _ _ _ _ _ _ _ _ _ _ z7 h_z7) (fo_rdF (fun v8 => (fo_if (hgo 2 _ _ _ _ _ _ _ _ _ _ z7 h_z7) (fo_if (hgo 2 _ _ _ _ _ _ _ _ _ _ z7 h_z7) (fo_rdF (fun v9 => (fo_if (fo_rdF (fun v10 => (fo_rdF (fun v11 => (fo_if (hgo 3 _ _ _ _ _ _ _ _ _ _ z7 h_z7) (fo_rdF (fun v12 => (fo_rdF (fun v13 => (fo_if (fo_cs1 (ff_X13_free) (pf_sub (by decide) pf_0) h_z7 (fun v15 z14 h_z14 => (fo_if (fo_cs1 (ff_X13_fails) (pf_sub (by decide) pf_0) h_z14 (fun v19 z18 h_z18 => (fo_some h_z18))) (fo_rdF (fun v16 => (fo_nzI (fo_cs0 (ff_X12_clear (by first | omega | decide)) (pf_sub (by decide) pf_0) h_z14 (fun z17 h_z17 => (hgo 4 _ _ _ _ _ _ _ _ _ _ z17 h_z17))))))))) (hgo 3 _ _ _ _ _ _ _ _ _ _ z7 h_z7))))))))))) (hgo 2 _ _ _ _ _ _ _ _ _ _ z7 h_z7)))))))))))))))))))))
theorem fb_X13_join_1 {K : Nat} {z0 z : ow_MS}  {go : Nat → Int32 → Int32 → Int32 → Int32 → Int32 → Int32 → Int32 → Int32 → Int32 → Int32 → ow_MS → Option (Int32 × ow_MS)} {x1 : Int32} {x2 : Int32} {x3 : Int32} {x4 : Int32} {x5 : Int32} {x6 : Int32} {x7 : Int32} {x8 : Int32} {t0 : Int32} {t1 : Int32}  (hgo : ∀ (L : Nat) (x1 : Int32) (x2 : Int32) (x3 : Int32) (x4 : Int32) (x5 : Int32) (x6 : Int32) (x7 : Int32) (x8 : Int32) (t0 : Int32) (t1 : Int32) (z : ow_MS), fr (pf [1, 2, 3, 4, 5, 6, 7, 8, 9, 12] []) z0 z → Fo Prod.snd (pf [1, 2, 3, 4, 5, 6, 7, 8, 9, 12] []) z0 (go L x1 x2 x3 x4 x5 x6 x7 x8 t0 t1 z)) (hz : fr (pf [1, 2, 3, 4, 5, 6, 7, 8, 9, 12] []) z0 z)  : Fo Prod.snd (pf [1, 2, 3, 4, 5, 6, 7, 8, 9, 12] []) z0 (qm_X13_join_1 K go x1 x2 x3 x4 x5 x6 x7 x8 t0 t1 z) := by
  unfold qm_X13_join_1
  exact (fo_cs1 (ff_X13_fails) (pf_sub (by decide) pf_0) hz (fun v21 z20 h_z20 => (fo_some h_z20)))
theorem fb_X13_join_2 {K : Nat} {z0 z : ow_MS}  {go : Nat → Int32 → Int32 → Int32 → Int32 → Int32 → Int32 → Int32 → Int32 → Int32 → Int32 → ow_MS → Option (Int32 × ow_MS)} {x1 : Int32} {x2 : Int32} {x3 : Int32} {x4 : Int32} {x5 : Int32} {x6 : Int32} {x7 : Int32} {x8 : Int32} {t0 : Int32} {t1 : Int32}  (hgo : ∀ (L : Nat) (x1 : Int32) (x2 : Int32) (x3 : Int32) (x4 : Int32) (x5 : Int32) (x6 : Int32) (x7 : Int32) (x8 : Int32) (t0 : Int32) (t1 : Int32) (z : ow_MS), fr (pf [1, 2, 3, 4, 5, 6, 7, 8, 9, 12] []) z0 z → Fo Prod.snd (pf [1, 2, 3, 4, 5, 6, 7, 8, 9, 12] []) z0 (go L x1 x2 x3 x4 x5 x6 x7 x8 t0 t1 z)) (hz : fr (pf [1, 2, 3, 4, 5, 6, 7, 8, 9, 12] []) z0 z)  : Fo Prod.snd (pf [1, 2, 3, 4, 5, 6, 7, 8, 9, 12] []) z0 (qm_X13_join_2 K go x1 x2 x3 x4 x5 x6 x7 x8 t0 t1 z) := by
  unfold qm_X13_join_2
  exact (fo_cs1 (ff_X13_fails) (pf_sub (by decide) pf_0) hz (fun v23 z22 h_z22 => (fo_some h_z22)))
theorem fb_X13_join_3 {K : Nat} {z0 z : ow_MS}  {go : Nat → Int32 → Int32 → Int32 → Int32 → Int32 → Int32 → Int32 → Int32 → Int32 → Int32 → ow_MS → Option (Int32 × ow_MS)} {x1 : Int32} {x2 : Int32} {x3 : Int32} {x4 : Int32} {x5 : Int32} {x6 : Int32} {x7 : Int32} {x8 : Int32} {t0 : Int32} {t1 : Int32}  (hgo : ∀ (L : Nat) (x1 : Int32) (x2 : Int32) (x3 : Int32) (x4 : Int32) (x5 : Int32) (x6 : Int32) (x7 : Int32) (x8 : Int32) (t0 : Int32) (t1 : Int32) (z : ow_MS), fr (pf [1, 2, 3, 4, 5, 6, 7, 8, 9, 12] []) z0 z → Fo Prod.snd (pf [1, 2, 3, 4, 5, 6, 7, 8, 9, 12] []) z0 (go L x1 x2 x3 x4 x5 x6 x7 x8 t0 t1 z)) (hz : fr (pf [1, 2, 3, 4, 5, 6, 7, 8, 9, 12] []) z0 z)  : Fo Prod.snd (pf [1, 2, 3, 4, 5, 6, 7, 8, 9, 12] []) z0 (qm_X13_join_3 K go x1 x2 x3 x4 x5 x6 x7 x8 t0 t1 z) := by
  unfold qm_X13_join_3
  exact (fo_cs1 (ff_X13_fails) (pf_sub (by decide) pf_0) hz (fun v25 z24 h_z24 => (fo_some h_z24)))
theorem fb_X13_join_4 {K : Nat} {z0 z : ow_MS}  {go : Nat → Int32 → Int32 → Int32 → Int32 → Int32 → Int32 → Int32 → Int32 → Int32 → Int32 → ow_MS → Option (Int32 × ow_MS)} {x1 : Int32} {x2 : Int32} {x3 : Int32} {x4 : Int32} {x5 : Int32} {x6 : Int32} {x7 : Int32} {x8 : Int32} {t0 : Int32} {t1 : Int32}  (hgo : ∀ (L : Nat) (x1 : Int32) (x2 : Int32) (x3 : Int32) (x4 : Int32) (x5 : Int32) (x6 : Int32) (x7 : Int32) (x8 : Int32) (t0 : Int32) (t1 : Int32) (z : ow_MS), fr (pf [1, 2, 3, 4, 5, 6, 7, 8, 9, 12] []) z0 z → Fo Prod.snd (pf [1, 2, 3, 4, 5, 6, 7, 8, 9, 12] []) z0 (go L x1 x2 x3 x4 x5 x6 x7 x8 t0 t1 z)) (hz : fr (pf [1, 2, 3, 4, 5, 6, 7, 8, 9, 12] []) z0 z)  : Fo Prod.snd (pf [1, 2, 3, 4, 5, 6, 7, 8, 9, 12] []) z0 (qm_X13_join_4 K go x1 x2 x3 x4 x5 x6 x7 x8 t0 t1 z) := by
  unfold qm_X13_join_4
  exact (fo_rdF (fun v26 => (fo_if (hgo 8 _ _ _ _ _ _ _ _ _ _ z hz) (fo_rdI (fun v27 => (hgo 5 _ _ _ _ _ _ _ _ _ _ z hz))))))
theorem fb_X13_join_5 {K : Nat} {z0 z : ow_MS}  {go : Nat → Int32 → Int32 → Int32 → Int32 → Int32 → Int32 → Int32 → Int32 → Int32 → Int32 → ow_MS → Option (Int32 × ow_MS)} {x1 : Int32} {x2 : Int32} {x3 : Int32} {x4 : Int32} {x5 : Int32} {x6 : Int32} {x7 : Int32} {x8 : Int32} {t0 : Int32} {t1 : Int32}  (hgo : ∀ (L : Nat) (x1 : Int32) (x2 : Int32) (x3 : Int32) (x4 : Int32) (x5 : Int32) (x6 : Int32) (x7 : Int32) (x8 : Int32) (t0 : Int32) (t1 : Int32) (z : ow_MS), fr (pf [1, 2, 3, 4, 5, 6, 7, 8, 9, 12] []) z0 z → Fo Prod.snd (pf [1, 2, 3, 4, 5, 6, 7, 8, 9, 12] []) z0 (go L x1 x2 x3 x4 x5 x6 x7 x8 t0 t1 z)) (hz : fr (pf [1, 2, 3, 4, 5, 6, 7, 8, 9, 12] []) z0 z)  : Fo Prod.snd (pf [1, 2, 3, 4, 5, 6, 7, 8, 9, 12] []) z0 (qm_X13_join_5 K go x1 x2 x3 x4 x5 x6 x7 x8 t0 t1 z) := by
  unfold qm_X13_join_5
  exact (fo_rdI (fun v28 => (fo_if (fo_cs0 (ff_X12_end (by first | omega | decide)) (pf_sub (by decide) pf_0) hz (fun z29 h_z29 => (hgo 4 _ _ _ _ _ _ _ _ _ _ z29 h_z29))) (fo_rdI (fun v30 => (fo_rdI (fun v31 => (fo_cs0 (ff_X12_add (by first | omega | decide)) (pf_sub (by decide) pf_0) hz (fun z32 h_z32 => (fo_if (hgo 6 _ _ _ _ _ _ _ _ _ _ z32 h_z32) (hgo 7 _ _ _ _ _ _ _ _ _ _ z32 h_z32)))))))))))
theorem fb_X13_join_6 {K : Nat} {z0 z : ow_MS}  {go : Nat → Int32 → Int32 → Int32 → Int32 → Int32 → Int32 → Int32 → Int32 → Int32 → Int32 → ow_MS → Option (Int32 × ow_MS)} {x1 : Int32} {x2 : Int32} {x3 : Int32} {x4 : Int32} {x5 : Int32} {x6 : Int32} {x7 : Int32} {x8 : Int32} {t0 : Int32} {t1 : Int32}  (hgo : ∀ (L : Nat) (x1 : Int32) (x2 : Int32) (x3 : Int32) (x4 : Int32) (x5 : Int32) (x6 : Int32) (x7 : Int32) (x8 : Int32) (t0 : Int32) (t1 : Int32) (z : ow_MS), fr (pf [1, 2, 3, 4, 5, 6, 7, 8, 9, 12] []) z0 z → Fo Prod.snd (pf [1, 2, 3, 4, 5, 6, 7, 8, 9, 12] []) z0 (go L x1 x2 x3 x4 x5 x6 x7 x8 t0 t1 z)) (hz : fr (pf [1, 2, 3, 4, 5, 6, 7, 8, 9, 12] []) z0 z)  : Fo Prod.snd (pf [1, 2, 3, 4, 5, 6, 7, 8, 9, 12] []) z0 (qm_X13_join_6 K go x1 x2 x3 x4 x5 x6 x7 x8 t0 t1 z) := by
  unfold qm_X13_join_6
  exact (fo_rdI (fun v33 => (fo_rdI (fun v34 => (fo_rdI (fun v35 => (fo_cs0 (ff_X12_add (by first | omega | decide)) (pf_sub (by decide) pf_0) hz (fun z36 h_z36 => (fo_if (hgo 7 _ _ _ _ _ _ _ _ _ _ z36 h_z36) (hgo 6 _ _ _ _ _ _ _ _ _ _ z36 h_z36))))))))))
theorem fb_X13_join_7 {K : Nat} {z0 z : ow_MS}  {go : Nat → Int32 → Int32 → Int32 → Int32 → Int32 → Int32 → Int32 → Int32 → Int32 → Int32 → ow_MS → Option (Int32 × ow_MS)} {x1 : Int32} {x2 : Int32} {x3 : Int32} {x4 : Int32} {x5 : Int32} {x6 : Int32} {x7 : Int32} {x8 : Int32} {t0 : Int32} {t1 : Int32}  (hgo : ∀ (L : Nat) (x1 : Int32) (x2 : Int32) (x3 : Int32) (x4 : Int32) (x5 : Int32) (x6 : Int32) (x7 : Int32) (x8 : Int32) (t0 : Int32) (t1 : Int32) (z : ow_MS), fr (pf [1, 2, 3, 4, 5, 6, 7, 8, 9, 12] []) z0 z → Fo Prod.snd (pf [1, 2, 3, 4, 5, 6, 7, 8, 9, 12] []) z0 (go L x1 x2 x3 x4 x5 x6 x7 x8 t0 t1 z)) (hz : fr (pf [1, 2, 3, 4, 5, 6, 7, 8, 9, 12] []) z0 z)  : Fo Prod.snd (pf [1, 2, 3, 4, 5, 6, 7, 8, 9, 12] []) z0 (qm_X13_join_7 K go x1 x2 x3 x4 x5 x6 x7 x8 t0 t1 z) := by
  unfold qm_X13_join_7
  exact (hgo 5 _ _ _ _ _ _ _ _ _ _ z hz)
theorem fb_X13_join_8 {K : Nat} {z0 z : ow_MS}  {go : Nat → Int32 → Int32 → Int32 → Int32 → Int32 → Int32 → Int32 → Int32 → Int32 → Int32 → ow_MS → Option (Int32 × ow_MS)} {x1 : Int32} {x2 : Int32} {x3 : Int32} {x4 : Int32} {x5 : Int32} {x6 : Int32} {x7 : Int32} {x8 : Int32} {t0 : Int32} {t1 : Int32}  (hgo : ∀ (L : Nat) (x1 : Int32) (x2 : Int32) (x3 : Int32) (x4 : Int32) (x5 : Int32) (x6 : Int32) (x7 : Int32) (x8 : Int32) (t0 : Int32) (t1 : Int32) (z : ow_MS), fr (pf [1, 2, 3, 4, 5, 6, 7, 8, 9, 12] []) z0 z → Fo Prod.snd (pf [1, 2, 3, 4, 5, 6, 7, 8, 9, 12] []) z0 (go L x1 x2 x3 x4 x5 x6 x7 x8 t0 t1 z)) (hz : fr (pf [1, 2, 3, 4, 5, 6, 7, 8, 9, 12] []) z0 z)  : Fo Prod.snd (pf [1, 2, 3, 4, 5, 6, 7, 8, 9, 12] []) z0 (qm_X13_join_8 K go x1 x2 x3 x4 x5 x6 x7 x8 t0 t1 z) := by
  unfold qm_X13_join_8
  exact (fo_rdF (fun v37 => (fo_if (hgo 11 _ _ _ _ _ _ _ _ _ _ z hz) (fo_rdI (fun v38 => (fo_if (hgo 10 _ _ _ _ _ _ _ _ _ _ z hz) (fo_rdI (fun v39 => (hgo 9 _ _ _ _ _ _ _ _ _ _ z hz)))))))))
theorem fb_X13_join_9 {K : Nat} {z0 z : ow_MS}  {go : Nat → Int32 → Int32 → Int32 → Int32 → Int32 → Int32 → Int32 → Int32 → Int32 → Int32 → ow_MS → Option (Int32 × ow_MS)} {x1 : Int32} {x2 : Int32} {x3 : Int32} {x4 : Int32} {x5 : Int32} {x6 : Int32} {x7 : Int32} {x8 : Int32} {t0 : Int32} {t1 : Int32}  (hgo : ∀ (L : Nat) (x1 : Int32) (x2 : Int32) (x3 : Int32) (x4 : Int32) (x5 : Int32) (x6 : Int32) (x7 : Int32) (x8 : Int32) (t0 : Int32) (t1 : Int32) (z : ow_MS), fr (pf [1, 2, 3, 4, 5, 6, 7, 8, 9, 12] []) z0 z → Fo Prod.snd (pf [1, 2, 3, 4, 5, 6, 7, 8, 9, 12] []) z0 (go L x1 x2 x3 x4 x5 x6 x7 x8 t0 t1 z)) (hz : fr (pf [1, 2, 3, 4, 5, 6, 7, 8, 9, 12] []) z0 z)  : Fo Prod.snd (pf [1, 2, 3, 4, 5, 6, 7, 8, 9, 12] []) z0 (qm_X13_join_9 K go x1 x2 x3 x4 x5 x6 x7 x8 t0 t1 z) := by
  unfold qm_X13_join_9
  exact (fo_rdI (fun v40 => (fo_if (fo_cs0 (ff_X12_end (by first | omega | decide)) (pf_sub (by decide) pf_0) hz (fun z41 h_z41 => (hgo 10 _ _ _ _ _ _ _ _ _ _ z41 h_z41))) (fo_rdI (fun v42 => (fo_rdI (fun v43 => (fo_cs0 (ff_X12_add (by first | omega | decide)) (pf_sub (by decide) pf_0) hz (fun z44 h_z44 => (hgo 9 _ _ _ _ _ _ _ _ _ _ z44 h_z44))))))))))
theorem fb_X13_join_10 {K : Nat} {z0 z : ow_MS}  {go : Nat → Int32 → Int32 → Int32 → Int32 → Int32 → Int32 → Int32 → Int32 → Int32 → Int32 → ow_MS → Option (Int32 × ow_MS)} {x1 : Int32} {x2 : Int32} {x3 : Int32} {x4 : Int32} {x5 : Int32} {x6 : Int32} {x7 : Int32} {x8 : Int32} {t0 : Int32} {t1 : Int32}  (hgo : ∀ (L : Nat) (x1 : Int32) (x2 : Int32) (x3 : Int32) (x4 : Int32) (x5 : Int32) (x6 : Int32) (x7 : Int32) (x8 : Int32) (t0 : Int32) (t1 : Int32) (z : ow_MS), fr (pf [1, 2, 3, 4, 5, 6, 7, 8, 9, 12] []) z0 z → Fo Prod.snd (pf [1, 2, 3, 4, 5, 6, 7, 8, 9, 12] []) z0 (go L x1 x2 x3 x4 x5 x6 x7 x8 t0 t1 z)) (hz : fr (pf [1, 2, 3, 4, 5, 6, 7, 8, 9, 12] []) z0 z)  : Fo Prod.snd (pf [1, 2, 3, 4, 5, 6, 7, 8, 9, 12] []) z0 (qm_X13_join_10 K go x1 x2 x3 x4 x5 x6 x7 x8 t0 t1 z) := by
  unfold qm_X13_join_10
  exact (hgo 8 _ _ _ _ _ _ _ _ _ _ z hz)
theorem fb_X13_join_11 {K : Nat} {z0 z : ow_MS}  {go : Nat → Int32 → Int32 → Int32 → Int32 → Int32 → Int32 → Int32 → Int32 → Int32 → Int32 → ow_MS → Option (Int32 × ow_MS)} {x1 : Int32} {x2 : Int32} {x3 : Int32} {x4 : Int32} {x5 : Int32} {x6 : Int32} {x7 : Int32} {x8 : Int32} {t0 : Int32} {t1 : Int32}  (hgo : ∀ (L : Nat) (x1 : Int32) (x2 : Int32) (x3 : Int32) (x4 : Int32) (x5 : Int32) (x6 : Int32) (x7 : Int32) (x8 : Int32) (t0 : Int32) (t1 : Int32) (z : ow_MS), fr (pf [1, 2, 3, 4, 5, 6, 7, 8, 9, 12] []) z0 z → Fo Prod.snd (pf [1, 2, 3, 4, 5, 6, 7, 8, 9, 12] []) z0 (go L x1 x2 x3 x4 x5 x6 x7 x8 t0 t1 z)) (hz : fr (pf [1, 2, 3, 4, 5, 6, 7, 8, 9, 12] []) z0 z)  : Fo Prod.snd (pf [1, 2, 3, 4, 5, 6, 7, 8, 9, 12] []) z0 (qm_X13_join_11 K go x1 x2 x3 x4 x5 x6 x7 x8 t0 t1 z) := by
  unfold qm_X13_join_11
  exact (fo_if (fo_cs1 (ff_X13_keep) (pf_sub (by decide) pf_0) hz (fun v46 z45 h_z45 => (fo_some h_z45))) (fo_if (fo_rdI (fun v47 => (hgo 12 _ _ _ _ _ _ _ _ _ _ z hz))) (fo_rdI (fun v48 => (hgo 12 _ _ _ _ _ _ _ _ _ _ z hz)))))
theorem fb_X13_join_12 {K : Nat} {z0 z : ow_MS}  {go : Nat → Int32 → Int32 → Int32 → Int32 → Int32 → Int32 → Int32 → Int32 → Int32 → Int32 → ow_MS → Option (Int32 × ow_MS)} {x1 : Int32} {x2 : Int32} {x3 : Int32} {x4 : Int32} {x5 : Int32} {x6 : Int32} {x7 : Int32} {x8 : Int32} {t0 : Int32} {t1 : Int32}  (hgo : ∀ (L : Nat) (x1 : Int32) (x2 : Int32) (x3 : Int32) (x4 : Int32) (x5 : Int32) (x6 : Int32) (x7 : Int32) (x8 : Int32) (t0 : Int32) (t1 : Int32) (z : ow_MS), fr (pf [1, 2, 3, 4, 5, 6, 7, 8, 9, 12] []) z0 z → Fo Prod.snd (pf [1, 2, 3, 4, 5, 6, 7, 8, 9, 12] []) z0 (go L x1 x2 x3 x4 x5 x6 x7 x8 t0 t1 z)) (hz : fr (pf [1, 2, 3, 4, 5, 6, 7, 8, 9, 12] []) z0 z)  : Fo Prod.snd (pf [1, 2, 3, 4, 5, 6, 7, 8, 9, 12] []) z0 (qm_X13_join_12 K go x1 x2 x3 x4 x5 x6 x7 x8 t0 t1 z) := by
  unfold qm_X13_join_12
  exact (fo_wrI (Or.inr (Or.inr (by decide))) hz (fun z49 h_z49 => (hgo 11 _ _ _ _ _ _ _ _ _ _ z49 h_z49)))
theorem fq_X13_join {K : Nat} {z0 : ow_MS}   : ∀ (k L : Nat) (x1 : Int32) (x2 : Int32) (x3 : Int32) (x4 : Int32) (x5 : Int32) (x6 : Int32) (x7 : Int32) (x8 : Int32) (t0 : Int32) (t1 : Int32) (z : ow_MS), fr (pf [1, 2, 3, 4, 5, 6, 7, 8, 9, 12] []) z0 z → Fo Prod.snd (pf [1, 2, 3, 4, 5, 6, 7, 8, 9, 12] []) z0 (q_X13_join K k L x1 x2 x3 x4 x5 x6 x7 x8 t0 t1 z)
  | 0 => by
    intros
    exact fo_none
  | k + 1 => by
    intro L x1 x2 x3 x4 x5 x6 x7 x8 t0 t1 z hz 
    show Fo Prod.snd (pf [1, 2, 3, 4, 5, 6, 7, 8, 9, 12] []) z0 (qb_X13_join K (q_X13_join K k) L x1 x2 x3 x4 x5 x6 x7 x8 t0 t1 z)
    unfold qb_X13_join
    split
    · exact fb_X13_join_0 (fq_X13_join k) hz 
    · exact fb_X13_join_1 (fq_X13_join k) hz 
    · exact fb_X13_join_2 (fq_X13_join k) hz 
    · exact fb_X13_join_3 (fq_X13_join k) hz 
    · exact fb_X13_join_4 (fq_X13_join k) hz 
    · exact fb_X13_join_5 (fq_X13_join k) hz 
    · exact fb_X13_join_6 (fq_X13_join k) hz 
    · exact fb_X13_join_7 (fq_X13_join k) hz 
    · exact fb_X13_join_8 (fq_X13_join k) hz 
    · exact fb_X13_join_9 (fq_X13_join k) hz 
    · exact fb_X13_join_10 (fq_X13_join k) hz 
    · exact fb_X13_join_11 (fq_X13_join k) hz 
    · exact fb_X13_join_12 (fq_X13_join k) hz 
    · exact fo_none
theorem ff_X13_join {K : Nat} {x1 : Int32} {x2 : Int32} {x3 : Int32} {x4 : Int32} {z : ow_MS}  : Fo Prod.snd (pf [1, 2, 3, 4, 5, 6, 7, 8, 9, 12] []) z (qe_X13_join K x1 x2 x3 x4 z) := fq_X13_join K 0 _ _ _ _ _ _ _ _ _ _ z fr_rf 
theorem fb_X12_copy_0 {K : Nat} {z0 z : ow_MS}  {go : Nat → Int32 → Int32 → Nat → Nat → ow_MS → Option ow_MS} {x2 : Int32} {x3 : Int32} {r0 : Nat} {r1 : Nat}  (hgo : ∀ (L : Nat) (x2 : Int32) (x3 : Int32) (r0 : Nat) (r1 : Nat) (z : ow_MS), fr (pf [] []) z0 z → (L = 0 ∨ L = 1 ∨ L = 2 → 1000 ≤ r0) → (L = 0 ∨ L = 1 ∨ L = 2 → 1000 ≤ r1) → Fo id (pf [] []) z0 (go L x2 x3 r0 r1 z)) (hz : fr (pf [] []) z0 z) (hr0 : 1000 ≤ r0) (hr1 : 1000 ≤ r1) : Fo id (pf [] []) z0 (qm_X12_copy_0 K go x2 x3 r0 r1 z) := by
  unfold qm_X12_copy_0
  exact (fo_cs0 (ff_X12_clear (by first | omega | decide)) (pf_sub (by decide) pf_0) hz (fun z1 h_z1 => (hgo 1 _ _ _ _ z1 h_z1 (fun _ => (by first | omega | decide)) (fun _ => (by first | omega | decide)))))
theorem fb_X12_copy_1 {K : Nat} {z0 z : ow_MS}  {go : Nat → Int32 → Int32 → Nat → Nat → ow_MS → Option ow_MS} {x2 : Int32} {x3 : Int32} {r0 : Nat} {r1 : Nat}  (hgo : ∀ (L : Nat) (x2 : Int32) (x3 : Int32) (r0 : Nat) (r1 : Nat) (z : ow_MS), fr (pf [] []) z0 z → (L = 0 ∨ L = 1 ∨ L = 2 → 1000 ≤ r0) → (L = 0 ∨ L = 1 ∨ L = 2 → 1000 ≤ r1) → Fo id (pf [] []) z0 (go L x2 x3 r0 r1 z)) (hz : fr (pf [] []) z0 z) (hr0 : 1000 ≤ r0) (hr1 : 1000 ≤ r1) : Fo id (pf [] []) z0 (qm_X12_copy_1 K go x2 x3 r0 r1 z) := by
  unfold qm_X12_copy_1
  exact (fo_rdF (fun v2 => (fo_if (fo_cs0 (ff_X12_signsOf (by first | omega | decide) (by first | omega | decide)) (pf_sub (by decide) pf_0) hz (fun z3 h_z3 => (fo_some h_z3))) (fo_rdI (fun v4 => (hgo 2 _ _ _ _ z hz (fun _ => (by first | omega | decide)) (fun _ => (by first | omega | decide))))))))
theorem fb_X12_copy_2 {K : Nat} {z0 z : ow_MS}  {go : Nat → Int32 → Int32 → Nat → Nat → ow_MS → Option ow_MS} {x2 : Int32} {x3 : Int32} {r0 : Nat} {r1 : Nat}  (hgo : ∀ (L : Nat) (x2 : Int32) (x3 : Int32) (r0 : Nat) (r1 : Nat) (z : ow_MS), fr (pf [] []) z0 z → (L = 0 ∨ L = 1 ∨ L = 2 → 1000 ≤ r0) → (L = 0 ∨ L = 1 ∨ L = 2 → 1000 ≤ r1) → Fo id (pf [] []) z0 (go L x2 x3 r0 r1 z)) (hz : fr (pf [] []) z0 z) (hr0 : 1000 ≤ r0) (hr1 : 1000 ≤ r1) : Fo id (pf [] []) z0 (qm_X12_copy_2 K go x2 x3 r0 r1 z) := by
  unfold qm_X12_copy_2
  exact (fo_rdI (fun v5 => (fo_if (fo_cs0 (ff_X12_end (by first | omega | decide)) (pf_sub (by decide) pf_0) hz (fun z6 h_z6 => (hgo 1 _ _ _ _ z6 h_z6 (fun _ => (by first | omega | decide)) (fun _ => (by first | omega | decide))))) (fo_rdI (fun v7 => (fo_rdI (fun v8 => (fo_cs0 (ff_X12_add (by first | omega | decide)) (pf_sub (by decide) pf_0) hz (fun z9 h_z9 => (hgo 2 _ _ _ _ z9 h_z9 (fun _ => (by first | omega | decide)) (fun _ => (by first | omega | decide))))))))))))
theorem fq_X12_copy {K : Nat} {z0 : ow_MS}   : ∀ (k L : Nat) (x2 : Int32) (x3 : Int32) (r0 : Nat) (r1 : Nat) (z : ow_MS), fr (pf [] []) z0 z → (L = 0 ∨ L = 1 ∨ L = 2 → 1000 ≤ r0) → (L = 0 ∨ L = 1 ∨ L = 2 → 1000 ≤ r1) → Fo id (pf [] []) z0 (q_X12_copy K k L x2 x3 r0 r1 z)
  | 0 => by
    intros
    exact fo_none
  | k + 1 => by
    intro L x2 x3 r0 r1 z hz h9_r0 h9_r1
    show Fo id (pf [] []) z0 (qb_X12_copy K (q_X12_copy K k) L x2 x3 r0 r1 z)
    unfold qb_X12_copy
    split
    · exact fb_X12_copy_0 (fq_X12_copy k) hz (h9_r0 (by decide)) (h9_r1 (by decide))
    · exact fb_X12_copy_1 (fq_X12_copy k) hz (h9_r0 (by decide)) (h9_r1 (by decide))
    · exact fb_X12_copy_2 (fq_X12_copy k) hz (h9_r0 (by decide)) (h9_r1 (by decide))
    · exact fo_none
theorem ff_X12_copy {K : Nat} {r0 : Nat} {r1 : Nat} {z : ow_MS} (hr0 : 1000 ≤ r0) (hr1 : 1000 ≤ r1) : Fo id (pf [] []) z (qe_X12_copy K r0 r1 z) := fq_X12_copy K 0 _ _ _ _ z fr_rf (fun _ => (by first | omega | decide)) (fun _ => (by first | omega | decide))
theorem fb_X13_offerRow_0 {K : Nat} {z0 z : ow_MS} {pr1 : Nat} {go : Nat → Int32 → Int32 → Int32 → Nat → ow_MS → Option (Int32 × ow_MS)} {x2 : Int32} {x3 : Int32} {x4 : Int32} {r1 : Nat}  (hgo : ∀ (L : Nat) (x2 : Int32) (x3 : Int32) (x4 : Int32) (r1 : Nat) (z : ow_MS), fr (pf [] [pr1]) z0 z → (L = 0 ∨ L = 1 ∨ L = 2 → r1 = pr1) → Fo Prod.snd (pf [] [pr1]) z0 (go L x2 x3 x4 r1 z)) (hz : fr (pf [] [pr1]) z0 z) (e_r1 : r1 = pr1) : Fo Prod.snd (pf [] [pr1]) z0 (qm_X13_offerRow_0 K go x2 x3 x4 r1 z) := by
  unfold qm_X13_offerRow_0
  exact (hgo 1 _ _ _ _ z hz (fun _ => e_r1))
theorem fb_X13_offerRow_1 {K : Nat} {z0 z : ow_MS} {pr1 : Nat} {go : Nat → Int32 → Int32 → Int32 → Nat → ow_MS → Option (Int32 × ow_MS)} {x2 : Int32} {x3 : Int32} {x4 : Int32} {r1 : Nat}  (hgo : ∀ (L : Nat) (x2 : Int32) (x3 : Int32) (x4 : Int32) (r1 : Nat) (z : ow_MS), fr (pf [] [pr1]) z0 z → (L = 0 ∨ L = 1 ∨ L = 2 → r1 = pr1) → Fo Prod.snd (pf [] [pr1]) z0 (go L x2 x3 x4 r1 z)) (hz : fr (pf [] [pr1]) z0 z) (e_r1 : r1 = pr1) : Fo Prod.snd (pf [] [pr1]) z0 (qm_X13_offerRow_1 K go x2 x3 x4 r1 z) := by
  unfold qm_X13_offerRow_1
  exact (fo_if (fo_if (fo_some hz) (hgo 2 _ _ _ _ z hz (fun _ => e_r1))) (fo_cs1 (ff_X13_isSame) (pf_sub (by decide) pf_0) hz (fun v2 z1 h_z1 => (fo_if (hgo 1 _ _ _ _ z1 h_z1 (fun _ => e_r1)) (fo_some h_z1)))))
theorem fb_X13_offerRow_2 {K : Nat} {z0 z : ow_MS} {pr1 : Nat} {go : Nat → Int32 → Int32 → Int32 → Nat → ow_MS → Option (Int32 × ow_MS)} {x2 : Int32} {x3 : Int32} {x4 : Int32} {r1 : Nat}  (hgo : ∀ (L : Nat) (x2 : Int32) (x3 : Int32) (x4 : Int32) (r1 : Nat) (z : ow_MS), fr (pf [] [pr1]) z0 z → (L = 0 ∨ L = 1 ∨ L = 2 → r1 = pr1) → Fo Prod.snd (pf [] [pr1]) z0 (go L x2 x3 x4 r1 z)) (hz : fr (pf [] [pr1]) z0 z) (e_r1 : r1 = pr1) : Fo Prod.snd (pf [] [pr1]) z0 (qm_X13_offerRow_2 K go x2 x3 x4 r1 z) := by
  unfold qm_X13_offerRow_2
  exact (fo_rdI (fun v3 => (fo_if (fo_some hz) (fo_rdI (fun v4 => (fo_wrI (Or.inr (Or.inl (by rw [e_r1]; simp))) hz (fun z5 h_z5 => (hgo 2 _ _ _ _ z5 h_z5 (fun _ => e_r1)))))))))
theorem fq_X13_offerRow {K : Nat} {z0 : ow_MS} {pr1 : Nat}  : ∀ (k L : Nat) (x2 : Int32) (x3 : Int32) (x4 : Int32) (r1 : Nat) (z : ow_MS), fr (pf [] [pr1]) z0 z → (L = 0 ∨ L = 1 ∨ L = 2 → r1 = pr1) → Fo Prod.snd (pf [] [pr1]) z0 (q_X13_offerRow K k L x2 x3 x4 r1 z)
  | 0 => by
    intros
    exact fo_none
  | k + 1 => by
    intro L x2 x3 x4 r1 z hz h9_r1
    show Fo Prod.snd (pf [] [pr1]) z0 (qb_X13_offerRow K (q_X13_offerRow K k) L x2 x3 x4 r1 z)
    unfold qb_X13_offerRow
    split
    · exact fb_X13_offerRow_0 (fq_X13_offerRow k) hz (h9_r1 (by decide))
    · exact fb_X13_offerRow_1 (fq_X13_offerRow k) hz (h9_r1 (by decide))
    · exact fb_X13_offerRow_2 (fq_X13_offerRow k) hz (h9_r1 (by decide))
    · exact fo_none
theorem ff_X13_offerRow {K : Nat} {r1 : Nat} {x2 : Int32} {x3 : Int32} {z : ow_MS}  : Fo Prod.snd (pf [] [r1]) z (qe_X13_offerRow K r1 x2 x3 z) := fq_X13_offerRow (pr1 := r1) K 0 _ _ _ _ z fr_rf (fun _ => rfl)
theorem fb_X13_visitsOf_0 {K : Nat} {z0 z : ow_MS}  {go : Nat → Int32 → Int32 → Int32 → Nat → Int32 → Int32 → ow_MS → Option (Int32 × ow_MS)} {x1 : Int32} {x2 : Int32} {x3 : Int32} {r0 : Nat} {t0 : Int32} {t1 : Int32}  (hgo : ∀ (L : Nat) (x1 : Int32) (x2 : Int32) (x3 : Int32) (r0 : Nat) (t0 : Int32) (t1 : Int32) (z : ow_MS), fr (pf [] []) z0 z → Fo Prod.snd (pf [] []) z0 (go L x1 x2 x3 r0 t0 t1 z)) (hz : fr (pf [] []) z0 z)  : Fo Prod.snd (pf [] []) z0 (qm_X13_visitsOf_0 K go x1 x2 x3 r0 t0 t1 z) := by
  unfold qm_X13_visitsOf_0
  exact (hgo 1 _ _ _ _ _ _ z hz)
theorem fb_X13_visitsOf_1 {K : Nat} {z0 z : ow_MS}  {go : Nat → Int32 → Int32 → Int32 → Nat → Int32 → Int32 → ow_MS → Option (Int32 × ow_MS)} {x1 : Int32} {x2 : Int32} {x3 : Int32} {r0 : Nat} {t0 : Int32} {t1 : Int32}  (hgo : ∀ (L : Nat) (x1 : Int32) (x2 : Int32) (x3 : Int32) (r0 : Nat) (t0 : Int32) (t1 : Int32) (z : ow_MS), fr (pf [] []) z0 z → Fo Prod.snd (pf [] []) z0 (go L x1 x2 x3 r0 t0 t1 z)) (hz : fr (pf [] []) z0 z)  : Fo Prod.snd (pf [] []) z0 (qm_X13_visitsOf_1 K go x1 x2 x3 r0 t0 t1 z) := by
  unfold qm_X13_visitsOf_1
  exact (fo_rdI (fun v1 => (fo_if (fo_some hz) (fo_rdI (fun v2 => (fo_if (hgo 2 _ _ _ _ _ _ z hz) (hgo 2 _ _ _ _ _ _ z hz)))))))
theorem fb_X13_visitsOf_2 {K : Nat} {z0 z : ow_MS}  {go : Nat → Int32 → Int32 → Int32 → Nat → Int32 → Int32 → ow_MS → Option (Int32 × ow_MS)} {x1 : Int32} {x2 : Int32} {x3 : Int32} {r0 : Nat} {t0 : Int32} {t1 : Int32}  (hgo : ∀ (L : Nat) (x1 : Int32) (x2 : Int32) (x3 : Int32) (r0 : Nat) (t0 : Int32) (t1 : Int32) (z : ow_MS), fr (pf [] []) z0 z → Fo Prod.snd (pf [] []) z0 (go L x1 x2 x3 r0 t0 t1 z)) (hz : fr (pf [] []) z0 z)  : Fo Prod.snd (pf [] []) z0 (qm_X13_visitsOf_2 K go x1 x2 x3 r0 t0 t1 z) := by
  unfold qm_X13_visitsOf_2
  exact (hgo 1 _ _ _ _ _ _ z hz)
theorem fq_X13_visitsOf {K : Nat} {z0 : ow_MS}   : ∀ (k L : Nat) (x1 : Int32) (x2 : Int32) (x3 : Int32) (r0 : Nat) (t0 : Int32) (t1 : Int32) (z : ow_MS), fr (pf [] []) z0 z → Fo Prod.snd (pf [] []) z0 (q_X13_visitsOf K k L x1 x2 x3 r0 t0 t1 z)
  | 0 => by
    intros
    exact fo_none
  | k + 1 => by
    intro L x1 x2 x3 r0 t0 t1 z hz 
    show Fo Prod.snd (pf [] []) z0 (qb_X13_visitsOf K (q_X13_visitsOf K k) L x1 x2 x3 r0 t0 t1 z)
    unfold qb_X13_visitsOf
    split
    · exact fb_X13_visitsOf_0 (fq_X13_visitsOf k) hz 
    · exact fb_X13_visitsOf_1 (fq_X13_visitsOf k) hz 
    · exact fb_X13_visitsOf_2 (fq_X13_visitsOf k) hz 
    · exact fo_none
theorem ff_X13_visitsOf {K : Nat} {r0 : Nat} {x1 : Int32} {z : ow_MS}  : Fo Prod.snd (pf [] []) z (qe_X13_visitsOf K r0 x1 z) := fq_X13_visitsOf K 0 _ _ _ _ _ _ z fr_rf 
theorem ff_X13_isLesser {K : Nat} {r0 : Nat} {x1 : Int32} {r2 : Nat} {x3 : Int32} {z : ow_MS}  : Fo Prod.snd (pf [] []) z (qe_X13_isLesser K r0 x1 r2 x3 z) := by
  unfold qe_X13_isLesser qm_X13_isLesser_0
  exact (fo_cs1 (ff_X13_visitsOf) (pf_sub (by decide) pf_0) fr_rf (fun v2 z1 h_z1 => (fo_cs1 (ff_X13_visitsOf) (pf_sub (by decide) pf_0) h_z1 (fun v4 z3 h_z3 => (fo_if (fo_cs1 (ff_X13_isBelow) (pf_sub (by decide) pf_0) h_z3 (fun v6 z5 h_z5 => (fo_okZ (fo_some h_z5)))) (fo_if (fo_okZ (fo_some h_z3)) (fo_okZ (fo_some h_z3))))))))
theorem fb_X13_offerList_0 {K : Nat} {z0 z : ow_MS}  {go : Nat → Int32 → Int32 → Int32 → ow_MS → Option ow_MS} {x1 : Int32} {x2 : Int32} {x3 : Int32}  (hgo : ∀ (L : Nat) (x1 : Int32) (x2 : Int32) (x3 : Int32) (z : ow_MS), fr (pf [20, 21, 22] []) z0 z → Fo id (pf [20, 21, 22] []) z0 (go L x1 x2 x3 z)) (hz : fr (pf [20, 21, 22] []) z0 z)  : Fo id (pf [20, 21, 22] []) z0 (qm_X13_offerList_0 K go x1 x2 x3 z) := by
  unfold qm_X13_offerList_0
  exact (fo_rdF (fun v1 => (hgo 1 _ _ _ z hz)))
theorem fb_X13_offerList_1 {K : Nat} {z0 z : ow_MS}  {go : Nat → Int32 → Int32 → Int32 → ow_MS → Option ow_MS} {x1 : Int32} {x2 : Int32} {x3 : Int32}  (hgo : ∀ (L : Nat) (x1 : Int32) (x2 : Int32) (x3 : Int32) (z : ow_MS), fr (pf [20, 21, 22] []) z0 z → Fo id (pf [20, 21, 22] []) z0 (go L x1 x2 x3 z)) (hz : fr (pf [20, 21, 22] []) z0 z)  : Fo id (pf [20, 21, 22] []) z0 (qm_X13_offerList_1 K go x1 x2 x3 z) := by
  unfold qm_X13_offerList_1
  exact (fo_if (fo_rdF (fun v2 => (fo_if (hgo 3 _ _ _ z hz) (fo_rdI (fun v3 => (fo_cs1 (ff_X13_isSame) (pf_sub (by decide) pf_0) hz (fun v5 z4 h_z4 => (fo_if (hgo 3 _ _ _ z4 h_z4) (fo_some h_z4))))))))) (fo_nzI (fo_rdI (fun v6 => (fo_cs1 (ff_X13_isLesser) (pf_sub (by decide) pf_0) hz (fun v8 z7 h_z7 => (fo_if (hgo 2 _ _ _ z7 h_z7) (hgo 2 _ _ _ z7 h_z7))))))))
theorem fb_X13_offerList_2 {K : Nat} {z0 z : ow_MS}  {go : Nat → Int32 → Int32 → Int32 → ow_MS → Option ow_MS} {x1 : Int32} {x2 : Int32} {x3 : Int32}  (hgo : ∀ (L : Nat) (x1 : Int32) (x2 : Int32) (x3 : Int32) (z : ow_MS), fr (pf [20, 21, 22] []) z0 z → Fo id (pf [20, 21, 22] []) z0 (go L x1 x2 x3 z)) (hz : fr (pf [20, 21, 22] []) z0 z)  : Fo id (pf [20, 21, 22] []) z0 (qm_X13_offerList_2 K go x1 x2 x3 z) := by
  unfold qm_X13_offerList_2
  exact (hgo 1 _ _ _ z hz)
theorem fb_X13_offerList_3 {K : Nat} {z0 z : ow_MS}  {go : Nat → Int32 → Int32 → Int32 → ow_MS → Option ow_MS} {x1 : Int32} {x2 : Int32} {x3 : Int32}  (hgo : ∀ (L : Nat) (x1 : Int32) (x2 : Int32) (x3 : Int32) (z : ow_MS), fr (pf [20, 21, 22] []) z0 z → Fo id (pf [20, 21, 22] []) z0 (go L x1 x2 x3 z)) (hz : fr (pf [20, 21, 22] []) z0 z)  : Fo id (pf [20, 21, 22] []) z0 (qm_X13_offerList_3 K go x1 x2 x3 z) := by
  unfold qm_X13_offerList_3
  exact (fo_rdF (fun v9 => (hgo 4 _ _ _ z hz)))
theorem fb_X13_offerList_4 {K : Nat} {z0 z : ow_MS}  {go : Nat → Int32 → Int32 → Int32 → ow_MS → Option ow_MS} {x1 : Int32} {x2 : Int32} {x3 : Int32}  (hgo : ∀ (L : Nat) (x1 : Int32) (x2 : Int32) (x3 : Int32) (z : ow_MS), fr (pf [20, 21, 22] []) z0 z → Fo id (pf [20, 21, 22] []) z0 (go L x1 x2 x3 z)) (hz : fr (pf [20, 21, 22] []) z0 z)  : Fo id (pf [20, 21, 22] []) z0 (qm_X13_offerList_4 K go x1 x2 x3 z) := by
  unfold qm_X13_offerList_4
  exact (fo_if (fo_rdF (fun v10 => (fo_wrI (Or.inl (by decide)) hz (fun z11 h_z11 => (hgo 5 _ _ _ z11 h_z11))))) (fo_rdI (fun v12 => (fo_wrI (Or.inl (by decide)) hz (fun z13 h_z13 => (hgo 4 _ _ _ z13 h_z13))))))
theorem fb_X13_offerList_5 {K : Nat} {z0 z : ow_MS}  {go : Nat → Int32 → Int32 → Int32 → ow_MS → Option ow_MS} {x1 : Int32} {x2 : Int32} {x3 : Int32}  (hgo : ∀ (L : Nat) (x1 : Int32) (x2 : Int32) (x3 : Int32) (z : ow_MS), fr (pf [20, 21, 22] []) z0 z → Fo id (pf [20, 21, 22] []) z0 (go L x1 x2 x3 z)) (hz : fr (pf [20, 21, 22] []) z0 z)  : Fo id (pf [20, 21, 22] []) z0 (qm_X13_offerList_5 K go x1 x2 x3 z) := by
  unfold qm_X13_offerList_5
  exact (fo_rdI (fun v14 => (fo_if (fo_rdF (fun v15 => (fo_wrF (Or.inl (by decide)) hz (fun z16 h_z16 => (fo_some h_z16))))) (fo_rdF (fun v17 => (fo_rdI (fun v18 => (fo_wrI (Or.inl (by decide)) hz (fun z19 h_z19 => (hgo 5 _ _ _ z19 h_z19))))))))))
theorem fq_X13_offerList {K : Nat} {z0 : ow_MS}   : ∀ (k L : Nat) (x1 : Int32) (x2 : Int32) (x3 : Int32) (z : ow_MS), fr (pf [20, 21, 22] []) z0 z → Fo id (pf [20, 21, 22] []) z0 (q_X13_offerList K k L x1 x2 x3 z)
  | 0 => by
    intros
    exact fo_none
  | k + 1 => by
    intro L x1 x2 x3 z hz 
    show Fo id (pf [20, 21, 22] []) z0 (qb_X13_offerList K (q_X13_offerList K k) L x1 x2 x3 z)
    unfold qb_X13_offerList
    split
    · exact fb_X13_offerList_0 (fq_X13_offerList k) hz 
    · exact fb_X13_offerList_1 (fq_X13_offerList k) hz 
    · exact fb_X13_offerList_2 (fq_X13_offerList k) hz 
    · exact fb_X13_offerList_3 (fq_X13_offerList k) hz 
    · exact fb_X13_offerList_4 (fq_X13_offerList k) hz 
    · exact fb_X13_offerList_5 (fq_X13_offerList k) hz 
    · exact fo_none
theorem ff_X13_offerList {K : Nat} {z : ow_MS}  : Fo id (pf [20, 21, 22] []) z (qe_X13_offerList K z) := fq_X13_offerList K 0 _ _ _ z fr_rf 
theorem ff_X13_offer {K : Nat} {z : ow_MS}  : Fo id (pf [2, 3, 4, 5, 6, 7, 8, 9, 20, 21, 22, 23, 24, 25, 26, 27, 29] []) z (qe_X13_offer K z) := by
  unfold qe_X13_offer qm_X13_offer_0
  exact (fo_cs0 (ff_X13_pack (by first | omega | decide)) (pf_sub (by decide) (pf_1 (Or.inl (by decide)))) fr_rf (fun z1 h_z1 => (fo_rdF (fun v2 => (fo_if (fo_rdF (fun v3 => (fo_cs1 (ff_X13_offerRow) (pf_sub (by decide) (pf_1 (Or.inl (by decide)))) h_z1 (fun v5 z4 h_z4 => (fo_wrF (Or.inl (by decide)) h_z4 (fun z6 h_z6 => (fo_some h_z6))))))) (fo_if (fo_cs0 (ff_X13_offerList) (pf_sub (by decide) pf_0) h_z1 (fun z7 h_z7 => (fo_some h_z7))) (fo_if (fo_rdF (fun v8 => (fo_cs1 (ff_X13_isSame) (pf_sub (by decide) pf_0) h_z1 (fun v10 z9 h_z9 => (fo_okZ (fo_wrF (Or.inl (by decide)) h_z9 (fun z11 h_z11 => (fo_some h_z11)))))))) (fo_if (fo_rdF (fun v12 => (fo_cs1 (ff_X13_offerRow) (pf_sub (by decide) (pf_1 (Or.inl (by decide)))) h_z1 (fun v14 z13 h_z13 => (fo_wrF (Or.inl (by decide)) h_z13 (fun z15 h_z15 => (fo_some h_z15))))))) fo_none))))))))
theorem fb_X13_threeChange_0 {K : Nat} {z0 z : ow_MS}  {go : Nat → Int32 → Int32 → Int32 → Int32 → Int32 → Nat → Int32 → Int32 → Int32 → ow_MS → Option ow_MS} {x2 : Int32} {x3 : Int32} {x4 : Int32} {x5 : Int32} {x6 : Int32} {r1 : Nat} {t0 : Int32} {t1 : Int32} {t2 : Int32}  (hgo : ∀ (L : Nat) (x2 : Int32) (x3 : Int32) (x4 : Int32) (x5 : Int32) (x6 : Int32) (r1 : Nat) (t0 : Int32) (t1 : Int32) (t2 : Int32) (z : ow_MS), fr (pf [2, 3, 4, 5, 6, 7, 8, 9, 20, 21, 22, 23, 24, 25, 26, 27, 29, 33, 34] []) z0 z → (L = 0 ∨ L = 1 ∨ L = 2 ∨ L = 3 ∨ L = 4 ∨ L = 5 ∨ L = 6 ∨ L = 7 ∨ L = 8 → 1000 ≤ r1) → Fo id (pf [2, 3, 4, 5, 6, 7, 8, 9, 20, 21, 22, 23, 24, 25, 26, 27, 29, 33, 34] []) z0 (go L x2 x3 x4 x5 x6 r1 t0 t1 t2 z)) (hz : fr (pf [2, 3, 4, 5, 6, 7, 8, 9, 20, 21, 22, 23, 24, 25, 26, 27, 29, 33, 34] []) z0 z) (hr1 : 1000 ≤ r1) : Fo id (pf [2, 3, 4, 5, 6, 7, 8, 9, 20, 21, 22, 23, 24, 25, 26, 27, 29, 33, 34] []) z0 (qm_X13_threeChange_0 K go x2 x3 x4 x5 x6 r1 t0 t1 t2 z) := by
  unfold qm_X13_threeChange_0
  exact (fo_cs0 (ff_X12_walk (by first | omega | decide)) (pf_sub (by decide) pf_0) hz (fun z1 h_z1 => (hgo 1 _ _ _ _ _ _ _ _ _ z1 h_z1 (fun _ => (by first | omega | decide)))))
theorem fb_X13_threeChange_1 {K : Nat} {z0 z : ow_MS}  {go : Nat → Int32 → Int32 → Int32 → Int32 → Int32 → Nat → Int32 → Int32 → Int32 → ow_MS → Option ow_MS} {x2 : Int32} {x3 : Int32} {x4 : Int32} {x5 : Int32} {x6 : Int32} {r1 : Nat} {t0 : Int32} {t1 : Int32} {t2 : Int32}  (hgo : ∀ (L : Nat) (x2 : Int32) (x3 : Int32) (x4 : Int32) (x5 : Int32) (x6 : Int32) (r1 : Nat) (t0 : Int32) (t1 : Int32) (t2 : Int32) (z : ow_MS), fr (pf [2, 3, 4, 5, 6, 7, 8, 9, 20, 21, 22, 23, 24, 25, 26, 27, 29, 33, 34] []) z0 z → (L = 0 ∨ L = 1 ∨ L = 2 ∨ L = 3 ∨ L = 4 ∨ L = 5 ∨ L = 6 ∨ L = 7 ∨ L = 8 → 1000 ≤ r1) → Fo id (pf [2, 3, 4, 5, 6, 7, 8, 9, 20, 21, 22, 23, 24, 25, 26, 27, 29, 33, 34] []) z0 (go L x2 x3 x4 x5 x6 r1 t0 t1 t2 z)) (hz : fr (pf [2, 3, 4, 5, 6, 7, 8, 9, 20, 21, 22, 23, 24, 25, 26, 27, 29, 33, 34] []) z0 z) (hr1 : 1000 ≤ r1) : Fo id (pf [2, 3, 4, 5, 6, 7, 8, 9, 20, 21, 22, 23, 24, 25, 26, 27, 29, 33, 34] []) z0 (qm_X13_threeChange_1 K go x2 x3 x4 x5 x6 r1 t0 t1 t2 z) := by
  unfold qm_X13_threeChange_1
  exact (fo_rdF (fun v2 => (fo_if (fo_some hz) (fo_rdI (fun v3 => (fo_if (hgo 2 _ _ _ _ _ _ _ _ _ z hz (fun _ => (by first | omega | decide))) (hgo 8 _ _ _ _ _ _ _ _ _ z hz (fun _ => (by first | omega | decide)))))))))
theorem fb_X13_threeChange_2 {K : Nat} {z0 z : ow_MS}  {go : Nat → Int32 → Int32 → Int32 → Int32 → Int32 → Nat → Int32 → Int32 → Int32 → ow_MS → Option ow_MS} {x2 : Int32} {x3 : Int32} {x4 : Int32} {x5 : Int32} {x6 : Int32} {r1 : Nat} {t0 : Int32} {t1 : Int32} {t2 : Int32}  (hgo : ∀ (L : Nat) (x2 : Int32) (x3 : Int32) (x4 : Int32) (x5 : Int32) (x6 : Int32) (r1 : Nat) (t0 : Int32) (t1 : Int32) (t2 : Int32) (z : ow_MS), fr (pf [2, 3, 4, 5, 6, 7, 8, 9, 20, 21, 22, 23, 24, 25, 26, 27, 29, 33, 34] []) z0 z → (L = 0 ∨ L = 1 ∨ L = 2 ∨ L = 3 ∨ L = 4 ∨ L = 5 ∨ L = 6 ∨ L = 7 ∨ L = 8 → 1000 ≤ r1) → Fo id (pf [2, 3, 4, 5, 6, 7, 8, 9, 20, 21, 22, 23, 24, 25, 26, 27, 29, 33, 34] []) z0 (go L x2 x3 x4 x5 x6 r1 t0 t1 t2 z)) (hz : fr (pf [2, 3, 4, 5, 6, 7, 8, 9, 20, 21, 22, 23, 24, 25, 26, 27, 29, 33, 34] []) z0 z) (hr1 : 1000 ≤ r1) : Fo id (pf [2, 3, 4, 5, 6, 7, 8, 9, 20, 21, 22, 23, 24, 25, 26, 27, 29, 33, 34] []) z0 (qm_X13_threeChange_2 K go x2 x3 x4 x5 x6 r1 t0 t1 t2 z) := by
  unfold qm_X13_threeChange_2
  exact (fo_rdF (fun v4 => (fo_if (fo_if (hgo 8 _ _ _ _ _ _ _ _ _ z hz (fun _ => (by first | omega | decide))) (fo_rdI (fun v5 => (fo_rdI (fun v6 => (fo_if (hgo 8 _ _ _ _ _ _ _ _ _ z hz (fun _ => (by first | omega | decide))) (fo_rdI (fun v7 => (fo_rdI (fun v8 => (fo_if (hgo 8 _ _ _ _ _ _ _ _ _ z hz (fun _ => (by first | omega | decide))) (fo_rdI (fun v9 => (fo_rdI (fun v10 => (fo_if (hgo 8 _ _ _ _ _ _ _ _ _ z hz (fun _ => (by first | omega | decide))) (fo_cs0 (ff_X12_copy (by first | omega | decide) (by first | omega | decide)) (pf_sub (by decide) pf_0) hz (fun z11 h_z11 => (hgo 7 _ _ _ _ _ _ _ _ _ z11 h_z11 (fun _ => (by first | omega | decide))))))))))))))))))))) (fo_rdI (fun v12 => (fo_if (fo_wrI (Or.inl (by decide)) hz (fun z13 h_z13 => (fo_if (fo_rdI (fun v14 => (hgo 3 _ _ _ _ _ _ _ _ _ z13 h_z13 (fun _ => (by first | omega | decide))))) (hgo 3 _ _ _ _ _ _ _ _ _ z13 h_z13 (fun _ => (by first | omega | decide)))))) (hgo 6 _ _ _ _ _ _ _ _ _ z hz (fun _ => (by first | omega | decide)))))))))
theorem fb_X13_threeChange_3 {K : Nat} {z0 z : ow_MS}  {go : Nat → Int32 → Int32 → Int32 → Int32 → Int32 → Nat → Int32 → Int32 → Int32 → ow_MS → Option ow_MS} {x2 : Int32} {x3 : Int32} {x4 : Int32} {x5 : Int32} {x6 : Int32} {r1 : Nat} {t0 : Int32} {t1 : Int32} {t2 : Int32}  (hgo : ∀ (L : Nat) (x2 : Int32) (x3 : Int32) (x4 : Int32) (x5 : Int32) (x6 : Int32) (r1 : Nat) (t0 : Int32) (t1 : Int32) (t2 : Int32) (z : ow_MS), fr (pf [2, 3, 4, 5, 6, 7, 8, 9, 20, 21, 22, 23, 24, 25, 26, 27, 29, 33, 34] []) z0 z → (L = 0 ∨ L = 1 ∨ L = 2 ∨ L = 3 ∨ L = 4 ∨ L = 5 ∨ L = 6 ∨ L = 7 ∨ L = 8 → 1000 ≤ r1) → Fo id (pf [2, 3, 4, 5, 6, 7, 8, 9, 20, 21, 22, 23, 24, 25, 26, 27, 29, 33, 34] []) z0 (go L x2 x3 x4 x5 x6 r1 t0 t1 t2 z)) (hz : fr (pf [2, 3, 4, 5, 6, 7, 8, 9, 20, 21, 22, 23, 24, 25, 26, 27, 29, 33, 34] []) z0 z) (hr1 : 1000 ≤ r1) : Fo id (pf [2, 3, 4, 5, 6, 7, 8, 9, 20, 21, 22, 23, 24, 25, 26, 27, 29, 33, 34] []) z0 (qm_X13_threeChange_3 K go x2 x3 x4 x5 x6 r1 t0 t1 t2 z) := by
  unfold qm_X13_threeChange_3
  exact (fo_rdI (fun v15 => (fo_wrI (Or.inl (by decide)) hz (fun z16 h_z16 => (fo_rdI (fun v17 => (fo_if (fo_rdI (fun v18 => (fo_rdI (fun v19 => (fo_if (hgo 5 _ _ _ _ _ _ _ _ _ z16 h_z16 (fun _ => (by first | omega | decide))) (hgo 4 _ _ _ _ _ _ _ _ _ z16 h_z16 (fun _ => (by first | omega | decide)))))))) (hgo 4 _ _ _ _ _ _ _ _ _ z16 h_z16 (fun _ => (by first | omega | decide))))))))))
theorem fb_X13_threeChange_4 {K : Nat} {z0 z : ow_MS}  {go : Nat → Int32 → Int32 → Int32 → Int32 → Int32 → Nat → Int32 → Int32 → Int32 → ow_MS → Option ow_MS} {x2 : Int32} {x3 : Int32} {x4 : Int32} {x5 : Int32} {x6 : Int32} {r1 : Nat} {t0 : Int32} {t1 : Int32} {t2 : Int32}  (hgo : ∀ (L : Nat) (x2 : Int32) (x3 : Int32) (x4 : Int32) (x5 : Int32) (x6 : Int32) (r1 : Nat) (t0 : Int32) (t1 : Int32) (t2 : Int32) (z : ow_MS), fr (pf [2, 3, 4, 5, 6, 7, 8, 9, 20, 21, 22, 23, 24, 25, 26, 27, 29, 33, 34] []) z0 z → (L = 0 ∨ L = 1 ∨ L = 2 ∨ L = 3 ∨ L = 4 ∨ L = 5 ∨ L = 6 ∨ L = 7 ∨ L = 8 → 1000 ≤ r1) → Fo id (pf [2, 3, 4, 5, 6, 7, 8, 9, 20, 21, 22, 23, 24, 25, 26, 27, 29, 33, 34] []) z0 (go L x2 x3 x4 x5 x6 r1 t0 t1 t2 z)) (hz : fr (pf [2, 3, 4, 5, 6, 7, 8, 9, 20, 21, 22, 23, 24, 25, 26, 27, 29, 33, 34] []) z0 z) (hr1 : 1000 ≤ r1) : Fo id (pf [2, 3, 4, 5, 6, 7, 8, 9, 20, 21, 22, 23, 24, 25, 26, 27, 29, 33, 34] []) z0 (qm_X13_threeChange_4 K go x2 x3 x4 x5 x6 r1 t0 t1 t2 z) := by
  unfold qm_X13_threeChange_4
  exact (hgo 5 _ _ _ _ _ _ _ _ _ z hz (fun _ => (by first | omega | decide)))
theorem fb_X13_threeChange_5 {K : Nat} {z0 z : ow_MS}  {go : Nat → Int32 → Int32 → Int32 → Int32 → Int32 → Nat → Int32 → Int32 → Int32 → ow_MS → Option ow_MS} {x2 : Int32} {x3 : Int32} {x4 : Int32} {x5 : Int32} {x6 : Int32} {r1 : Nat} {t0 : Int32} {t1 : Int32} {t2 : Int32}  (hgo : ∀ (L : Nat) (x2 : Int32) (x3 : Int32) (x4 : Int32) (x5 : Int32) (x6 : Int32) (r1 : Nat) (t0 : Int32) (t1 : Int32) (t2 : Int32) (z : ow_MS), fr (pf [2, 3, 4, 5, 6, 7, 8, 9, 20, 21, 22, 23, 24, 25, 26, 27, 29, 33, 34] []) z0 z → (L = 0 ∨ L = 1 ∨ L = 2 ∨ L = 3 ∨ L = 4 ∨ L = 5 ∨ L = 6 ∨ L = 7 ∨ L = 8 → 1000 ≤ r1) → Fo id (pf [2, 3, 4, 5, 6, 7, 8, 9, 20, 21, 22, 23, 24, 25, 26, 27, 29, 33, 34] []) z0 (go L x2 x3 x4 x5 x6 r1 t0 t1 t2 z)) (hz : fr (pf [2, 3, 4, 5, 6, 7, 8, 9, 20, 21, 22, 23, 24, 25, 26, 27, 29, 33, 34] []) z0 z) (hr1 : 1000 ≤ r1) : Fo id (pf [2, 3, 4, 5, 6, 7, 8, 9, 20, 21, 22, 23, 24, 25, 26, 27, 29, 33, 34] []) z0 (qm_X13_threeChange_5 K go x2 x3 x4 x5 x6 r1 t0 t1 t2 z) := by
  unfold qm_X13_threeChange_5
  exact (hgo 6 _ _ _ _ _ _ _ _ _ z hz (fun _ => (by first | omega | decide)))
theorem fb_X13_threeChange_6 {K : Nat} {z0 z : ow_MS}  {go : Nat → Int32 → Int32 → Int32 → Int32 → Int32 → Nat → Int32 → Int32 → Int32 → ow_MS → Option ow_MS} {x2 : Int32} {x3 : Int32} {x4 : Int32} {x5 : Int32} {x6 : Int32} {r1 : Nat} {t0 : Int32} {t1 : Int32} {t2 : Int32}  (hgo : ∀ (L : Nat) (x2 : Int32) (x3 : Int32) (x4 : Int32) (x5 : Int32) (x6 : Int32) (r1 : Nat) (t0 : Int32) (t1 : Int32) (t2 : Int32) (z : ow_MS), fr (pf [2, 3, 4, 5, 6, 7, 8, 9, 20, 21, 22, 23, 24, 25, 26, 27, 29, 33, 34] []) z0 z → (L = 0 ∨ L = 1 ∨ L = 2 ∨ L = 3 ∨ L = 4 ∨ L = 5 ∨ L = 6 ∨ L = 7 ∨ L = 8 → 1000 ≤ r1) → Fo id (pf [2, 3, 4, 5, 6, 7, 8, 9, 20, 21, 22, 23, 24, 25, 26, 27, 29, 33, 34] []) z0 (go L x2 x3 x4 x5 x6 r1 t0 t1 t2 z)) (hz : fr (pf [2, 3, 4, 5, 6, 7, 8, 9, 20, 21, 22, 23, 24, 25, 26, 27, 29, 33, 34] []) z0 z) (hr1 : 1000 ≤ r1) : Fo id (pf [2, 3, 4, 5, 6, 7, 8, 9, 20, 21, 22, 23, 24, 25, 26, 27, 29, 33, 34] []) z0 (qm_X13_threeChange_6 K go x2 x3 x4 x5 x6 r1 t0 t1 t2 z) := by
  unfold qm_X13_threeChange_6
  exact (hgo 2 _ _ _ _ _ _ _ _ _ z hz (fun _ => (by first | omega | decide)))
theorem fb_X13_threeChange_7 {K : Nat} {z0 z : ow_MS}  {go : Nat → Int32 → Int32 → Int32 → Int32 → Int32 → Nat → Int32 → Int32 → Int32 → ow_MS → Option ow_MS} {x2 : Int32} {x3 : Int32} {x4 : Int32} {x5 : Int32} {x6 : Int32} {r1 : Nat} {t0 : Int32} {t1 : Int32} {t2 : Int32}  (hgo : ∀ (L : Nat) (x2 : Int32) (x3 : Int32) (x4 : Int32) (x5 : Int32) (x6 : Int32) (r1 : Nat) (t0 : Int32) (t1 : Int32) (t2 : Int32) (z : ow_MS), fr (pf [2, 3, 4, 5, 6, 7, 8, 9, 20, 21, 22, 23, 24, 25, 26, 27, 29, 33, 34] []) z0 z → (L = 0 ∨ L = 1 ∨ L = 2 ∨ L = 3 ∨ L = 4 ∨ L = 5 ∨ L = 6 ∨ L = 7 ∨ L = 8 → 1000 ≤ r1) → Fo id (pf [2, 3, 4, 5, 6, 7, 8, 9, 20, 21, 22, 23, 24, 25, 26, 27, 29, 33, 34] []) z0 (go L x2 x3 x4 x5 x6 r1 t0 t1 t2 z)) (hz : fr (pf [2, 3, 4, 5, 6, 7, 8, 9, 20, 21, 22, 23, 24, 25, 26, 27, 29, 33, 34] []) z0 z) (hr1 : 1000 ≤ r1) : Fo id (pf [2, 3, 4, 5, 6, 7, 8, 9, 20, 21, 22, 23, 24, 25, 26, 27, 29, 33, 34] []) z0 (qm_X13_threeChange_7 K go x2 x3 x4 x5 x6 r1 t0 t1 t2 z) := by
  unfold qm_X13_threeChange_7
  exact (fo_if (fo_cs0 (ff_X13_offer) (pf_sub (by decide) pf_0) hz (fun z20 h_z20 => (hgo 8 _ _ _ _ _ _ _ _ _ z20 h_z20 (fun _ => (by first | omega | decide))))) (fo_rdI (fun v21 => (fo_rdI (fun v22 => (fo_rdI (fun v23 => (fo_wrI (Or.inr (Or.inr (by decide))) hz (fun z24 h_z24 => (fo_rdI (fun v25 => (fo_wrI (Or.inr (Or.inr (by decide))) h_z24 (fun z26 h_z26 => (fo_rdI (fun v27 => (fo_wrI (Or.inr (Or.inr (by decide))) h_z26 (fun z28 h_z28 => (fo_rdI (fun v29 => (fo_wrI (Or.inr (Or.inr (by decide))) h_z28 (fun z30 h_z30 => (hgo 7 _ _ _ _ _ _ _ _ _ z30 h_z30 (fun _ => (by first | omega | decide))))))))))))))))))))))))
theorem fb_X13_threeChange_8 {K : Nat} {z0 z : ow_MS}  {go : Nat → Int32 → Int32 → Int32 → Int32 → Int32 → Nat → Int32 → Int32 → Int32 → ow_MS → Option ow_MS} {x2 : Int32} {x3 : Int32} {x4 : Int32} {x5 : Int32} {x6 : Int32} {r1 : Nat} {t0 : Int32} {t1 : Int32} {t2 : Int32}  (hgo : ∀ (L : Nat) (x2 : Int32) (x3 : Int32) (x4 : Int32) (x5 : Int32) (x6 : Int32) (r1 : Nat) (t0 : Int32) (t1 : Int32) (t2 : Int32) (z : ow_MS), fr (pf [2, 3, 4, 5, 6, 7, 8, 9, 20, 21, 22, 23, 24, 25, 26, 27, 29, 33, 34] []) z0 z → (L = 0 ∨ L = 1 ∨ L = 2 ∨ L = 3 ∨ L = 4 ∨ L = 5 ∨ L = 6 ∨ L = 7 ∨ L = 8 → 1000 ≤ r1) → Fo id (pf [2, 3, 4, 5, 6, 7, 8, 9, 20, 21, 22, 23, 24, 25, 26, 27, 29, 33, 34] []) z0 (go L x2 x3 x4 x5 x6 r1 t0 t1 t2 z)) (hz : fr (pf [2, 3, 4, 5, 6, 7, 8, 9, 20, 21, 22, 23, 24, 25, 26, 27, 29, 33, 34] []) z0 z) (hr1 : 1000 ≤ r1) : Fo id (pf [2, 3, 4, 5, 6, 7, 8, 9, 20, 21, 22, 23, 24, 25, 26, 27, 29, 33, 34] []) z0 (qm_X13_threeChange_8 K go x2 x3 x4 x5 x6 r1 t0 t1 t2 z) := by
  unfold qm_X13_threeChange_8
  exact (hgo 1 _ _ _ _ _ _ _ _ _ z hz (fun _ => (by first | omega | decide)))
theorem fq_X13_threeChange {K : Nat} {z0 : ow_MS}   : ∀ (k L : Nat) (x2 : Int32) (x3 : Int32) (x4 : Int32) (x5 : Int32) (x6 : Int32) (r1 : Nat) (t0 : Int32) (t1 : Int32) (t2 : Int32) (z : ow_MS), fr (pf [2, 3, 4, 5, 6, 7, 8, 9, 20, 21, 22, 23, 24, 25, 26, 27, 29, 33, 34] []) z0 z → (L = 0 ∨ L = 1 ∨ L = 2 ∨ L = 3 ∨ L = 4 ∨ L = 5 ∨ L = 6 ∨ L = 7 ∨ L = 8 → 1000 ≤ r1) → Fo id (pf [2, 3, 4, 5, 6, 7, 8, 9, 20, 21, 22, 23, 24, 25, 26, 27, 29, 33, 34] []) z0 (q_X13_threeChange K k L x2 x3 x4 x5 x6 r1 t0 t1 t2 z)
  | 0 => by
    intros
    exact fo_none
  | k + 1 => by
    intro L x2 x3 x4 x5 x6 r1 t0 t1 t2 z hz h9_r1
    show Fo id (pf [2, 3, 4, 5, 6, 7, 8, 9, 20, 21, 22, 23, 24, 25, 26, 27, 29, 33, 34] []) z0 (qb_X13_threeChange K (q_X13_threeChange K k) L x2 x3 x4 x5 x6 r1 t0 t1 t2 z)
    unfold qb_X13_threeChange
    split
    · exact fb_X13_threeChange_0 (fq_X13_threeChange k) hz (h9_r1 (by decide))
    · exact fb_X13_threeChange_1 (fq_X13_threeChange k) hz (h9_r1 (by decide))
    · exact fb_X13_threeChange_2 (fq_X13_threeChange k) hz (h9_r1 (by decide))
    · exact fb_X13_threeChange_3 (fq_X13_threeChange k) hz (h9_r1 (by decide))
    · exact fb_X13_threeChange_4 (fq_X13_threeChange k) hz (h9_r1 (by decide))
    · exact fb_X13_threeChange_5 (fq_X13_threeChange k) hz (h9_r1 (by decide))
    · exact fb_X13_threeChange_6 (fq_X13_threeChange k) hz (h9_r1 (by decide))
    · exact fb_X13_threeChange_7 (fq_X13_threeChange k) hz (h9_r1 (by decide))
    · exact fb_X13_threeChange_8 (fq_X13_threeChange k) hz (h9_r1 (by decide))
    · exact fo_none
theorem ff_X13_threeChange {K : Nat} {r1 : Nat} {z : ow_MS} (hr1 : 1000 ≤ r1) : Fo id (pf [2, 3, 4, 5, 6, 7, 8, 9, 20, 21, 22, 23, 24, 25, 26, 27, 29, 33, 34] []) z (qe_X13_threeChange K r1 z) := fq_X13_threeChange K 0 _ _ _ _ _ _ _ _ _ z fr_rf (fun _ => (by first | omega | decide))
theorem fb_X13_isGap_0 {K : Nat} {z0 z : ow_MS}  {go : Nat → Int32 → Nat → ow_MS → Option (Int32 × ow_MS)} {x1 : Int32} {r0 : Nat}  (hgo : ∀ (L : Nat) (x1 : Int32) (r0 : Nat) (z : ow_MS), fr (pf [] []) z0 z → (L = 0 ∨ L = 1 → 1000 ≤ r0) → Fo Prod.snd (pf [] []) z0 (go L x1 r0 z)) (hz : fr (pf [] []) z0 z) (hr0 : 1000 ≤ r0) : Fo Prod.snd (pf [] []) z0 (qm_X13_isGap_0 K go x1 r0 z) := by
  unfold qm_X13_isGap_0
  exact (fo_rdF (fun v1 => (fo_if (hgo 1 _ _ z hz (fun _ => (by first | omega | decide))) (fo_rdF (fun v2 => (fo_cs1 (ff_X12_isCircle (by first | omega | decide)) (pf_sub (by decide) pf_0) hz (fun v4 z3 h_z3 => (fo_if (fo_okZ (fo_some h_z3)) (hgo 1 _ _ z3 h_z3 (fun _ => (by first | omega | decide)))))))))))
theorem fb_X13_isGap_1 {K : Nat} {z0 z : ow_MS}  {go : Nat → Int32 → Nat → ow_MS → Option (Int32 × ow_MS)} {x1 : Int32} {r0 : Nat}  (hgo : ∀ (L : Nat) (x1 : Int32) (r0 : Nat) (z : ow_MS), fr (pf [] []) z0 z → (L = 0 ∨ L = 1 → 1000 ≤ r0) → Fo Prod.snd (pf [] []) z0 (go L x1 r0 z)) (hz : fr (pf [] []) z0 z) (hr0 : 1000 ≤ r0) : Fo Prod.snd (pf [] []) z0 (qm_X13_isGap_1 K go x1 r0 z) := by
  unfold qm_X13_isGap_1
  exact (fo_okZ (fo_some hz))
theorem fq_X13_isGap {K : Nat} {z0 : ow_MS}   : ∀ (k L : Nat) (x1 : Int32) (r0 : Nat) (z : ow_MS), fr (pf [] []) z0 z → (L = 0 ∨ L = 1 → 1000 ≤ r0) → Fo Prod.snd (pf [] []) z0 (q_X13_isGap K k L x1 r0 z)
  | 0 => by
    intros
    exact fo_none
  | k + 1 => by
    intro L x1 r0 z hz h9_r0
    show Fo Prod.snd (pf [] []) z0 (qb_X13_isGap K (q_X13_isGap K k) L x1 r0 z)
    unfold qb_X13_isGap
    split
    · exact fb_X13_isGap_0 (fq_X13_isGap k) hz (h9_r0 (by decide))
    · exact fb_X13_isGap_1 (fq_X13_isGap k) hz (h9_r0 (by decide))
    · exact fo_none
theorem ff_X13_isGap {K : Nat} {r0 : Nat} {x1 : Int32} {z : ow_MS} (hr0 : 1000 ≤ r0) : Fo Prod.snd (pf [] []) z (qe_X13_isGap K r0 x1 z) := fq_X13_isGap K 0 _ _ z fr_rf (fun _ => (by first | omega | decide))
theorem ff_X13_put {K : Nat} {x1 : Int32} {x2 : Int32} {x3 : Int32} {z : ow_MS}  : Fo id (pf [31, 32] []) z (qe_X13_put K x1 x2 x3 z) := by
  unfold qe_X13_put qm_X13_put_0
  exact (fo_wrI (Or.inl (by decide)) fr_rf (fun z1 h_z1 => (fo_wrI (Or.inl (by decide)) h_z1 (fun z2 h_z2 => (fo_some h_z2)))))
theorem fb_X13_putAt_0 {K : Nat} {z0 z : ow_MS}  {go : Nat → Int32 → Int32 → Int32 → ow_MS → Option ow_MS} {x1 : Int32} {x2 : Int32} {x3 : Int32}  (hgo : ∀ (L : Nat) (x1 : Int32) (x2 : Int32) (x3 : Int32) (z : ow_MS), fr (pf [] []) z0 z → Fo id (pf [] []) z0 (go L x1 x2 x3 z)) (hz : fr (pf [] []) z0 z)  : Fo id (pf [] []) z0 (qm_X13_putAt_0 K go x1 x2 x3 z) := by
  unfold qm_X13_putAt_0
  exact (fo_if (fo_rdI (fun v1 => (fo_rdI (fun v2 => (fo_cs0 (ff_X12_add (by first | omega | decide)) (pf_sub (by decide) pf_0) hz (fun z3 h_z3 => (fo_rdI (fun v4 => (fo_rdI (fun v5 => (fo_cs0 (ff_X12_add (by first | omega | decide)) (pf_sub (by decide) pf_0) h_z3 (fun z6 h_z6 => (hgo 1 _ _ _ z6 h_z6))))))))))))) (hgo 1 _ _ _ z hz))
theorem fb_X13_putAt_1 {K : Nat} {z0 z : ow_MS}  {go : Nat → Int32 → Int32 → Int32 → ow_MS → Option ow_MS} {x1 : Int32} {x2 : Int32} {x3 : Int32}  (hgo : ∀ (L : Nat) (x1 : Int32) (x2 : Int32) (x3 : Int32) (z : ow_MS), fr (pf [] []) z0 z → Fo id (pf [] []) z0 (go L x1 x2 x3 z)) (hz : fr (pf [] []) z0 z)  : Fo id (pf [] []) z0 (qm_X13_putAt_1 K go x1 x2 x3 z) := by
  unfold qm_X13_putAt_1
  exact (fo_if (fo_rdI (fun v7 => (fo_rdI (fun v8 => (fo_cs0 (ff_X12_add (by first | omega | decide)) (pf_sub (by decide) pf_0) hz (fun z9 h_z9 => (fo_rdI (fun v10 => (fo_rdI (fun v11 => (fo_cs0 (ff_X12_add (by first | omega | decide)) (pf_sub (by decide) pf_0) h_z9 (fun z12 h_z12 => (fo_some h_z12))))))))))))) (fo_some hz))
theorem fq_X13_putAt {K : Nat} {z0 : ow_MS}   : ∀ (k L : Nat) (x1 : Int32) (x2 : Int32) (x3 : Int32) (z : ow_MS), fr (pf [] []) z0 z → Fo id (pf [] []) z0 (q_X13_putAt K k L x1 x2 x3 z)
  | 0 => by
    intros
    exact fo_none
  | k + 1 => by
    intro L x1 x2 x3 z hz 
    show Fo id (pf [] []) z0 (qb_X13_putAt K (q_X13_putAt K k) L x1 x2 x3 z)
    unfold qb_X13_putAt
    split
    · exact fb_X13_putAt_0 (fq_X13_putAt k) hz 
    · exact fb_X13_putAt_1 (fq_X13_putAt k) hz 
    · exact fo_none
theorem ff_X13_putAt {K : Nat} {x1 : Int32} {x2 : Int32} {x3 : Int32} {z : ow_MS}  : Fo id (pf [] []) z (qe_X13_putAt K x1 x2 x3 z) := fq_X13_putAt K 0 _ _ _ z fr_rf 
theorem fb_X13_build_0 {K : Nat} {z0 z : ow_MS}  {go : Nat → Int32 → Int32 → Int32 → Int32 → Nat → ow_MS → Option ow_MS} {x2 : Int32} {x3 : Int32} {x4 : Int32} {x5 : Int32} {r1 : Nat}  (hgo : ∀ (L : Nat) (x2 : Int32) (x3 : Int32) (x4 : Int32) (x5 : Int32) (r1 : Nat) (z : ow_MS), fr (pf [] []) z0 z → (L = 0 ∨ L = 1 ∨ L = 2 ∨ L = 3 ∨ L = 4 → 1000 ≤ r1) → Fo id (pf [] []) z0 (go L x2 x3 x4 x5 r1 z)) (hz : fr (pf [] []) z0 z) (hr1 : 1000 ≤ r1) : Fo id (pf [] []) z0 (qm_X13_build_0 K go x2 x3 x4 x5 r1 z) := by
  unfold qm_X13_build_0
  exact (fo_cs0 (ff_X12_clear (by first | omega | decide)) (pf_sub (by decide) pf_0) hz (fun z1 h_z1 => (hgo 1 _ _ _ _ _ z1 h_z1 (fun _ => (by first | omega | decide)))))
theorem fb_X13_build_1 {K : Nat} {z0 z : ow_MS}  {go : Nat → Int32 → Int32 → Int32 → Int32 → Nat → ow_MS → Option ow_MS} {x2 : Int32} {x3 : Int32} {x4 : Int32} {x5 : Int32} {r1 : Nat}  (hgo : ∀ (L : Nat) (x2 : Int32) (x3 : Int32) (x4 : Int32) (x5 : Int32) (r1 : Nat) (z : ow_MS), fr (pf [] []) z0 z → (L = 0 ∨ L = 1 ∨ L = 2 ∨ L = 3 ∨ L = 4 → 1000 ≤ r1) → Fo id (pf [] []) z0 (go L x2 x3 x4 x5 r1 z)) (hz : fr (pf [] []) z0 z) (hr1 : 1000 ≤ r1) : Fo id (pf [] []) z0 (qm_X13_build_1 K go x2 x3 x4 x5 r1 z) := by
  unfold qm_X13_build_1
  exact (fo_rdF (fun v2 => (fo_if (hgo 4 _ _ _ _ _ z hz (fun _ => (by first | omega | decide))) (fo_cs1 (ff_X12_isCircle (by first | omega | decide)) (pf_sub (by decide) pf_0) hz (fun v4 z3 h_z3 => (fo_if (hgo 2 _ _ _ _ _ z3 h_z3 (fun _ => (by first | omega | decide))) (fo_rdF (fun v5 => (fo_cs0 (ff_X13_putAt) (pf_sub (by decide) pf_0) h_z3 (fun z6 h_z6 => (hgo 2 _ _ _ _ _ z6 h_z6 (fun _ => (by first | omega | decide)))))))))))))
theorem fb_X13_build_2 {K : Nat} {z0 z : ow_MS}  {go : Nat → Int32 → Int32 → Int32 → Int32 → Nat → ow_MS → Option ow_MS} {x2 : Int32} {x3 : Int32} {x4 : Int32} {x5 : Int32} {r1 : Nat}  (hgo : ∀ (L : Nat) (x2 : Int32) (x3 : Int32) (x4 : Int32) (x5 : Int32) (r1 : Nat) (z : ow_MS), fr (pf [] []) z0 z → (L = 0 ∨ L = 1 ∨ L = 2 ∨ L = 3 ∨ L = 4 → 1000 ≤ r1) → Fo id (pf [] []) z0 (go L x2 x3 x4 x5 r1 z)) (hz : fr (pf [] []) z0 z) (hr1 : 1000 ≤ r1) : Fo id (pf [] []) z0 (qm_X13_build_2 K go x2 x3 x4 x5 r1 z) := by
  unfold qm_X13_build_2
  exact (fo_rdI (fun v7 => (hgo 3 _ _ _ _ _ z hz (fun _ => (by first | omega | decide)))))
theorem fb_X13_build_3 {K : Nat} {z0 z : ow_MS}  {go : Nat → Int32 → Int32 → Int32 → Int32 → Nat → ow_MS → Option ow_MS} {x2 : Int32} {x3 : Int32} {x4 : Int32} {x5 : Int32} {r1 : Nat}  (hgo : ∀ (L : Nat) (x2 : Int32) (x3 : Int32) (x4 : Int32) (x5 : Int32) (r1 : Nat) (z : ow_MS), fr (pf [] []) z0 z → (L = 0 ∨ L = 1 ∨ L = 2 ∨ L = 3 ∨ L = 4 → 1000 ≤ r1) → Fo id (pf [] []) z0 (go L x2 x3 x4 x5 r1 z)) (hz : fr (pf [] []) z0 z) (hr1 : 1000 ≤ r1) : Fo id (pf [] []) z0 (qm_X13_build_3 K go x2 x3 x4 x5 r1 z) := by
  unfold qm_X13_build_3
  exact (fo_rdI (fun v8 => (fo_if (fo_cs0 (ff_X12_end (by first | omega | decide)) (pf_sub (by decide) pf_0) hz (fun z9 h_z9 => (hgo 1 _ _ _ _ _ z9 h_z9 (fun _ => (by first | omega | decide))))) (fo_rdI (fun v10 => (fo_rdI (fun v11 => (fo_cs0 (ff_X12_add (by first | omega | decide)) (pf_sub (by decide) pf_0) hz (fun z12 h_z12 => (fo_cs0 (ff_X13_putAt) (pf_sub (by decide) pf_0) h_z12 (fun z13 h_z13 => (hgo 3 _ _ _ _ _ z13 h_z13 (fun _ => (by first | omega | decide))))))))))))))
theorem fb_X13_build_4 {K : Nat} {z0 z : ow_MS}  {go : Nat → Int32 → Int32 → Int32 → Int32 → Nat → ow_MS → Option ow_MS} {x2 : Int32} {x3 : Int32} {x4 : Int32} {x5 : Int32} {r1 : Nat}  (hgo : ∀ (L : Nat) (x2 : Int32) (x3 : Int32) (x4 : Int32) (x5 : Int32) (r1 : Nat) (z : ow_MS), fr (pf [] []) z0 z → (L = 0 ∨ L = 1 ∨ L = 2 ∨ L = 3 ∨ L = 4 → 1000 ≤ r1) → Fo id (pf [] []) z0 (go L x2 x3 x4 x5 r1 z)) (hz : fr (pf [] []) z0 z) (hr1 : 1000 ≤ r1) : Fo id (pf [] []) z0 (qm_X13_build_4 K go x2 x3 x4 x5 r1 z) := by
  unfold qm_X13_build_4
  exact (fo_rdF (fun v14 => (fo_nzI (fo_if (fo_some hz) (fo_rdI (fun v15 => (fo_wrI (Or.inr (Or.inr (by decide))) hz (fun z16 h_z16 => (hgo 4 _ _ _ _ _ z16 h_z16 (fun _ => (by first | omega | decide)))))))))))
theorem fq_X13_build {K : Nat} {z0 : ow_MS}   : ∀ (k L : Nat) (x2 : Int32) (x3 : Int32) (x4 : Int32) (x5 : Int32) (r1 : Nat) (z : ow_MS), fr (pf [] []) z0 z → (L = 0 ∨ L = 1 ∨ L = 2 ∨ L = 3 ∨ L = 4 → 1000 ≤ r1) → Fo id (pf [] []) z0 (q_X13_build K k L x2 x3 x4 x5 r1 z)
  | 0 => by
    intros
    exact fo_none
  | k + 1 => by
    intro L x2 x3 x4 x5 r1 z hz h9_r1
    show Fo id (pf [] []) z0 (qb_X13_build K (q_X13_build K k) L x2 x3 x4 x5 r1 z)
    unfold qb_X13_build
    split
    · exact fb_X13_build_0 (fq_X13_build k) hz (h9_r1 (by decide))
    · exact fb_X13_build_1 (fq_X13_build k) hz (h9_r1 (by decide))
    · exact fb_X13_build_2 (fq_X13_build k) hz (h9_r1 (by decide))
    · exact fb_X13_build_3 (fq_X13_build k) hz (h9_r1 (by decide))
    · exact fb_X13_build_4 (fq_X13_build k) hz (h9_r1 (by decide))
    · exact fo_none
theorem ff_X13_build {K : Nat} {r1 : Nat} {x2 : Int32} {x3 : Int32} {z : ow_MS} (hr1 : 1000 ≤ r1) : Fo id (pf [] []) z (qe_X13_build K r1 x2 x3 z) := fq_X13_build K 0 _ _ _ _ _ z fr_rf (fun _ => (by first | omega | decide))
theorem fb_X13_oneComes_0 {K : Nat} {z0 z : ow_MS}  {go : Nat → Int32 → Int32 → Int32 → Nat → Int32 → Int32 → ow_MS → Option ow_MS} {x2 : Int32} {x3 : Int32} {x4 : Int32} {r1 : Nat} {t0 : Int32} {t1 : Int32}  (hgo : ∀ (L : Nat) (x2 : Int32) (x3 : Int32) (x4 : Int32) (r1 : Nat) (t0 : Int32) (t1 : Int32) (z : ow_MS), fr (pf [2, 3, 4, 5, 6, 7, 8, 9, 20, 21, 22, 23, 24, 25, 26, 27, 29, 31, 32] []) z0 z → (L = 0 ∨ L = 1 ∨ L = 2 ∨ L = 3 ∨ L = 4 → 1000 ≤ r1) → Fo id (pf [2, 3, 4, 5, 6, 7, 8, 9, 20, 21, 22, 23, 24, 25, 26, 27, 29, 31, 32] []) z0 (go L x2 x3 x4 r1 t0 t1 z)) (hz : fr (pf [2, 3, 4, 5, 6, 7, 8, 9, 20, 21, 22, 23, 24, 25, 26, 27, 29, 31, 32] []) z0 z) (hr1 : 1000 ≤ r1) : Fo id (pf [2, 3, 4, 5, 6, 7, 8, 9, 20, 21, 22, 23, 24, 25, 26, 27, 29, 31, 32] []) z0 (qm_X13_oneComes_0 K go x2 x3 x4 r1 t0 t1 z) := by
  unfold qm_X13_oneComes_0
  exact (fo_rdF (fun v1 => (fo_nzI (hgo 1 _ _ _ _ _ _ z hz (fun _ => (by first | omega | decide))))))
theorem fb_X13_oneComes_1 {K : Nat} {z0 z : ow_MS}  {go : Nat → Int32 → Int32 → Int32 → Nat → Int32 → Int32 → ow_MS → Option ow_MS} {x2 : Int32} {x3 : Int32} {x4 : Int32} {r1 : Nat} {t0 : Int32} {t1 : Int32}  (hgo : ∀ (L : Nat) (x2 : Int32) (x3 : Int32) (x4 : Int32) (r1 : Nat) (t0 : Int32) (t1 : Int32) (z : ow_MS), fr (pf [2, 3, 4, 5, 6, 7, 8, 9, 20, 21, 22, 23, 24, 25, 26, 27, 29, 31, 32] []) z0 z → (L = 0 ∨ L = 1 ∨ L = 2 ∨ L = 3 ∨ L = 4 → 1000 ≤ r1) → Fo id (pf [2, 3, 4, 5, 6, 7, 8, 9, 20, 21, 22, 23, 24, 25, 26, 27, 29, 31, 32] []) z0 (go L x2 x3 x4 r1 t0 t1 z)) (hz : fr (pf [2, 3, 4, 5, 6, 7, 8, 9, 20, 21, 22, 23, 24, 25, 26, 27, 29, 31, 32] []) z0 z) (hr1 : 1000 ≤ r1) : Fo id (pf [2, 3, 4, 5, 6, 7, 8, 9, 20, 21, 22, 23, 24, 25, 26, 27, 29, 31, 32] []) z0 (qm_X13_oneComes_1 K go x2 x3 x4 r1 t0 t1 z) := by
  unfold qm_X13_oneComes_1
  exact (fo_rdF (fun v2 => (fo_rdF (fun v3 => (fo_if (fo_some hz) (hgo 2 _ _ _ _ _ _ z hz (fun _ => (by first | omega | decide))))))))
theorem fb_X13_oneComes_2 {K : Nat} {z0 z : ow_MS}  {go : Nat → Int32 → Int32 → Int32 → Nat → Int32 → Int32 → ow_MS → Option ow_MS} {x2 : Int32} {x3 : Int32} {x4 : Int32} {r1 : Nat} {t0 : Int32} {t1 : Int32}  (hgo : ∀ (L : Nat) (x2 : Int32) (x3 : Int32) (x4 : Int32) (r1 : Nat) (t0 : Int32) (t1 : Int32) (z : ow_MS), fr (pf [2, 3, 4, 5, 6, 7, 8, 9, 20, 21, 22, 23, 24, 25, 26, 27, 29, 31, 32] []) z0 z → (L = 0 ∨ L = 1 ∨ L = 2 ∨ L = 3 ∨ L = 4 → 1000 ≤ r1) → Fo id (pf [2, 3, 4, 5, 6, 7, 8, 9, 20, 21, 22, 23, 24, 25, 26, 27, 29, 31, 32] []) z0 (go L x2 x3 x4 r1 t0 t1 z)) (hz : fr (pf [2, 3, 4, 5, 6, 7, 8, 9, 20, 21, 22, 23, 24, 25, 26, 27, 29, 31, 32] []) z0 z) (hr1 : 1000 ≤ r1) : Fo id (pf [2, 3, 4, 5, 6, 7, 8, 9, 20, 21, 22, 23, 24, 25, 26, 27, 29, 31, 32] []) z0 (qm_X13_oneComes_2 K go x2 x3 x4 r1 t0 t1 z) := by
  unfold qm_X13_oneComes_2
  exact (fo_if (hgo 4 _ _ _ _ _ _ z hz (fun _ => (by first | omega | decide))) (fo_cs1 (ff_X13_isGap (by first | omega | decide)) (pf_sub (by decide) pf_0) hz (fun v5 z4 h_z4 => (fo_if (hgo 4 _ _ _ _ _ _ z4 h_z4 (fun _ => (by first | omega | decide))) (fo_cs0 (ff_X13_put) (pf_sub (by decide) pf_0) h_z4 (fun z6 h_z6 => (fo_cs0 (ff_X13_put) (pf_sub (by decide) pf_0) h_z6 (fun z7 h_z7 => (fo_cs0 (ff_X13_build (by first | omega | decide)) (pf_sub (by decide) pf_0) h_z7 (fun z8 h_z8 => (fo_if (hgo 3 _ _ _ _ _ _ z8 h_z8 (fun _ => (by first | omega | decide))) (hgo 3 _ _ _ _ _ _ z8 h_z8 (fun _ => (by first | omega | decide))))))))))))))
theorem fb_X13_oneComes_3 {K : Nat} {z0 z : ow_MS}  {go : Nat → Int32 → Int32 → Int32 → Nat → Int32 → Int32 → ow_MS → Option ow_MS} {x2 : Int32} {x3 : Int32} {x4 : Int32} {r1 : Nat} {t0 : Int32} {t1 : Int32}  (hgo : ∀ (L : Nat) (x2 : Int32) (x3 : Int32) (x4 : Int32) (r1 : Nat) (t0 : Int32) (t1 : Int32) (z : ow_MS), fr (pf [2, 3, 4, 5, 6, 7, 8, 9, 20, 21, 22, 23, 24, 25, 26, 27, 29, 31, 32] []) z0 z → (L = 0 ∨ L = 1 ∨ L = 2 ∨ L = 3 ∨ L = 4 → 1000 ≤ r1) → Fo id (pf [2, 3, 4, 5, 6, 7, 8, 9, 20, 21, 22, 23, 24, 25, 26, 27, 29, 31, 32] []) z0 (go L x2 x3 x4 r1 t0 t1 z)) (hz : fr (pf [2, 3, 4, 5, 6, 7, 8, 9, 20, 21, 22, 23, 24, 25, 26, 27, 29, 31, 32] []) z0 z) (hr1 : 1000 ≤ r1) : Fo id (pf [2, 3, 4, 5, 6, 7, 8, 9, 20, 21, 22, 23, 24, 25, 26, 27, 29, 31, 32] []) z0 (qm_X13_oneComes_3 K go x2 x3 x4 r1 t0 t1 z) := by
  unfold qm_X13_oneComes_3
  exact (fo_wrI (Or.inr (Or.inr (by decide))) hz (fun z9 h_z9 => (fo_cs0 (ff_X13_offer) (pf_sub (by decide) pf_0) h_z9 (fun z10 h_z10 => (hgo 2 _ _ _ _ _ _ z10 h_z10 (fun _ => (by first | omega | decide)))))))
theorem fb_X13_oneComes_4 {K : Nat} {z0 z : ow_MS}  {go : Nat → Int32 → Int32 → Int32 → Nat → Int32 → Int32 → ow_MS → Option ow_MS} {x2 : Int32} {x3 : Int32} {x4 : Int32} {r1 : Nat} {t0 : Int32} {t1 : Int32}  (hgo : ∀ (L : Nat) (x2 : Int32) (x3 : Int32) (x4 : Int32) (r1 : Nat) (t0 : Int32) (t1 : Int32) (z : ow_MS), fr (pf [2, 3, 4, 5, 6, 7, 8, 9, 20, 21, 22, 23, 24, 25, 26, 27, 29, 31, 32] []) z0 z → (L = 0 ∨ L = 1 ∨ L = 2 ∨ L = 3 ∨ L = 4 → 1000 ≤ r1) → Fo id (pf [2, 3, 4, 5, 6, 7, 8, 9, 20, 21, 22, 23, 24, 25, 26, 27, 29, 31, 32] []) z0 (go L x2 x3 x4 r1 t0 t1 z)) (hz : fr (pf [2, 3, 4, 5, 6, 7, 8, 9, 20, 21, 22, 23, 24, 25, 26, 27, 29, 31, 32] []) z0 z) (hr1 : 1000 ≤ r1) : Fo id (pf [2, 3, 4, 5, 6, 7, 8, 9, 20, 21, 22, 23, 24, 25, 26, 27, 29, 31, 32] []) z0 (qm_X13_oneComes_4 K go x2 x3 x4 r1 t0 t1 z) := by
  unfold qm_X13_oneComes_4
  exact (hgo 1 _ _ _ _ _ _ z hz (fun _ => (by first | omega | decide)))
theorem fq_X13_oneComes {K : Nat} {z0 : ow_MS}   : ∀ (k L : Nat) (x2 : Int32) (x3 : Int32) (x4 : Int32) (r1 : Nat) (t0 : Int32) (t1 : Int32) (z : ow_MS), fr (pf [2, 3, 4, 5, 6, 7, 8, 9, 20, 21, 22, 23, 24, 25, 26, 27, 29, 31, 32] []) z0 z → (L = 0 ∨ L = 1 ∨ L = 2 ∨ L = 3 ∨ L = 4 → 1000 ≤ r1) → Fo id (pf [2, 3, 4, 5, 6, 7, 8, 9, 20, 21, 22, 23, 24, 25, 26, 27, 29, 31, 32] []) z0 (q_X13_oneComes K k L x2 x3 x4 r1 t0 t1 z)
  | 0 => by
    intros
    exact fo_none
  | k + 1 => by
    intro L x2 x3 x4 r1 t0 t1 z hz h9_r1
    show Fo id (pf [2, 3, 4, 5, 6, 7, 8, 9, 20, 21, 22, 23, 24, 25, 26, 27, 29, 31, 32] []) z0 (qb_X13_oneComes K (q_X13_oneComes K k) L x2 x3 x4 r1 t0 t1 z)
    unfold qb_X13_oneComes
    split
    · exact fb_X13_oneComes_0 (fq_X13_oneComes k) hz (h9_r1 (by decide))
    · exact fb_X13_oneComes_1 (fq_X13_oneComes k) hz (h9_r1 (by decide))
    · exact fb_X13_oneComes_2 (fq_X13_oneComes k) hz (h9_r1 (by decide))
    · exact fb_X13_oneComes_3 (fq_X13_oneComes k) hz (h9_r1 (by decide))
    · exact fb_X13_oneComes_4 (fq_X13_oneComes k) hz (h9_r1 (by decide))
    · exact fo_none
theorem ff_X13_oneComes {K : Nat} {r1 : Nat} {z : ow_MS} (hr1 : 1000 ≤ r1) : Fo id (pf [2, 3, 4, 5, 6, 7, 8, 9, 20, 21, 22, 23, 24, 25, 26, 27, 29, 31, 32] []) z (qe_X13_oneComes K r1 z) := fq_X13_oneComes K 0 _ _ _ _ _ _ z fr_rf (fun _ => (by first | omega | decide))
theorem fb_X13_without_0 {K : Nat} {z0 z : ow_MS}  {go : Nat → Int32 → Int32 → Int32 → Int32 → Nat → ow_MS → Option ow_MS} {x2 : Int32} {x3 : Int32} {x4 : Int32} {x5 : Int32} {r1 : Nat}  (hgo : ∀ (L : Nat) (x2 : Int32) (x3 : Int32) (x4 : Int32) (x5 : Int32) (r1 : Nat) (z : ow_MS), fr (pf [2, 3, 4, 5, 6, 7, 8, 9, 20, 21, 22, 23, 24, 25, 26, 27, 29] []) z0 z → (L = 0 ∨ L = 1 ∨ L = 2 ∨ L = 3 → 1000 ≤ r1) → Fo id (pf [2, 3, 4, 5, 6, 7, 8, 9, 20, 21, 22, 23, 24, 25, 26, 27, 29] []) z0 (go L x2 x3 x4 x5 r1 z)) (hz : fr (pf [2, 3, 4, 5, 6, 7, 8, 9, 20, 21, 22, 23, 24, 25, 26, 27, 29] []) z0 z) (hr1 : 1000 ≤ r1) : Fo id (pf [2, 3, 4, 5, 6, 7, 8, 9, 20, 21, 22, 23, 24, 25, 26, 27, 29] []) z0 (qm_X13_without_0 K go x2 x3 x4 x5 r1 z) := by
  unfold qm_X13_without_0
  exact (fo_cs0 (ff_X12_clear (by first | omega | decide)) (pf_sub (by decide) pf_0) hz (fun z1 h_z1 => (fo_cs0 (ff_X12_signsOf (by first | omega | decide) (by first | omega | decide)) (pf_sub (by decide) pf_0) h_z1 (fun z2 h_z2 => (hgo 1 _ _ _ _ _ z2 h_z2 (fun _ => (by first | omega | decide)))))))
theorem fb_X13_without_1 {K : Nat} {z0 z : ow_MS}  {go : Nat → Int32 → Int32 → Int32 → Int32 → Nat → ow_MS → Option ow_MS} {x2 : Int32} {x3 : Int32} {x4 : Int32} {x5 : Int32} {r1 : Nat}  (hgo : ∀ (L : Nat) (x2 : Int32) (x3 : Int32) (x4 : Int32) (x5 : Int32) (r1 : Nat) (z : ow_MS), fr (pf [2, 3, 4, 5, 6, 7, 8, 9, 20, 21, 22, 23, 24, 25, 26, 27, 29] []) z0 z → (L = 0 ∨ L = 1 ∨ L = 2 ∨ L = 3 → 1000 ≤ r1) → Fo id (pf [2, 3, 4, 5, 6, 7, 8, 9, 20, 21, 22, 23, 24, 25, 26, 27, 29] []) z0 (go L x2 x3 x4 x5 r1 z)) (hz : fr (pf [2, 3, 4, 5, 6, 7, 8, 9, 20, 21, 22, 23, 24, 25, 26, 27, 29] []) z0 z) (hr1 : 1000 ≤ r1) : Fo id (pf [2, 3, 4, 5, 6, 7, 8, 9, 20, 21, 22, 23, 24, 25, 26, 27, 29] []) z0 (qm_X13_without_1 K go x2 x3 x4 x5 r1 z) := by
  unfold qm_X13_without_1
  exact (fo_rdF (fun v3 => (fo_if (fo_cs0 (ff_X13_offer) (pf_sub (by decide) pf_0) hz (fun z4 h_z4 => (fo_some h_z4))) (fo_rdI (fun v5 => (hgo 2 _ _ _ _ _ z hz (fun _ => (by first | omega | decide))))))))
theorem fb_X13_without_2 {K : Nat} {z0 z : ow_MS}  {go : Nat → Int32 → Int32 → Int32 → Int32 → Nat → ow_MS → Option ow_MS} {x2 : Int32} {x3 : Int32} {x4 : Int32} {x5 : Int32} {r1 : Nat}  (hgo : ∀ (L : Nat) (x2 : Int32) (x3 : Int32) (x4 : Int32) (x5 : Int32) (r1 : Nat) (z : ow_MS), fr (pf [2, 3, 4, 5, 6, 7, 8, 9, 20, 21, 22, 23, 24, 25, 26, 27, 29] []) z0 z → (L = 0 ∨ L = 1 ∨ L = 2 ∨ L = 3 → 1000 ≤ r1) → Fo id (pf [2, 3, 4, 5, 6, 7, 8, 9, 20, 21, 22, 23, 24, 25, 26, 27, 29] []) z0 (go L x2 x3 x4 x5 r1 z)) (hz : fr (pf [2, 3, 4, 5, 6, 7, 8, 9, 20, 21, 22, 23, 24, 25, 26, 27, 29] []) z0 z) (hr1 : 1000 ≤ r1) : Fo id (pf [2, 3, 4, 5, 6, 7, 8, 9, 20, 21, 22, 23, 24, 25, 26, 27, 29] []) z0 (qm_X13_without_2 K go x2 x3 x4 x5 r1 z) := by
  unfold qm_X13_without_2
  exact (fo_rdI (fun v6 => (fo_if (fo_cs0 (ff_X12_end (by first | omega | decide)) (pf_sub (by decide) pf_0) hz (fun z7 h_z7 => (hgo 1 _ _ _ _ _ z7 h_z7 (fun _ => (by first | omega | decide))))) (fo_rdI (fun v8 => (fo_if (hgo 3 _ _ _ _ _ z hz (fun _ => (by first | omega | decide))) (fo_rdI (fun v9 => (fo_if (hgo 3 _ _ _ _ _ z hz (fun _ => (by first | omega | decide))) (fo_rdI (fun v10 => (fo_rdI (fun v11 => (fo_cs0 (ff_X12_add (by first | omega | decide)) (pf_sub (by decide) pf_0) hz (fun z12 h_z12 => (hgo 3 _ _ _ _ _ z12 h_z12 (fun _ => (by first | omega | decide))))))))))))))))))
theorem fb_X13_without_3 {K : Nat} {z0 z : ow_MS}  {go : Nat → Int32 → Int32 → Int32 → Int32 → Nat → ow_MS → Option ow_MS} {x2 : Int32} {x3 : Int32} {x4 : Int32} {x5 : Int32} {r1 : Nat}  (hgo : ∀ (L : Nat) (x2 : Int32) (x3 : Int32) (x4 : Int32) (x5 : Int32) (r1 : Nat) (z : ow_MS), fr (pf [2, 3, 4, 5, 6, 7, 8, 9, 20, 21, 22, 23, 24, 25, 26, 27, 29] []) z0 z → (L = 0 ∨ L = 1 ∨ L = 2 ∨ L = 3 → 1000 ≤ r1) → Fo id (pf [2, 3, 4, 5, 6, 7, 8, 9, 20, 21, 22, 23, 24, 25, 26, 27, 29] []) z0 (go L x2 x3 x4 x5 r1 z)) (hz : fr (pf [2, 3, 4, 5, 6, 7, 8, 9, 20, 21, 22, 23, 24, 25, 26, 27, 29] []) z0 z) (hr1 : 1000 ≤ r1) : Fo id (pf [2, 3, 4, 5, 6, 7, 8, 9, 20, 21, 22, 23, 24, 25, 26, 27, 29] []) z0 (qm_X13_without_3 K go x2 x3 x4 x5 r1 z) := by
  unfold qm_X13_without_3
  exact (hgo 2 _ _ _ _ _ z hz (fun _ => (by first | omega | decide)))
theorem fq_X13_without {K : Nat} {z0 : ow_MS}   : ∀ (k L : Nat) (x2 : Int32) (x3 : Int32) (x4 : Int32) (x5 : Int32) (r1 : Nat) (z : ow_MS), fr (pf [2, 3, 4, 5, 6, 7, 8, 9, 20, 21, 22, 23, 24, 25, 26, 27, 29] []) z0 z → (L = 0 ∨ L = 1 ∨ L = 2 ∨ L = 3 → 1000 ≤ r1) → Fo id (pf [2, 3, 4, 5, 6, 7, 8, 9, 20, 21, 22, 23, 24, 25, 26, 27, 29] []) z0 (q_X13_without K k L x2 x3 x4 x5 r1 z)
  | 0 => by
    intros
    exact fo_none
  | k + 1 => by
    intro L x2 x3 x4 x5 r1 z hz h9_r1
    show Fo id (pf [2, 3, 4, 5, 6, 7, 8, 9, 20, 21, 22, 23, 24, 25, 26, 27, 29] []) z0 (qb_X13_without K (q_X13_without K k) L x2 x3 x4 x5 r1 z)
    unfold qb_X13_without
    split
    · exact fb_X13_without_0 (fq_X13_without k) hz (h9_r1 (by decide))
    · exact fb_X13_without_1 (fq_X13_without k) hz (h9_r1 (by decide))
    · exact fb_X13_without_2 (fq_X13_without k) hz (h9_r1 (by decide))
    · exact fb_X13_without_3 (fq_X13_without k) hz (h9_r1 (by decide))
    · exact fo_none
theorem ff_X13_without {K : Nat} {r1 : Nat} {x2 : Int32} {x3 : Int32} {z : ow_MS} (hr1 : 1000 ≤ r1) : Fo id (pf [2, 3, 4, 5, 6, 7, 8, 9, 20, 21, 22, 23, 24, 25, 26, 27, 29] []) z (qe_X13_without K r1 x2 x3 z) := fq_X13_without K 0 _ _ _ _ _ z fr_rf (fun _ => (by first | omega | decide))
theorem fb_X13_twoGo_0 {K : Nat} {z0 z : ow_MS}  {go : Nat → Int32 → Int32 → Int32 → Int32 → Nat → ow_MS → Option ow_MS} {x2 : Int32} {x3 : Int32} {x4 : Int32} {x5 : Int32} {r1 : Nat}  (hgo : ∀ (L : Nat) (x2 : Int32) (x3 : Int32) (x4 : Int32) (x5 : Int32) (r1 : Nat) (z : ow_MS), fr (pf [2, 3, 4, 5, 6, 7, 8, 9, 20, 21, 22, 23, 24, 25, 26, 27, 29] []) z0 z → (L = 0 ∨ L = 1 ∨ L = 2 ∨ L = 3 → 1000 ≤ r1) → Fo id (pf [2, 3, 4, 5, 6, 7, 8, 9, 20, 21, 22, 23, 24, 25, 26, 27, 29] []) z0 (go L x2 x3 x4 x5 r1 z)) (hz : fr (pf [2, 3, 4, 5, 6, 7, 8, 9, 20, 21, 22, 23, 24, 25, 26, 27, 29] []) z0 z) (hr1 : 1000 ≤ r1) : Fo id (pf [2, 3, 4, 5, 6, 7, 8, 9, 20, 21, 22, 23, 24, 25, 26, 27, 29] []) z0 (qm_X13_twoGo_0 K go x2 x3 x4 x5 r1 z) := by
  unfold qm_X13_twoGo_0
  exact (hgo 1 _ _ _ _ _ z hz (fun _ => (by first | omega | decide)))
theorem fb_X13_twoGo_1 {K : Nat} {z0 z : ow_MS}  {go : Nat → Int32 → Int32 → Int32 → Int32 → Nat → ow_MS → Option ow_MS} {x2 : Int32} {x3 : Int32} {x4 : Int32} {x5 : Int32} {r1 : Nat}  (hgo : ∀ (L : Nat) (x2 : Int32) (x3 : Int32) (x4 : Int32) (x5 : Int32) (r1 : Nat) (z : ow_MS), fr (pf [2, 3, 4, 5, 6, 7, 8, 9, 20, 21, 22, 23, 24, 25, 26, 27, 29] []) z0 z → (L = 0 ∨ L = 1 ∨ L = 2 ∨ L = 3 → 1000 ≤ r1) → Fo id (pf [2, 3, 4, 5, 6, 7, 8, 9, 20, 21, 22, 23, 24, 25, 26, 27, 29] []) z0 (go L x2 x3 x4 x5 r1 z)) (hz : fr (pf [2, 3, 4, 5, 6, 7, 8, 9, 20, 21, 22, 23, 24, 25, 26, 27, 29] []) z0 z) (hr1 : 1000 ≤ r1) : Fo id (pf [2, 3, 4, 5, 6, 7, 8, 9, 20, 21, 22, 23, 24, 25, 26, 27, 29] []) z0 (qm_X13_twoGo_1 K go x2 x3 x4 x5 r1 z) := by
  unfold qm_X13_twoGo_1
  exact (fo_rdF (fun v1 => (fo_if (fo_some hz) (fo_rdI (fun v2 => (fo_rdI (fun v3 => (fo_if (fo_rdI (fun v4 => (fo_if (fo_rdI (fun v5 => (fo_rdI (fun v6 => (fo_if (hgo 3 _ _ _ _ _ z hz (fun _ => (by first | omega | decide))) (fo_rdI (fun v7 => (fo_rdI (fun v8 => (fo_rdI (fun v9 => (fo_rdI (fun v10 => (fo_if (hgo 3 _ _ _ _ _ z hz (fun _ => (by first | omega | decide))) (fo_rdI (fun v11 => (fo_rdI (fun v12 => (fo_rdI (fun v13 => (fo_if (hgo 2 _ _ _ _ _ z hz (fun _ => (by first | omega | decide))) (fo_rdI (fun v14 => (fo_if (hgo 2 _ _ _ _ _ z hz (fun _ => (by first | omega | decide))) (hgo 3 _ _ _ _ _ z hz (fun _ => (by first | omega | decide))))))))))))))))))))))))))) (hgo 3 _ _ _ _ _ z hz (fun _ => (by first | omega | decide)))))) (hgo 3 _ _ _ _ _ z hz (fun _ => (by first | omega | decide)))))))))))
theorem fb_X13_twoGo_2 {K : Nat} {z0 z : ow_MS}  {go : Nat → Int32 → Int32 → Int32 → Int32 → Nat → ow_MS → Option ow_MS} {x2 : Int32} {x3 : Int32} {x4 : Int32} {x5 : Int32} {r1 : Nat}  (hgo : ∀ (L : Nat) (x2 : Int32) (x3 : Int32) (x4 : Int32) (x5 : Int32) (r1 : Nat) (z : ow_MS), fr (pf [2, 3, 4, 5, 6, 7, 8, 9, 20, 21, 22, 23, 24, 25, 26, 27, 29] []) z0 z → (L = 0 ∨ L = 1 ∨ L = 2 ∨ L = 3 → 1000 ≤ r1) → Fo id (pf [2, 3, 4, 5, 6, 7, 8, 9, 20, 21, 22, 23, 24, 25, 26, 27, 29] []) z0 (go L x2 x3 x4 x5 r1 z)) (hz : fr (pf [2, 3, 4, 5, 6, 7, 8, 9, 20, 21, 22, 23, 24, 25, 26, 27, 29] []) z0 z) (hr1 : 1000 ≤ r1) : Fo id (pf [2, 3, 4, 5, 6, 7, 8, 9, 20, 21, 22, 23, 24, 25, 26, 27, 29] []) z0 (qm_X13_twoGo_2 K go x2 x3 x4 x5 r1 z) := by
  unfold qm_X13_twoGo_2
  exact (fo_rdI (fun v15 => (fo_rdI (fun v16 => (fo_cs0 (ff_X13_without (by first | omega | decide)) (pf_sub (by decide) pf_0) hz (fun z17 h_z17 => (hgo 3 _ _ _ _ _ z17 h_z17 (fun _ => (by first | omega | decide)))))))))
theorem fb_X13_twoGo_3 {K : Nat} {z0 z : ow_MS}  {go : Nat → Int32 → Int32 → Int32 → Int32 → Nat → ow_MS → Option ow_MS} {x2 : Int32} {x3 : Int32} {x4 : Int32} {x5 : Int32} {r1 : Nat}  (hgo : ∀ (L : Nat) (x2 : Int32) (x3 : Int32) (x4 : Int32) (x5 : Int32) (r1 : Nat) (z : ow_MS), fr (pf [2, 3, 4, 5, 6, 7, 8, 9, 20, 21, 22, 23, 24, 25, 26, 27, 29] []) z0 z → (L = 0 ∨ L = 1 ∨ L = 2 ∨ L = 3 → 1000 ≤ r1) → Fo id (pf [2, 3, 4, 5, 6, 7, 8, 9, 20, 21, 22, 23, 24, 25, 26, 27, 29] []) z0 (go L x2 x3 x4 x5 r1 z)) (hz : fr (pf [2, 3, 4, 5, 6, 7, 8, 9, 20, 21, 22, 23, 24, 25, 26, 27, 29] []) z0 z) (hr1 : 1000 ≤ r1) : Fo id (pf [2, 3, 4, 5, 6, 7, 8, 9, 20, 21, 22, 23, 24, 25, 26, 27, 29] []) z0 (qm_X13_twoGo_3 K go x2 x3 x4 x5 r1 z) := by
  unfold qm_X13_twoGo_3
  exact (hgo 1 _ _ _ _ _ z hz (fun _ => (by first | omega | decide)))
theorem fq_X13_twoGo {K : Nat} {z0 : ow_MS}   : ∀ (k L : Nat) (x2 : Int32) (x3 : Int32) (x4 : Int32) (x5 : Int32) (r1 : Nat) (z : ow_MS), fr (pf [2, 3, 4, 5, 6, 7, 8, 9, 20, 21, 22, 23, 24, 25, 26, 27, 29] []) z0 z → (L = 0 ∨ L = 1 ∨ L = 2 ∨ L = 3 → 1000 ≤ r1) → Fo id (pf [2, 3, 4, 5, 6, 7, 8, 9, 20, 21, 22, 23, 24, 25, 26, 27, 29] []) z0 (q_X13_twoGo K k L x2 x3 x4 x5 r1 z)
  | 0 => by
    intros
    exact fo_none
  | k + 1 => by
    intro L x2 x3 x4 x5 r1 z hz h9_r1
    show Fo id (pf [2, 3, 4, 5, 6, 7, 8, 9, 20, 21, 22, 23, 24, 25, 26, 27, 29] []) z0 (qb_X13_twoGo K (q_X13_twoGo K k) L x2 x3 x4 x5 r1 z)
    unfold qb_X13_twoGo
    split
    · exact fb_X13_twoGo_0 (fq_X13_twoGo k) hz (h9_r1 (by decide))
    · exact fb_X13_twoGo_1 (fq_X13_twoGo k) hz (h9_r1 (by decide))
    · exact fb_X13_twoGo_2 (fq_X13_twoGo k) hz (h9_r1 (by decide))
    · exact fb_X13_twoGo_3 (fq_X13_twoGo k) hz (h9_r1 (by decide))
    · exact fo_none
theorem ff_X13_twoGo {K : Nat} {r1 : Nat} {z : ow_MS} (hr1 : 1000 ≤ r1) : Fo id (pf [2, 3, 4, 5, 6, 7, 8, 9, 20, 21, 22, 23, 24, 25, 26, 27, 29] []) z (qe_X13_twoGo K r1 z) := fq_X13_twoGo K 0 _ _ _ _ _ z fr_rf (fun _ => (by first | omega | decide))
theorem fb_X13_twoAt_0 {K : Nat} {z0 z : ow_MS}  {go : Nat → Int32 → Int32 → Int32 → Int32 → Int32 → Int32 → Int32 → Int32 → Int32 → Nat → Int32 → Int32 → ow_MS → Option ow_MS} {x2 : Int32} {x3 : Int32} {x4 : Int32} {x5 : Int32} {x6 : Int32} {x7 : Int32} {x8 : Int32} {x9 : Int32} {x10 : Int32} {r1 : Nat} {t0 : Int32} {t1 : Int32}  (hgo : ∀ (L : Nat) (x2 : Int32) (x3 : Int32) (x4 : Int32) (x5 : Int32) (x6 : Int32) (x7 : Int32) (x8 : Int32) (x9 : Int32) (x10 : Int32) (r1 : Nat) (t0 : Int32) (t1 : Int32) (z : ow_MS), fr (pf [2, 3, 4, 5, 6, 7, 8, 9, 20, 21, 22, 23, 24, 25, 26, 27, 29, 31, 32] []) z0 z → (L = 0 ∨ L = 1 ∨ L = 2 ∨ L = 3 ∨ L = 4 → 1000 ≤ r1) → Fo id (pf [2, 3, 4, 5, 6, 7, 8, 9, 20, 21, 22, 23, 24, 25, 26, 27, 29, 31, 32] []) z0 (go L x2 x3 x4 x5 x6 x7 x8 x9 x10 r1 t0 t1 z)) (hz : fr (pf [2, 3, 4, 5, 6, 7, 8, 9, 20, 21, 22, 23, 24, 25, 26, 27, 29, 31, 32] []) z0 z) (hr1 : 1000 ≤ r1) : Fo id (pf [2, 3, 4, 5, 6, 7, 8, 9, 20, 21, 22, 23, 24, 25, 26, 27, 29, 31, 32] []) z0 (qm_X13_twoAt_0 K go x2 x3 x4 x5 x6 x7 x8 x9 x10 r1 t0 t1 z) := by
  unfold qm_X13_twoAt_0
  exact (fo_rdF (fun v1 => (fo_nzI (fo_if (hgo 1 _ _ _ _ _ _ _ _ _ _ _ _ z hz (fun _ => (by first | omega | decide))) (hgo 1 _ _ _ _ _ _ _ _ _ _ _ _ z hz (fun _ => (by first | omega | decide)))))))
theorem fb_X13_twoAt_1 {K : Nat} {z0 z : ow_MS}  {go : Nat → Int32 → Int32 → Int32 → Int32 → Int32 → Int32 → Int32 → Int32 → Int32 → Nat → Int32 → Int32 → ow_MS → Option ow_MS} {x2 : Int32} {x3 : Int32} {x4 : Int32} {x5 : Int32} {x6 : Int32} {x7 : Int32} {x8 : Int32} {x9 : Int32} {x10 : Int32} {r1 : Nat} {t0 : Int32} {t1 : Int32}  (hgo : ∀ (L : Nat) (x2 : Int32) (x3 : Int32) (x4 : Int32) (x5 : Int32) (x6 : Int32) (x7 : Int32) (x8 : Int32) (x9 : Int32) (x10 : Int32) (r1 : Nat) (t0 : Int32) (t1 : Int32) (z : ow_MS), fr (pf [2, 3, 4, 5, 6, 7, 8, 9, 20, 21, 22, 23, 24, 25, 26, 27, 29, 31, 32] []) z0 z → (L = 0 ∨ L = 1 ∨ L = 2 ∨ L = 3 ∨ L = 4 → 1000 ≤ r1) → Fo id (pf [2, 3, 4, 5, 6, 7, 8, 9, 20, 21, 22, 23, 24, 25, 26, 27, 29, 31, 32] []) z0 (go L x2 x3 x4 x5 x6 x7 x8 x9 x10 r1 t0 t1 z)) (hz : fr (pf [2, 3, 4, 5, 6, 7, 8, 9, 20, 21, 22, 23, 24, 25, 26, 27, 29, 31, 32] []) z0 z) (hr1 : 1000 ≤ r1) : Fo id (pf [2, 3, 4, 5, 6, 7, 8, 9, 20, 21, 22, 23, 24, 25, 26, 27, 29, 31, 32] []) z0 (qm_X13_twoAt_1 K go x2 x3 x4 x5 x6 x7 x8 x9 x10 r1 t0 t1 z) := by
  unfold qm_X13_twoAt_1
  exact (fo_cs0 (ff_X13_put) (pf_sub (by decide) pf_0) hz (fun z2 h_z2 => (fo_if (hgo 2 _ _ _ _ _ _ _ _ _ _ _ _ z2 h_z2 (fun _ => (by first | omega | decide))) (hgo 2 _ _ _ _ _ _ _ _ _ _ _ _ z2 h_z2 (fun _ => (by first | omega | decide))))))
theorem fb_X13_twoAt_2 {K : Nat} {z0 z : ow_MS}  {go : Nat → Int32 → Int32 → Int32 → Int32 → Int32 → Int32 → Int32 → Int32 → Int32 → Nat → Int32 → Int32 → ow_MS → Option ow_MS} {x2 : Int32} {x3 : Int32} {x4 : Int32} {x5 : Int32} {x6 : Int32} {x7 : Int32} {x8 : Int32} {x9 : Int32} {x10 : Int32} {r1 : Nat} {t0 : Int32} {t1 : Int32}  (hgo : ∀ (L : Nat) (x2 : Int32) (x3 : Int32) (x4 : Int32) (x5 : Int32) (x6 : Int32) (x7 : Int32) (x8 : Int32) (x9 : Int32) (x10 : Int32) (r1 : Nat) (t0 : Int32) (t1 : Int32) (z : ow_MS), fr (pf [2, 3, 4, 5, 6, 7, 8, 9, 20, 21, 22, 23, 24, 25, 26, 27, 29, 31, 32] []) z0 z → (L = 0 ∨ L = 1 ∨ L = 2 ∨ L = 3 ∨ L = 4 → 1000 ≤ r1) → Fo id (pf [2, 3, 4, 5, 6, 7, 8, 9, 20, 21, 22, 23, 24, 25, 26, 27, 29, 31, 32] []) z0 (go L x2 x3 x4 x5 x6 x7 x8 x9 x10 r1 t0 t1 z)) (hz : fr (pf [2, 3, 4, 5, 6, 7, 8, 9, 20, 21, 22, 23, 24, 25, 26, 27, 29, 31, 32] []) z0 z) (hr1 : 1000 ≤ r1) : Fo id (pf [2, 3, 4, 5, 6, 7, 8, 9, 20, 21, 22, 23, 24, 25, 26, 27, 29, 31, 32] []) z0 (qm_X13_twoAt_2 K go x2 x3 x4 x5 x6 x7 x8 x9 x10 r1 t0 t1 z) := by
  unfold qm_X13_twoAt_2
  exact (fo_cs0 (ff_X13_put) (pf_sub (by decide) pf_0) hz (fun z3 h_z3 => (fo_if (hgo 3 _ _ _ _ _ _ _ _ _ _ _ _ z3 h_z3 (fun _ => (by first | omega | decide))) (hgo 3 _ _ _ _ _ _ _ _ _ _ _ _ z3 h_z3 (fun _ => (by first | omega | decide))))))
theorem fb_X13_twoAt_3 {K : Nat} {z0 z : ow_MS}  {go : Nat → Int32 → Int32 → Int32 → Int32 → Int32 → Int32 → Int32 → Int32 → Int32 → Nat → Int32 → Int32 → ow_MS → Option ow_MS} {x2 : Int32} {x3 : Int32} {x4 : Int32} {x5 : Int32} {x6 : Int32} {x7 : Int32} {x8 : Int32} {x9 : Int32} {x10 : Int32} {r1 : Nat} {t0 : Int32} {t1 : Int32}  (hgo : ∀ (L : Nat) (x2 : Int32) (x3 : Int32) (x4 : Int32) (x5 : Int32) (x6 : Int32) (x7 : Int32) (x8 : Int32) (x9 : Int32) (x10 : Int32) (r1 : Nat) (t0 : Int32) (t1 : Int32) (z : ow_MS), fr (pf [2, 3, 4, 5, 6, 7, 8, 9, 20, 21, 22, 23, 24, 25, 26, 27, 29, 31, 32] []) z0 z → (L = 0 ∨ L = 1 ∨ L = 2 ∨ L = 3 ∨ L = 4 → 1000 ≤ r1) → Fo id (pf [2, 3, 4, 5, 6, 7, 8, 9, 20, 21, 22, 23, 24, 25, 26, 27, 29, 31, 32] []) z0 (go L x2 x3 x4 x5 x6 x7 x8 x9 x10 r1 t0 t1 z)) (hz : fr (pf [2, 3, 4, 5, 6, 7, 8, 9, 20, 21, 22, 23, 24, 25, 26, 27, 29, 31, 32] []) z0 z) (hr1 : 1000 ≤ r1) : Fo id (pf [2, 3, 4, 5, 6, 7, 8, 9, 20, 21, 22, 23, 24, 25, 26, 27, 29, 31, 32] []) z0 (qm_X13_twoAt_3 K go x2 x3 x4 x5 x6 x7 x8 x9 x10 r1 t0 t1 z) := by
  unfold qm_X13_twoAt_3
  exact (fo_cs0 (ff_X13_put) (pf_sub (by decide) pf_0) hz (fun z4 h_z4 => (fo_if (hgo 4 _ _ _ _ _ _ _ _ _ _ _ _ z4 h_z4 (fun _ => (by first | omega | decide))) (hgo 4 _ _ _ _ _ _ _ _ _ _ _ _ z4 h_z4 (fun _ => (by first | omega | decide))))))
theorem fb_X13_twoAt_4 {K : Nat} {z0 z : ow_MS}  {go : Nat → Int32 → Int32 → Int32 → Int32 → Int32 → Int32 → Int32 → Int32 → Int32 → Nat → Int32 → Int32 → ow_MS → Option ow_MS} {x2 : Int32} {x3 : Int32} {x4 : Int32} {x5 : Int32} {x6 : Int32} {x7 : Int32} {x8 : Int32} {x9 : Int32} {x10 : Int32} {r1 : Nat} {t0 : Int32} {t1 : Int32}  (hgo : ∀ (L : Nat) (x2 : Int32) (x3 : Int32) (x4 : Int32) (x5 : Int32) (x6 : Int32) (x7 : Int32) (x8 : Int32) (x9 : Int32) (x10 : Int32) (r1 : Nat) (t0 : Int32) (t1 : Int32) (z : ow_MS), fr (pf [2, 3, 4, 5, 6, 7, 8, 9, 20, 21, 22, 23, 24, 25, 26, 27, 29, 31, 32] []) z0 z → (L = 0 ∨ L = 1 ∨ L = 2 ∨ L = 3 ∨ L = 4 → 1000 ≤ r1) → Fo id (pf [2, 3, 4, 5, 6, 7, 8, 9, 20, 21, 22, 23, 24, 25, 26, 27, 29, 31, 32] []) z0 (go L x2 x3 x4 x5 x6 x7 x8 x9 x10 r1 t0 t1 z)) (hz : fr (pf [2, 3, 4, 5, 6, 7, 8, 9, 20, 21, 22, 23, 24, 25, 26, 27, 29, 31, 32] []) z0 z) (hr1 : 1000 ≤ r1) : Fo id (pf [2, 3, 4, 5, 6, 7, 8, 9, 20, 21, 22, 23, 24, 25, 26, 27, 29, 31, 32] []) z0 (qm_X13_twoAt_4 K go x2 x3 x4 x5 x6 x7 x8 x9 x10 r1 t0 t1 z) := by
  unfold qm_X13_twoAt_4
  exact (fo_cs0 (ff_X13_put) (pf_sub (by decide) pf_0) hz (fun z5 h_z5 => (fo_cs0 (ff_X13_build (by first | omega | decide)) (pf_sub (by decide) pf_0) h_z5 (fun z6 h_z6 => (fo_wrI (Or.inr (Or.inr (by decide))) h_z6 (fun z7 h_z7 => (fo_wrI (Or.inr (Or.inr (by decide))) h_z7 (fun z8 h_z8 => (fo_cs0 (ff_X12_link (by first | omega | decide)) (pf_sub (by decide) pf_0) h_z8 (fun z9 h_z9 => (fo_cs1 (ff_X12_isPlane (by first | omega | decide)) (pf_sub (by decide) pf_0) h_z9 (fun v11 z10 h_z10 => (fo_if (fo_some h_z10) (fo_cs0 (ff_X13_offer) (pf_sub (by decide) pf_0) h_z10 (fun z12 h_z12 => (fo_some h_z12))))))))))))))))
theorem fq_X13_twoAt {K : Nat} {z0 : ow_MS}   : ∀ (k L : Nat) (x2 : Int32) (x3 : Int32) (x4 : Int32) (x5 : Int32) (x6 : Int32) (x7 : Int32) (x8 : Int32) (x9 : Int32) (x10 : Int32) (r1 : Nat) (t0 : Int32) (t1 : Int32) (z : ow_MS), fr (pf [2, 3, 4, 5, 6, 7, 8, 9, 20, 21, 22, 23, 24, 25, 26, 27, 29, 31, 32] []) z0 z → (L = 0 ∨ L = 1 ∨ L = 2 ∨ L = 3 ∨ L = 4 → 1000 ≤ r1) → Fo id (pf [2, 3, 4, 5, 6, 7, 8, 9, 20, 21, 22, 23, 24, 25, 26, 27, 29, 31, 32] []) z0 (q_X13_twoAt K k L x2 x3 x4 x5 x6 x7 x8 x9 x10 r1 t0 t1 z)
  | 0 => by
    intros
    exact fo_none
  | k + 1 => by
    intro L x2 x3 x4 x5 x6 x7 x8 x9 x10 r1 t0 t1 z hz h9_r1
    show Fo id (pf [2, 3, 4, 5, 6, 7, 8, 9, 20, 21, 22, 23, 24, 25, 26, 27, 29, 31, 32] []) z0 (qb_X13_twoAt K (q_X13_twoAt K k) L x2 x3 x4 x5 x6 x7 x8 x9 x10 r1 t0 t1 z)
    unfold qb_X13_twoAt
    split
    · exact fb_X13_twoAt_0 (fq_X13_twoAt k) hz (h9_r1 (by decide))
    · exact fb_X13_twoAt_1 (fq_X13_twoAt k) hz (h9_r1 (by decide))
    · exact fb_X13_twoAt_2 (fq_X13_twoAt k) hz (h9_r1 (by decide))
    · exact fb_X13_twoAt_3 (fq_X13_twoAt k) hz (h9_r1 (by decide))
    · exact fb_X13_twoAt_4 (fq_X13_twoAt k) hz (h9_r1 (by decide))
    · exact fo_none
theorem ff_X13_twoAt {K : Nat} {r1 : Nat} {x2 : Int32} {x3 : Int32} {x4 : Int32} {z : ow_MS} (hr1 : 1000 ≤ r1) : Fo id (pf [2, 3, 4, 5, 6, 7, 8, 9, 20, 21, 22, 23, 24, 25, 26, 27, 29, 31, 32] []) z (qe_X13_twoAt K r1 x2 x3 x4 z) := fq_X13_twoAt K 0 _ _ _ _ _ _ _ _ _ _ _ _ z fr_rf (fun _ => (by first | omega | decide))
theorem fb_X13_twoCome_0 {K : Nat} {z0 z : ow_MS}  {go : Nat → Int32 → Int32 → Int32 → Nat → Int32 → Int32 → ow_MS → Option ow_MS} {x2 : Int32} {x3 : Int32} {x4 : Int32} {r1 : Nat} {t0 : Int32} {t1 : Int32}  (hgo : ∀ (L : Nat) (x2 : Int32) (x3 : Int32) (x4 : Int32) (r1 : Nat) (t0 : Int32) (t1 : Int32) (z : ow_MS), fr (pf [2, 3, 4, 5, 6, 7, 8, 9, 20, 21, 22, 23, 24, 25, 26, 27, 29, 31, 32] []) z0 z → (L = 0 ∨ L = 1 ∨ L = 2 ∨ L = 3 ∨ L = 4 ∨ L = 5 → 1000 ≤ r1) → Fo id (pf [2, 3, 4, 5, 6, 7, 8, 9, 20, 21, 22, 23, 24, 25, 26, 27, 29, 31, 32] []) z0 (go L x2 x3 x4 r1 t0 t1 z)) (hz : fr (pf [2, 3, 4, 5, 6, 7, 8, 9, 20, 21, 22, 23, 24, 25, 26, 27, 29, 31, 32] []) z0 z) (hr1 : 1000 ≤ r1) : Fo id (pf [2, 3, 4, 5, 6, 7, 8, 9, 20, 21, 22, 23, 24, 25, 26, 27, 29, 31, 32] []) z0 (qm_X13_twoCome_0 K go x2 x3 x4 r1 t0 t1 z) := by
  unfold qm_X13_twoCome_0
  exact (hgo 1 _ _ _ _ _ _ z hz (fun _ => (by first | omega | decide)))
theorem fb_X13_twoCome_1 {K : Nat} {z0 z : ow_MS}  {go : Nat → Int32 → Int32 → Int32 → Nat → Int32 → Int32 → ow_MS → Option ow_MS} {x2 : Int32} {x3 : Int32} {x4 : Int32} {r1 : Nat} {t0 : Int32} {t1 : Int32}  (hgo : ∀ (L : Nat) (x2 : Int32) (x3 : Int32) (x4 : Int32) (r1 : Nat) (t0 : Int32) (t1 : Int32) (z : ow_MS), fr (pf [2, 3, 4, 5, 6, 7, 8, 9, 20, 21, 22, 23, 24, 25, 26, 27, 29, 31, 32] []) z0 z → (L = 0 ∨ L = 1 ∨ L = 2 ∨ L = 3 ∨ L = 4 ∨ L = 5 → 1000 ≤ r1) → Fo id (pf [2, 3, 4, 5, 6, 7, 8, 9, 20, 21, 22, 23, 24, 25, 26, 27, 29, 31, 32] []) z0 (go L x2 x3 x4 r1 t0 t1 z)) (hz : fr (pf [2, 3, 4, 5, 6, 7, 8, 9, 20, 21, 22, 23, 24, 25, 26, 27, 29, 31, 32] []) z0 z) (hr1 : 1000 ≤ r1) : Fo id (pf [2, 3, 4, 5, 6, 7, 8, 9, 20, 21, 22, 23, 24, 25, 26, 27, 29, 31, 32] []) z0 (qm_X13_twoCome_1 K go x2 x3 x4 r1 t0 t1 z) := by
  unfold qm_X13_twoCome_1
  exact (fo_rdF (fun v1 => (fo_rdF (fun v2 => (fo_if (fo_some hz) (hgo 2 _ _ _ _ _ _ z hz (fun _ => (by first | omega | decide))))))))
theorem fb_X13_twoCome_2 {K : Nat} {z0 z : ow_MS}  {go : Nat → Int32 → Int32 → Int32 → Nat → Int32 → Int32 → ow_MS → Option ow_MS} {x2 : Int32} {x3 : Int32} {x4 : Int32} {r1 : Nat} {t0 : Int32} {t1 : Int32}  (hgo : ∀ (L : Nat) (x2 : Int32) (x3 : Int32) (x4 : Int32) (r1 : Nat) (t0 : Int32) (t1 : Int32) (z : ow_MS), fr (pf [2, 3, 4, 5, 6, 7, 8, 9, 20, 21, 22, 23, 24, 25, 26, 27, 29, 31, 32] []) z0 z → (L = 0 ∨ L = 1 ∨ L = 2 ∨ L = 3 ∨ L = 4 ∨ L = 5 → 1000 ≤ r1) → Fo id (pf [2, 3, 4, 5, 6, 7, 8, 9, 20, 21, 22, 23, 24, 25, 26, 27, 29, 31, 32] []) z0 (go L x2 x3 x4 r1 t0 t1 z)) (hz : fr (pf [2, 3, 4, 5, 6, 7, 8, 9, 20, 21, 22, 23, 24, 25, 26, 27, 29, 31, 32] []) z0 z) (hr1 : 1000 ≤ r1) : Fo id (pf [2, 3, 4, 5, 6, 7, 8, 9, 20, 21, 22, 23, 24, 25, 26, 27, 29, 31, 32] []) z0 (qm_X13_twoCome_2 K go x2 x3 x4 r1 t0 t1 z) := by
  unfold qm_X13_twoCome_2
  exact (fo_rdF (fun v3 => (fo_rdF (fun v4 => (fo_if (hgo 1 _ _ _ _ _ _ z hz (fun _ => (by first | omega | decide))) (hgo 3 _ _ _ _ _ _ z hz (fun _ => (by first | omega | decide))))))))
theorem fb_X13_twoCome_3 {K : Nat} {z0 z : ow_MS}  {go : Nat → Int32 → Int32 → Int32 → Nat → Int32 → Int32 → ow_MS → Option ow_MS} {x2 : Int32} {x3 : Int32} {x4 : Int32} {r1 : Nat} {t0 : Int32} {t1 : Int32}  (hgo : ∀ (L : Nat) (x2 : Int32) (x3 : Int32) (x4 : Int32) (r1 : Nat) (t0 : Int32) (t1 : Int32) (z : ow_MS), fr (pf [2, 3, 4, 5, 6, 7, 8, 9, 20, 21, 22, 23, 24, 25, 26, 27, 29, 31, 32] []) z0 z → (L = 0 ∨ L = 1 ∨ L = 2 ∨ L = 3 ∨ L = 4 ∨ L = 5 → 1000 ≤ r1) → Fo id (pf [2, 3, 4, 5, 6, 7, 8, 9, 20, 21, 22, 23, 24, 25, 26, 27, 29, 31, 32] []) z0 (go L x2 x3 x4 r1 t0 t1 z)) (hz : fr (pf [2, 3, 4, 5, 6, 7, 8, 9, 20, 21, 22, 23, 24, 25, 26, 27, 29, 31, 32] []) z0 z) (hr1 : 1000 ≤ r1) : Fo id (pf [2, 3, 4, 5, 6, 7, 8, 9, 20, 21, 22, 23, 24, 25, 26, 27, 29, 31, 32] []) z0 (qm_X13_twoCome_3 K go x2 x3 x4 r1 t0 t1 z) := by
  unfold qm_X13_twoCome_3
  exact (fo_if (hgo 4 _ _ _ _ _ _ z hz (fun _ => (by first | omega | decide))) (hgo 4 _ _ _ _ _ _ z hz (fun _ => (by first | omega | decide))))
theorem fb_X13_twoCome_4 {K : Nat} {z0 z : ow_MS}  {go : Nat → Int32 → Int32 → Int32 → Nat → Int32 → Int32 → ow_MS → Option ow_MS} {x2 : Int32} {x3 : Int32} {x4 : Int32} {r1 : Nat} {t0 : Int32} {t1 : Int32}  (hgo : ∀ (L : Nat) (x2 : Int32) (x3 : Int32) (x4 : Int32) (r1 : Nat) (t0 : Int32) (t1 : Int32) (z : ow_MS), fr (pf [2, 3, 4, 5, 6, 7, 8, 9, 20, 21, 22, 23, 24, 25, 26, 27, 29, 31, 32] []) z0 z → (L = 0 ∨ L = 1 ∨ L = 2 ∨ L = 3 ∨ L = 4 ∨ L = 5 → 1000 ≤ r1) → Fo id (pf [2, 3, 4, 5, 6, 7, 8, 9, 20, 21, 22, 23, 24, 25, 26, 27, 29, 31, 32] []) z0 (go L x2 x3 x4 r1 t0 t1 z)) (hz : fr (pf [2, 3, 4, 5, 6, 7, 8, 9, 20, 21, 22, 23, 24, 25, 26, 27, 29, 31, 32] []) z0 z) (hr1 : 1000 ≤ r1) : Fo id (pf [2, 3, 4, 5, 6, 7, 8, 9, 20, 21, 22, 23, 24, 25, 26, 27, 29, 31, 32] []) z0 (qm_X13_twoCome_4 K go x2 x3 x4 r1 t0 t1 z) := by
  unfold qm_X13_twoCome_4
  exact (fo_if (hgo 5 _ _ _ _ _ _ z hz (fun _ => (by first | omega | decide))) (fo_cs1 (ff_X13_isGap (by first | omega | decide)) (pf_sub (by decide) pf_0) hz (fun v6 z5 h_z5 => (fo_if (hgo 5 _ _ _ _ _ _ z5 h_z5 (fun _ => (by first | omega | decide))) (fo_cs1 (ff_X13_isGap (by first | omega | decide)) (pf_sub (by decide) pf_0) h_z5 (fun v8 z7 h_z7 => (fo_if (hgo 5 _ _ _ _ _ _ z7 h_z7 (fun _ => (by first | omega | decide))) (fo_cs0 (ff_X13_twoAt (by first | omega | decide)) (pf_sub (by decide) pf_0) h_z7 (fun z9 h_z9 => (hgo 3 _ _ _ _ _ _ z9 h_z9 (fun _ => (by first | omega | decide))))))))))))
theorem fb_X13_twoCome_5 {K : Nat} {z0 z : ow_MS}  {go : Nat → Int32 → Int32 → Int32 → Nat → Int32 → Int32 → ow_MS → Option ow_MS} {x2 : Int32} {x3 : Int32} {x4 : Int32} {r1 : Nat} {t0 : Int32} {t1 : Int32}  (hgo : ∀ (L : Nat) (x2 : Int32) (x3 : Int32) (x4 : Int32) (r1 : Nat) (t0 : Int32) (t1 : Int32) (z : ow_MS), fr (pf [2, 3, 4, 5, 6, 7, 8, 9, 20, 21, 22, 23, 24, 25, 26, 27, 29, 31, 32] []) z0 z → (L = 0 ∨ L = 1 ∨ L = 2 ∨ L = 3 ∨ L = 4 ∨ L = 5 → 1000 ≤ r1) → Fo id (pf [2, 3, 4, 5, 6, 7, 8, 9, 20, 21, 22, 23, 24, 25, 26, 27, 29, 31, 32] []) z0 (go L x2 x3 x4 r1 t0 t1 z)) (hz : fr (pf [2, 3, 4, 5, 6, 7, 8, 9, 20, 21, 22, 23, 24, 25, 26, 27, 29, 31, 32] []) z0 z) (hr1 : 1000 ≤ r1) : Fo id (pf [2, 3, 4, 5, 6, 7, 8, 9, 20, 21, 22, 23, 24, 25, 26, 27, 29, 31, 32] []) z0 (qm_X13_twoCome_5 K go x2 x3 x4 r1 t0 t1 z) := by
  unfold qm_X13_twoCome_5
  exact (hgo 2 _ _ _ _ _ _ z hz (fun _ => (by first | omega | decide)))
theorem fq_X13_twoCome {K : Nat} {z0 : ow_MS}   : ∀ (k L : Nat) (x2 : Int32) (x3 : Int32) (x4 : Int32) (r1 : Nat) (t0 : Int32) (t1 : Int32) (z : ow_MS), fr (pf [2, 3, 4, 5, 6, 7, 8, 9, 20, 21, 22, 23, 24, 25, 26, 27, 29, 31, 32] []) z0 z → (L = 0 ∨ L = 1 ∨ L = 2 ∨ L = 3 ∨ L = 4 ∨ L = 5 → 1000 ≤ r1) → Fo id (pf [2, 3, 4, 5, 6, 7, 8, 9, 20, 21, 22, 23, 24, 25, 26, 27, 29, 31, 32] []) z0 (q_X13_twoCome K k L x2 x3 x4 r1 t0 t1 z)
  | 0 => by
    intros
    exact fo_none
  | k + 1 => by
    intro L x2 x3 x4 r1 t0 t1 z hz h9_r1
    show Fo id (pf [2, 3, 4, 5, 6, 7, 8, 9, 20, 21, 22, 23, 24, 25, 26, 27, 29, 31, 32] []) z0 (qb_X13_twoCome K (q_X13_twoCome K k) L x2 x3 x4 r1 t0 t1 z)
    unfold qb_X13_twoCome
    split
    · exact fb_X13_twoCome_0 (fq_X13_twoCome k) hz (h9_r1 (by decide))
    · exact fb_X13_twoCome_1 (fq_X13_twoCome k) hz (h9_r1 (by decide))
    · exact fb_X13_twoCome_2 (fq_X13_twoCome k) hz (h9_r1 (by decide))
    · exact fb_X13_twoCome_3 (fq_X13_twoCome k) hz (h9_r1 (by decide))
    · exact fb_X13_twoCome_4 (fq_X13_twoCome k) hz (h9_r1 (by decide))
    · exact fb_X13_twoCome_5 (fq_X13_twoCome k) hz (h9_r1 (by decide))
    · exact fo_none
theorem ff_X13_twoCome {K : Nat} {r1 : Nat} {z : ow_MS} (hr1 : 1000 ≤ r1) : Fo id (pf [2, 3, 4, 5, 6, 7, 8, 9, 20, 21, 22, 23, 24, 25, 26, 27, 29, 31, 32] []) z (qe_X13_twoCome K r1 z) := fq_X13_twoCome K 0 _ _ _ _ _ _ z fr_rf (fun _ => (by first | omega | decide))
theorem fb_X13_tryMoves_0 {K : Nat} {z0 z : ow_MS}  {go : Nat → Int32 → Int32 → Nat → ow_MS → Option ow_MS} {x2 : Int32} {x3 : Int32} {r1 : Nat}  (hgo : ∀ (L : Nat) (x2 : Int32) (x3 : Int32) (r1 : Nat) (z : ow_MS), fr (pf [2, 3, 4, 5, 6, 7, 8, 9, 20, 21, 22, 23, 24, 25, 26, 27, 29, 31, 32, 33, 34] []) z0 z → (L = 0 ∨ L = 1 ∨ L = 2 → 1000 ≤ r1) → Fo id (pf [2, 3, 4, 5, 6, 7, 8, 9, 20, 21, 22, 23, 24, 25, 26, 27, 29, 31, 32, 33, 34] []) z0 (go L x2 x3 r1 z)) (hz : fr (pf [2, 3, 4, 5, 6, 7, 8, 9, 20, 21, 22, 23, 24, 25, 26, 27, 29, 31, 32, 33, 34] []) z0 z) (hr1 : 1000 ≤ r1) : Fo id (pf [2, 3, 4, 5, 6, 7, 8, 9, 20, 21, 22, 23, 24, 25, 26, 27, 29, 31, 32, 33, 34] []) z0 (qm_X13_tryMoves_0 K go x2 x3 r1 z) := by
  unfold qm_X13_tryMoves_0
  exact (fo_if (fo_cs0 (ff_X13_threeChange (by first | omega | decide)) (pf_sub (by decide) pf_0) hz (fun z1 h_z1 => (fo_some h_z1))) (fo_if (hgo 1 _ _ _ z hz (fun _ => (by first | omega | decide))) (fo_if (fo_rdF (fun v2 => (fo_nzI (fo_if (fo_some hz) (fo_cs0 (ff_X13_oneComes (by first | omega | decide)) (pf_sub (by decide) pf_0) hz (fun z3 h_z3 => (fo_some h_z3))))))) (fo_if (fo_cs0 (ff_X13_twoGo (by first | omega | decide)) (pf_sub (by decide) pf_0) hz (fun z4 h_z4 => (fo_some h_z4))) (fo_if (fo_rdF (fun v5 => (fo_nzI (fo_if (fo_some hz) (fo_cs0 (ff_X13_twoCome (by first | omega | decide)) (pf_sub (by decide) pf_0) hz (fun z6 h_z6 => (fo_some h_z6))))))) fo_none)))))
theorem fb_X13_tryMoves_1 {K : Nat} {z0 z : ow_MS}  {go : Nat → Int32 → Int32 → Nat → ow_MS → Option ow_MS} {x2 : Int32} {x3 : Int32} {r1 : Nat}  (hgo : ∀ (L : Nat) (x2 : Int32) (x3 : Int32) (r1 : Nat) (z : ow_MS), fr (pf [2, 3, 4, 5, 6, 7, 8, 9, 20, 21, 22, 23, 24, 25, 26, 27, 29, 31, 32, 33, 34] []) z0 z → (L = 0 ∨ L = 1 ∨ L = 2 → 1000 ≤ r1) → Fo id (pf [2, 3, 4, 5, 6, 7, 8, 9, 20, 21, 22, 23, 24, 25, 26, 27, 29, 31, 32, 33, 34] []) z0 (go L x2 x3 r1 z)) (hz : fr (pf [2, 3, 4, 5, 6, 7, 8, 9, 20, 21, 22, 23, 24, 25, 26, 27, 29, 31, 32, 33, 34] []) z0 z) (hr1 : 1000 ≤ r1) : Fo id (pf [2, 3, 4, 5, 6, 7, 8, 9, 20, 21, 22, 23, 24, 25, 26, 27, 29, 31, 32, 33, 34] []) z0 (qm_X13_tryMoves_1 K go x2 x3 r1 z) := by
  unfold qm_X13_tryMoves_1
  exact (fo_rdF (fun v7 => (fo_if (fo_some hz) (fo_rdI (fun v8 => (fo_rdI (fun v9 => (fo_if (fo_rdI (fun v10 => (fo_rdI (fun v11 => (fo_cs0 (ff_X13_without (by first | omega | decide)) (pf_sub (by decide) pf_0) hz (fun z12 h_z12 => (hgo 2 _ _ _ z12 h_z12 (fun _ => (by first | omega | decide))))))))) (hgo 2 _ _ _ z hz (fun _ => (by first | omega | decide)))))))))))
theorem fb_X13_tryMoves_2 {K : Nat} {z0 z : ow_MS}  {go : Nat → Int32 → Int32 → Nat → ow_MS → Option ow_MS} {x2 : Int32} {x3 : Int32} {r1 : Nat}  (hgo : ∀ (L : Nat) (x2 : Int32) (x3 : Int32) (r1 : Nat) (z : ow_MS), fr (pf [2, 3, 4, 5, 6, 7, 8, 9, 20, 21, 22, 23, 24, 25, 26, 27, 29, 31, 32, 33, 34] []) z0 z → (L = 0 ∨ L = 1 ∨ L = 2 → 1000 ≤ r1) → Fo id (pf [2, 3, 4, 5, 6, 7, 8, 9, 20, 21, 22, 23, 24, 25, 26, 27, 29, 31, 32, 33, 34] []) z0 (go L x2 x3 r1 z)) (hz : fr (pf [2, 3, 4, 5, 6, 7, 8, 9, 20, 21, 22, 23, 24, 25, 26, 27, 29, 31, 32, 33, 34] []) z0 z) (hr1 : 1000 ≤ r1) : Fo id (pf [2, 3, 4, 5, 6, 7, 8, 9, 20, 21, 22, 23, 24, 25, 26, 27, 29, 31, 32, 33, 34] []) z0 (qm_X13_tryMoves_2 K go x2 x3 r1 z) := by
  unfold qm_X13_tryMoves_2
  exact (hgo 1 _ _ _ z hz (fun _ => (by first | omega | decide)))
theorem fq_X13_tryMoves {K : Nat} {z0 : ow_MS}   : ∀ (k L : Nat) (x2 : Int32) (x3 : Int32) (r1 : Nat) (z : ow_MS), fr (pf [2, 3, 4, 5, 6, 7, 8, 9, 20, 21, 22, 23, 24, 25, 26, 27, 29, 31, 32, 33, 34] []) z0 z → (L = 0 ∨ L = 1 ∨ L = 2 → 1000 ≤ r1) → Fo id (pf [2, 3, 4, 5, 6, 7, 8, 9, 20, 21, 22, 23, 24, 25, 26, 27, 29, 31, 32, 33, 34] []) z0 (q_X13_tryMoves K k L x2 x3 r1 z)
  | 0 => by
    intros
    exact fo_none
  | k + 1 => by
    intro L x2 x3 r1 z hz h9_r1
    show Fo id (pf [2, 3, 4, 5, 6, 7, 8, 9, 20, 21, 22, 23, 24, 25, 26, 27, 29, 31, 32, 33, 34] []) z0 (qb_X13_tryMoves K (q_X13_tryMoves K k) L x2 x3 r1 z)
    unfold qb_X13_tryMoves
    split
    · exact fb_X13_tryMoves_0 (fq_X13_tryMoves k) hz (h9_r1 (by decide))
    · exact fb_X13_tryMoves_1 (fq_X13_tryMoves k) hz (h9_r1 (by decide))
    · exact fb_X13_tryMoves_2 (fq_X13_tryMoves k) hz (h9_r1 (by decide))
    · exact fo_none
theorem ff_X13_tryMoves {K : Nat} {r1 : Nat} {x2 : Int32} {z : ow_MS} (hr1 : 1000 ≤ r1) : Fo id (pf [2, 3, 4, 5, 6, 7, 8, 9, 20, 21, 22, 23, 24, 25, 26, 27, 29, 31, 32, 33, 34] []) z (qe_X13_tryMoves K r1 x2 z) := fq_X13_tryMoves K 0 _ _ _ z fr_rf (fun _ => (by first | omega | decide))
theorem fb_X13_moves_0 {K : Nat} {z0 z : ow_MS}  {go : Nat → Int32 → Int32 → ow_MS → Option (Int32 × ow_MS)} {x1 : Int32} {x2 : Int32}  (hgo : ∀ (L : Nat) (x1 : Int32) (x2 : Int32) (z : ow_MS), fr (pf [1, 2, 3, 4, 5, 6, 7, 8, 9, 20, 21, 22, 23, 24, 25, 26, 27, 29, 30, 31, 32, 33, 34] []) z0 z → Fo Prod.snd (pf [1, 2, 3, 4, 5, 6, 7, 8, 9, 20, 21, 22, 23, 24, 25, 26, 27, 29, 30, 31, 32, 33, 34] []) z0 (go L x1 x2 z)) (hz : fr (pf [1, 2, 3, 4, 5, 6, 7, 8, 9, 20, 21, 22, 23, 24, 25, 26, 27, 29, 30, 31, 32, 33, 34] []) z0 z)  : Fo Prod.snd (pf [1, 2, 3, 4, 5, 6, 7, 8, 9, 20, 21, 22, 23, 24, 25, 26, 27, 29, 30, 31, 32, 33, 34] []) z0 (qm_X13_moves_0 K go x1 x2 z) := by
  unfold qm_X13_moves_0
  exact (fo_wrF (Or.inl (by decide)) hz (fun z1 h_z1 => (fo_cs1 (ff_X13_has) (pf_sub (by decide) pf_0) h_z1 (fun v3 z2 h_z2 => (fo_if (fo_cs1 (ff_X13_fails) (pf_sub (by decide) pf_0) h_z2 (fun v10 z9 h_z9 => (fo_some h_z9))) (fo_if (hgo 1 _ _ z2 h_z2) (fo_if (fo_cs0 (ff_X13_open (by first | omega | decide)) (pf_sub (by decide) pf_0) h_z2 (fun z4 h_z4 => (fo_wrF (Or.inl (by decide)) h_z4 (fun z5 h_z5 => (fo_wrF (Or.inl (by decide)) h_z5 (fun z6 h_z6 => (fo_cs0 (ff_X13_tryMoves (by first | omega | decide)) (pf_sub (by decide) pf_0) h_z6 (fun z7 h_z7 => (fo_rdF (fun v8 => (fo_some h_z7))))))))))) (hgo 1 _ _ z2 h_z2))))))))
theorem fb_X13_moves_1 {K : Nat} {z0 z : ow_MS}  {go : Nat → Int32 → Int32 → ow_MS → Option (Int32 × ow_MS)} {x1 : Int32} {x2 : Int32}  (hgo : ∀ (L : Nat) (x1 : Int32) (x2 : Int32) (z : ow_MS), fr (pf [1, 2, 3, 4, 5, 6, 7, 8, 9, 20, 21, 22, 23, 24, 25, 26, 27, 29, 30, 31, 32, 33, 34] []) z0 z → Fo Prod.snd (pf [1, 2, 3, 4, 5, 6, 7, 8, 9, 20, 21, 22, 23, 24, 25, 26, 27, 29, 30, 31, 32, 33, 34] []) z0 (go L x1 x2 z)) (hz : fr (pf [1, 2, 3, 4, 5, 6, 7, 8, 9, 20, 21, 22, 23, 24, 25, 26, 27, 29, 30, 31, 32, 33, 34] []) z0 z)  : Fo Prod.snd (pf [1, 2, 3, 4, 5, 6, 7, 8, 9, 20, 21, 22, 23, 24, 25, 26, 27, 29, 30, 31, 32, 33, 34] []) z0 (qm_X13_moves_1 K go x1 x2 z) := by
  unfold qm_X13_moves_1
  exact (fo_cs1 (ff_X13_fails) (pf_sub (by decide) pf_0) hz (fun v12 z11 h_z11 => (fo_some h_z11)))
theorem fq_X13_moves {K : Nat} {z0 : ow_MS}   : ∀ (k L : Nat) (x1 : Int32) (x2 : Int32) (z : ow_MS), fr (pf [1, 2, 3, 4, 5, 6, 7, 8, 9, 20, 21, 22, 23, 24, 25, 26, 27, 29, 30, 31, 32, 33, 34] []) z0 z → Fo Prod.snd (pf [1, 2, 3, 4, 5, 6, 7, 8, 9, 20, 21, 22, 23, 24, 25, 26, 27, 29, 30, 31, 32, 33, 34] []) z0 (q_X13_moves K k L x1 x2 z)
  | 0 => by
    intros
    exact fo_none
  | k + 1 => by
    intro L x1 x2 z hz 
    show Fo Prod.snd (pf [1, 2, 3, 4, 5, 6, 7, 8, 9, 20, 21, 22, 23, 24, 25, 26, 27, 29, 30, 31, 32, 33, 34] []) z0 (qb_X13_moves K (q_X13_moves K k) L x1 x2 z)
    unfold qb_X13_moves
    split
    · exact fb_X13_moves_0 (fq_X13_moves k) hz 
    · exact fb_X13_moves_1 (fq_X13_moves k) hz 
    · exact fo_none
theorem ff_X13_moves {K : Nat} {x1 : Int32} {x2 : Int32} {z : ow_MS}  : Fo Prod.snd (pf [1, 2, 3, 4, 5, 6, 7, 8, 9, 20, 21, 22, 23, 24, 25, 26, 27, 29, 30, 31, 32, 33, 34] []) z (qe_X13_moves K x1 x2 z) := fq_X13_moves K 0 _ _ z fr_rf 
theorem fb_X13_keepRow_0 {K : Nat} {z0 z : ow_MS}  {go : Nat → Int32 → Int32 → Int32 → Nat → ow_MS → Option (Int32 × ow_MS)} {x2 : Int32} {x3 : Int32} {x4 : Int32} {r1 : Nat}  (hgo : ∀ (L : Nat) (x2 : Int32) (x3 : Int32) (x4 : Int32) (r1 : Nat) (z : ow_MS), fr (pf [12] []) z0 z → Fo Prod.snd (pf [12] []) z0 (go L x2 x3 x4 r1 z)) (hz : fr (pf [12] []) z0 z)  : Fo Prod.snd (pf [12] []) z0 (qm_X13_keepRow_0 K go x2 x3 x4 r1 z) := by
  unfold qm_X13_keepRow_0
  exact (fo_cs1 (ff_X13_free) (pf_sub (by decide) pf_0) hz (fun v2 z1 h_z1 => (hgo 1 _ _ _ _ z1 h_z1)))
theorem fb_X13_keepRow_1 {K : Nat} {z0 z : ow_MS}  {go : Nat → Int32 → Int32 → Int32 → Nat → ow_MS → Option (Int32 × ow_MS)} {x2 : Int32} {x3 : Int32} {x4 : Int32} {r1 : Nat}  (hgo : ∀ (L : Nat) (x2 : Int32) (x3 : Int32) (x4 : Int32) (r1 : Nat) (z : ow_MS), fr (pf [12] []) z0 z → Fo Prod.snd (pf [12] []) z0 (go L x2 x3 x4 r1 z)) (hz : fr (pf [12] []) z0 z)  : Fo Prod.snd (pf [12] []) z0 (qm_X13_keepRow_1 K go x2 x3 x4 r1 z) := by
  unfold qm_X13_keepRow_1
  exact (fo_rdI (fun v3 => (fo_if (fo_some hz) (fo_rdI (fun v4 => (fo_wrI (Or.inl (by decide)) hz (fun z5 h_z5 => (hgo 1 _ _ _ _ z5 h_z5))))))))
theorem fq_X13_keepRow {K : Nat} {z0 : ow_MS}   : ∀ (k L : Nat) (x2 : Int32) (x3 : Int32) (x4 : Int32) (r1 : Nat) (z : ow_MS), fr (pf [12] []) z0 z → Fo Prod.snd (pf [12] []) z0 (q_X13_keepRow K k L x2 x3 x4 r1 z)
  | 0 => by
    intros
    exact fo_none
  | k + 1 => by
    intro L x2 x3 x4 r1 z hz 
    show Fo Prod.snd (pf [12] []) z0 (qb_X13_keepRow K (q_X13_keepRow K k) L x2 x3 x4 r1 z)
    unfold qb_X13_keepRow
    split
    · exact fb_X13_keepRow_0 (fq_X13_keepRow k) hz 
    · exact fb_X13_keepRow_1 (fq_X13_keepRow k) hz 
    · exact fo_none
theorem ff_X13_keepRow {K : Nat} {r1 : Nat} {x2 : Int32} {z : ow_MS}  : Fo Prod.snd (pf [12] []) z (qe_X13_keepRow K r1 x2 z) := fq_X13_keepRow K 0 _ _ _ _ z fr_rf 
theorem fb_X13_moved_0 {K : Nat} {z0 z : ow_MS}  {go : Nat → Int32 → ow_MS → Option (Int32 × ow_MS)} {x1 : Int32}  (hgo : ∀ (L : Nat) (x1 : Int32) (z : ow_MS), fr (pf [1, 12] []) z0 z → Fo Prod.snd (pf [1, 12] []) z0 (go L x1 z)) (hz : fr (pf [1, 12] []) z0 z)  : Fo Prod.snd (pf [1, 12] []) z0 (qm_X13_moved_0 K go x1 z) := by
  unfold qm_X13_moved_0
  exact (fo_wrF (Or.inl (by decide)) hz (fun z1 h_z1 => (fo_if (hgo 1 _ z1 h_z1) (fo_rdF (fun v2 => (fo_if (fo_cs1 (ff_X13_free) (pf_sub (by decide) pf_0) h_z1 (fun v4 z3 h_z3 => (fo_if (fo_cs1 (ff_X13_fails) (pf_sub (by decide) pf_0) h_z3 (fun v9 z8 h_z8 => (fo_some h_z8))) (fo_rdI (fun v5 => (fo_cs1 (ff_X13_keepRow) (pf_sub (by decide) pf_0) h_z3 (fun v7 z6 h_z6 => (fo_some h_z6)))))))) (hgo 1 _ z1 h_z1)))))))
theorem fb_X13_moved_1 {K : Nat} {z0 z : ow_MS}  {go : Nat → Int32 → ow_MS → Option (Int32 × ow_MS)} {x1 : Int32}  (hgo : ∀ (L : Nat) (x1 : Int32) (z : ow_MS), fr (pf [1, 12] []) z0 z → Fo Prod.snd (pf [1, 12] []) z0 (go L x1 z)) (hz : fr (pf [1, 12] []) z0 z)  : Fo Prod.snd (pf [1, 12] []) z0 (qm_X13_moved_1 K go x1 z) := by
  unfold qm_X13_moved_1
  exact (fo_cs1 (ff_X13_fails) (pf_sub (by decide) pf_0) hz (fun v11 z10 h_z10 => (fo_some h_z10)))
theorem fq_X13_moved {K : Nat} {z0 : ow_MS}   : ∀ (k L : Nat) (x1 : Int32) (z : ow_MS), fr (pf [1, 12] []) z0 z → Fo Prod.snd (pf [1, 12] []) z0 (q_X13_moved K k L x1 z)
  | 0 => by
    intros
    exact fo_none
  | k + 1 => by
    intro L x1 z hz 
    show Fo Prod.snd (pf [1, 12] []) z0 (qb_X13_moved K (q_X13_moved K k) L x1 z)
    unfold qb_X13_moved
    split
    · exact fb_X13_moved_0 (fq_X13_moved k) hz 
    · exact fb_X13_moved_1 (fq_X13_moved k) hz 
    · exact fo_none
theorem ff_X13_moved {K : Nat} {x1 : Int32} {z : ow_MS}  : Fo Prod.snd (pf [1, 12] []) z (qe_X13_moved K x1 z) := fq_X13_moved K 0 _ z fr_rf 
theorem fb_X13_simplify_0 {K : Nat} {z0 z : ow_MS}  {go : Nat → Int32 → Int32 → Int32 → Int32 → ow_MS → Option (Int32 × ow_MS)} {x1 : Int32} {x2 : Int32} {x3 : Int32} {x4 : Int32}  (hgo : ∀ (L : Nat) (x1 : Int32) (x2 : Int32) (x3 : Int32) (x4 : Int32) (z : ow_MS), fr (pf [1, 2, 3, 4, 5, 6, 7, 8, 9, 12, 20, 21, 22, 23, 24, 25, 26, 27, 29, 30, 31, 32, 33, 34] []) z0 z → Fo Prod.snd (pf [1, 2, 3, 4, 5, 6, 7, 8, 9, 12, 20, 21, 22, 23, 24, 25, 26, 27, 29, 30, 31, 32, 33, 34] []) z0 (go L x1 x2 x3 x4 z)) (hz : fr (pf [1, 2, 3, 4, 5, 6, 7, 8, 9, 12, 20, 21, 22, 23, 24, 25, 26, 27, 29, 30, 31, 32, 33, 34] []) z0 z)  : Fo Prod.snd (pf [1, 2, 3, 4, 5, 6, 7, 8, 9, 12, 20, 21, 22, 23, 24, 25, 26, 27, 29, 30, 31, 32, 33, 34] []) z0 (qm_X13_simplify_0 K go x1 x2 x3 x4 z) := by
  unfold qm_X13_simplify_0
  exact (fo_wrF (Or.inl (by decide)) hz (fun z1 h_z1 => (fo_cs1 (ff_X13_has) (pf_sub (by decide) pf_0) h_z1 (fun v3 z2 h_z2 => (fo_if (fo_cs1 (ff_X13_fails) (pf_sub (by decide) pf_0) h_z2 (fun v9 z8 h_z8 => (fo_some h_z8))) (fo_cs1 (ff_X13_free) (pf_sub (by decide) pf_0) h_z2 (fun v5 z4 h_z4 => (fo_if (fo_cs1 (ff_X13_fails) (pf_sub (by decide) pf_0) h_z4 (fun v7 z6 h_z6 => (fo_some h_z6))) (hgo 1 _ _ _ _ z4 h_z4)))))))))
theorem fb_X13_simplify_1 {K : Nat} {z0 z : ow_MS}  {go : Nat → Int32 → Int32 → Int32 → Int32 → ow_MS → Option (Int32 × ow_MS)} {x1 : Int32} {x2 : Int32} {x3 : Int32} {x4 : Int32}  (hgo : ∀ (L : Nat) (x1 : Int32) (x2 : Int32) (x3 : Int32) (x4 : Int32) (z : ow_MS), fr (pf [1, 2, 3, 4, 5, 6, 7, 8, 9, 12, 20, 21, 22, 23, 24, 25, 26, 27, 29, 30, 31, 32, 33, 34] []) z0 z → Fo Prod.snd (pf [1, 2, 3, 4, 5, 6, 7, 8, 9, 12, 20, 21, 22, 23, 24, 25, 26, 27, 29, 30, 31, 32, 33, 34] []) z0 (go L x1 x2 x3 x4 z)) (hz : fr (pf [1, 2, 3, 4, 5, 6, 7, 8, 9, 12, 20, 21, 22, 23, 24, 25, 26, 27, 29, 30, 31, 32, 33, 34] []) z0 z)  : Fo Prod.snd (pf [1, 2, 3, 4, 5, 6, 7, 8, 9, 12, 20, 21, 22, 23, 24, 25, 26, 27, 29, 30, 31, 32, 33, 34] []) z0 (qm_X13_simplify_1 K go x1 x2 x3 x4 z) := by
  unfold qm_X13_simplify_1
  exact (fo_rdI (fun v10 => (fo_if (fo_wrF (Or.inl (by decide)) hz (fun z11 h_z11 => (fo_wrF (Or.inl (by decide)) h_z11 (fun z12 h_z12 => (hgo 2 _ _ _ _ z12 h_z12))))) (fo_rdI (fun v13 => (fo_wrI (Or.inl (by decide)) hz (fun z14 h_z14 => (hgo 1 _ _ _ _ z14 h_z14))))))))
theorem fb_X13_simplify_2 {K : Nat} {z0 z : ow_MS}  {go : Nat → Int32 → Int32 → Int32 → Int32 → ow_MS → Option (Int32 × ow_MS)} {x1 : Int32} {x2 : Int32} {x3 : Int32} {x4 : Int32}  (hgo : ∀ (L : Nat) (x1 : Int32) (x2 : Int32) (x3 : Int32) (x4 : Int32) (z : ow_MS), fr (pf [1, 2, 3, 4, 5, 6, 7, 8, 9, 12, 20, 21, 22, 23, 24, 25, 26, 27, 29, 30, 31, 32, 33, 34] []) z0 z → Fo Prod.snd (pf [1, 2, 3, 4, 5, 6, 7, 8, 9, 12, 20, 21, 22, 23, 24, 25, 26, 27, 29, 30, 31, 32, 33, 34] []) z0 (go L x1 x2 x3 x4 z)) (hz : fr (pf [1, 2, 3, 4, 5, 6, 7, 8, 9, 12, 20, 21, 22, 23, 24, 25, 26, 27, 29, 30, 31, 32, 33, 34] []) z0 z)  : Fo Prod.snd (pf [1, 2, 3, 4, 5, 6, 7, 8, 9, 12, 20, 21, 22, 23, 24, 25, 26, 27, 29, 30, 31, 32, 33, 34] []) z0 (qm_X13_simplify_2 K go x1 x2 x3 x4 z) := by
  unfold qm_X13_simplify_2
  exact (fo_rdF (fun v15 => (fo_if (hgo 5 _ _ _ _ z hz) (fo_rdF (fun v16 => (fo_if (hgo 5 _ _ _ _ z hz) (fo_cs1 (ff_X13_isLesser) (pf_sub (by decide) pf_0) hz (fun v18 z17 h_z17 => (fo_if (hgo 3 _ _ _ _ z17 h_z17) (hgo 3 _ _ _ _ z17 h_z17))))))))))
theorem fb_X13_simplify_3 {K : Nat} {z0 z : ow_MS}  {go : Nat → Int32 → Int32 → Int32 → Int32 → ow_MS → Option (Int32 × ow_MS)} {x1 : Int32} {x2 : Int32} {x3 : Int32} {x4 : Int32}  (hgo : ∀ (L : Nat) (x1 : Int32) (x2 : Int32) (x3 : Int32) (x4 : Int32) (z : ow_MS), fr (pf [1, 2, 3, 4, 5, 6, 7, 8, 9, 12, 20, 21, 22, 23, 24, 25, 26, 27, 29, 30, 31, 32, 33, 34] []) z0 z → Fo Prod.snd (pf [1, 2, 3, 4, 5, 6, 7, 8, 9, 12, 20, 21, 22, 23, 24, 25, 26, 27, 29, 30, 31, 32, 33, 34] []) z0 (go L x1 x2 x3 x4 z)) (hz : fr (pf [1, 2, 3, 4, 5, 6, 7, 8, 9, 12, 20, 21, 22, 23, 24, 25, 26, 27, 29, 30, 31, 32, 33, 34] []) z0 z)  : Fo Prod.snd (pf [1, 2, 3, 4, 5, 6, 7, 8, 9, 12, 20, 21, 22, 23, 24, 25, 26, 27, 29, 30, 31, 32, 33, 34] []) z0 (qm_X13_simplify_3 K go x1 x2 x3 x4 z) := by
  unfold qm_X13_simplify_3
  exact (hgo 4 _ _ _ _ z hz)
theorem fb_X13_simplify_4 {K : Nat} {z0 z : ow_MS}  {go : Nat → Int32 → Int32 → Int32 → Int32 → ow_MS → Option (Int32 × ow_MS)} {x1 : Int32} {x2 : Int32} {x3 : Int32} {x4 : Int32}  (hgo : ∀ (L : Nat) (x1 : Int32) (x2 : Int32) (x3 : Int32) (x4 : Int32) (z : ow_MS), fr (pf [1, 2, 3, 4, 5, 6, 7, 8, 9, 12, 20, 21, 22, 23, 24, 25, 26, 27, 29, 30, 31, 32, 33, 34] []) z0 z → Fo Prod.snd (pf [1, 2, 3, 4, 5, 6, 7, 8, 9, 12, 20, 21, 22, 23, 24, 25, 26, 27, 29, 30, 31, 32, 33, 34] []) z0 (go L x1 x2 x3 x4 z)) (hz : fr (pf [1, 2, 3, 4, 5, 6, 7, 8, 9, 12, 20, 21, 22, 23, 24, 25, 26, 27, 29, 30, 31, 32, 33, 34] []) z0 z)  : Fo Prod.snd (pf [1, 2, 3, 4, 5, 6, 7, 8, 9, 12, 20, 21, 22, 23, 24, 25, 26, 27, 29, 30, 31, 32, 33, 34] []) z0 (qm_X13_simplify_4 K go x1 x2 x3 x4 z) := by
  unfold qm_X13_simplify_4
  exact (fo_if (hgo 2 _ _ _ _ z hz) (fo_cs0 (ff_X13_unpack (by first | omega | decide)) (pf_sub (by decide) pf_0) hz (fun z19 h_z19 => (fo_cs0 (ff_X12_link (by first | omega | decide)) (pf_sub (by decide) pf_0) h_z19 (fun z20 h_z20 => (fo_cs0 (ff_X13_tryMoves (by first | omega | decide)) (pf_sub (by decide) pf_0) h_z20 (fun z21 h_z21 => (hgo 4 _ _ _ _ z21 h_z21))))))))
theorem fb_X13_simplify_5 {K : Nat} {z0 z : ow_MS}  {go : Nat → Int32 → Int32 → Int32 → Int32 → ow_MS → Option (Int32 × ow_MS)} {x1 : Int32} {x2 : Int32} {x3 : Int32} {x4 : Int32}  (hgo : ∀ (L : Nat) (x1 : Int32) (x2 : Int32) (x3 : Int32) (x4 : Int32) (z : ow_MS), fr (pf [1, 2, 3, 4, 5, 6, 7, 8, 9, 12, 20, 21, 22, 23, 24, 25, 26, 27, 29, 30, 31, 32, 33, 34] []) z0 z → Fo Prod.snd (pf [1, 2, 3, 4, 5, 6, 7, 8, 9, 12, 20, 21, 22, 23, 24, 25, 26, 27, 29, 30, 31, 32, 33, 34] []) z0 (go L x1 x2 x3 x4 z)) (hz : fr (pf [1, 2, 3, 4, 5, 6, 7, 8, 9, 12, 20, 21, 22, 23, 24, 25, 26, 27, 29, 30, 31, 32, 33, 34] []) z0 z)  : Fo Prod.snd (pf [1, 2, 3, 4, 5, 6, 7, 8, 9, 12, 20, 21, 22, 23, 24, 25, 26, 27, 29, 30, 31, 32, 33, 34] []) z0 (qm_X13_simplify_5 K go x1 x2 x3 x4 z) := by
  unfold qm_X13_simplify_5
  exact (fo_rdF (fun v22 => (fo_if (fo_cs1 (ff_X13_keepRow) (pf_sub (by decide) pf_0) hz (fun v24 z23 h_z23 => (fo_some h_z23))) (fo_some hz))))
theorem fq_X13_simplify {K : Nat} {z0 : ow_MS}   : ∀ (k L : Nat) (x1 : Int32) (x2 : Int32) (x3 : Int32) (x4 : Int32) (z : ow_MS), fr (pf [1, 2, 3, 4, 5, 6, 7, 8, 9, 12, 20, 21, 22, 23, 24, 25, 26, 27, 29, 30, 31, 32, 33, 34] []) z0 z → Fo Prod.snd (pf [1, 2, 3, 4, 5, 6, 7, 8, 9, 12, 20, 21, 22, 23, 24, 25, 26, 27, 29, 30, 31, 32, 33, 34] []) z0 (q_X13_simplify K k L x1 x2 x3 x4 z)
  | 0 => by
    intros
    exact fo_none
  | k + 1 => by
    intro L x1 x2 x3 x4 z hz 
    show Fo Prod.snd (pf [1, 2, 3, 4, 5, 6, 7, 8, 9, 12, 20, 21, 22, 23, 24, 25, 26, 27, 29, 30, 31, 32, 33, 34] []) z0 (qb_X13_simplify K (q_X13_simplify K k) L x1 x2 x3 x4 z)
    unfold qb_X13_simplify
    split
    · exact fb_X13_simplify_0 (fq_X13_simplify k) hz 
    · exact fb_X13_simplify_1 (fq_X13_simplify k) hz 
    · exact fb_X13_simplify_2 (fq_X13_simplify k) hz 
    · exact fb_X13_simplify_3 (fq_X13_simplify k) hz 
    · exact fb_X13_simplify_4 (fq_X13_simplify k) hz 
    · exact fb_X13_simplify_5 (fq_X13_simplify k) hz 
    · exact fo_none
theorem ff_X13_simplify {K : Nat} {x1 : Int32} {z : ow_MS}  : Fo Prod.snd (pf [1, 2, 3, 4, 5, 6, 7, 8, 9, 12, 20, 21, 22, 23, 24, 25, 26, 27, 29, 30, 31, 32, 33, 34] []) z (qe_X13_simplify K x1 z) := fq_X13_simplify K 0 _ _ _ _ z fr_rf 
theorem fb_X13_way_0 {K : Nat} {z0 z : ow_MS}  {go : Nat → Int32 → Int32 → Int32 → Int32 → Int32 → Int32 → Int32 → ow_MS → Option (Int32 × ow_MS)} {x1 : Int32} {x2 : Int32} {x3 : Int32} {x4 : Int32} {x5 : Int32} {x6 : Int32} {t0 : Int32}  (hgo : ∀ (L : Nat) (x1 : Int32) (x2 : Int32) (x3 : Int32) (x4 : Int32) (x5 : Int32) (x6 : Int32) (t0 : Int32) (z : ow_MS), fr (pf [1, 2, 3, 4, 5, 6, 7, 8, 9, 20, 21, 22, 23, 24, 25, 26, 27, 28, 29, 30, 31, 32, 33, 34] []) z0 z → Fo Prod.snd (pf [1, 2, 3, 4, 5, 6, 7, 8, 9, 20, 21, 22, 23, 24, 25, 26, 27, 28, 29, 30, 31, 32, 33, 34] []) z0 (go L x1 x2 x3 x4 x5 x6 t0 z)) (hz : fr (pf [1, 2, 3, 4, 5, 6, 7, 8, 9, 20, 21, 22, 23, 24, 25, 26, 27, 28, 29, 30, 31, 32, 33, 34] []) z0 z)  : Fo Prod.snd (pf [1, 2, 3, 4, 5, 6, 7, 8, 9, 20, 21, 22, 23, 24, 25, 26, 27, 28, 29, 30, 31, 32, 33, 34] []) z0 (qm_X13_way_0 K go x1 x2 x3 x4 x5 x6 t0 z) := by
  unfold qm_X13_way_0
  exact (fo_wrF (Or.inl (by decide)) hz (fun z1 h_z1 => (fo_cs1 (ff_X13_has) (pf_sub (by decide) pf_0) h_z1 (fun v3 z2 h_z2 => (fo_if (hgo 1 _ _ _ _ _ _ _ z2 h_z2) (fo_cs1 (ff_X13_has) (pf_sub (by decide) pf_0) h_z2 (fun v5 z4 h_z4 => (fo_if (hgo 1 _ _ _ _ _ _ _ z4 h_z4) (fo_cs1 (ff_X13_visitsOf) (pf_sub (by decide) pf_0) h_z4 (fun v7 z6 h_z6 => (fo_if (hgo 2 _ _ _ _ _ _ _ z6 h_z6) (fo_cs1 (ff_X13_visitsOf) (pf_sub (by decide) pf_0) h_z6 (fun v9 z8 h_z8 => (fo_if (fo_cs1 (ff_X13_alike) (pf_sub (by decide) pf_0) h_z8 (fun v11 z10 h_z10 => (fo_if (hgo 3 _ _ _ _ _ _ _ z10 h_z10) (fo_some h_z10)))) (hgo 2 _ _ _ _ _ _ _ z8 h_z8)))))))))))))))
theorem fb_X13_way_1 {K : Nat} {z0 z : ow_MS}  {go : Nat → Int32 → Int32 → Int32 → Int32 → Int32 → Int32 → Int32 → ow_MS → Option (Int32 × ow_MS)} {x1 : Int32} {x2 : Int32} {x3 : Int32} {x4 : Int32} {x5 : Int32} {x6 : Int32} {t0 : Int32}  (hgo : ∀ (L : Nat) (x1 : Int32) (x2 : Int32) (x3 : Int32) (x4 : Int32) (x5 : Int32) (x6 : Int32) (t0 : Int32) (z : ow_MS), fr (pf [1, 2, 3, 4, 5, 6, 7, 8, 9, 20, 21, 22, 23, 24, 25, 26, 27, 28, 29, 30, 31, 32, 33, 34] []) z0 z → Fo Prod.snd (pf [1, 2, 3, 4, 5, 6, 7, 8, 9, 20, 21, 22, 23, 24, 25, 26, 27, 28, 29, 30, 31, 32, 33, 34] []) z0 (go L x1 x2 x3 x4 x5 x6 t0 z)) (hz : fr (pf [1, 2, 3, 4, 5, 6, 7, 8, 9, 20, 21, 22, 23, 24, 25, 26, 27, 28, 29, 30, 31, 32, 33, 34] []) z0 z)  : Fo Prod.snd (pf [1, 2, 3, 4, 5, 6, 7, 8, 9, 20, 21, 22, 23, 24, 25, 26, 27, 28, 29, 30, 31, 32, 33, 34] []) z0 (qm_X13_way_1 K go x1 x2 x3 x4 x5 x6 t0 z) := by
  unfold qm_X13_way_1
  exact (fo_cs1 (ff_X13_fails) (pf_sub (by decide) pf_0) hz (fun v13 z12 h_z12 => (fo_some h_z12)))
theorem fb_X13_way_2 {K : Nat} {z0 z : ow_MS}  {go : Nat → Int32 → Int32 → Int32 → Int32 → Int32 → Int32 → Int32 → ow_MS → Option (Int32 × ow_MS)} {x1 : Int32} {x2 : Int32} {x3 : Int32} {x4 : Int32} {x5 : Int32} {x6 : Int32} {t0 : Int32}  (hgo : ∀ (L : Nat) (x1 : Int32) (x2 : Int32) (x3 : Int32) (x4 : Int32) (x5 : Int32) (x6 : Int32) (t0 : Int32) (z : ow_MS), fr (pf [1, 2, 3, 4, 5, 6, 7, 8, 9, 20, 21, 22, 23, 24, 25, 26, 27, 28, 29, 30, 31, 32, 33, 34] []) z0 z → Fo Prod.snd (pf [1, 2, 3, 4, 5, 6, 7, 8, 9, 20, 21, 22, 23, 24, 25, 26, 27, 28, 29, 30, 31, 32, 33, 34] []) z0 (go L x1 x2 x3 x4 x5 x6 t0 z)) (hz : fr (pf [1, 2, 3, 4, 5, 6, 7, 8, 9, 20, 21, 22, 23, 24, 25, 26, 27, 28, 29, 30, 31, 32, 33, 34] []) z0 z)  : Fo Prod.snd (pf [1, 2, 3, 4, 5, 6, 7, 8, 9, 20, 21, 22, 23, 24, 25, 26, 27, 28, 29, 30, 31, 32, 33, 34] []) z0 (qm_X13_way_2 K go x1 x2 x3 x4 x5 x6 t0 z) := by
  unfold qm_X13_way_2
  exact (fo_cs1 (ff_X13_fails) (pf_sub (by decide) pf_0) hz (fun v15 z14 h_z14 => (fo_some h_z14)))
theorem fb_X13_way_3 {K : Nat} {z0 z : ow_MS}  {go : Nat → Int32 → Int32 → Int32 → Int32 → Int32 → Int32 → Int32 → ow_MS → Option (Int32 × ow_MS)} {x1 : Int32} {x2 : Int32} {x3 : Int32} {x4 : Int32} {x5 : Int32} {x6 : Int32} {t0 : Int32}  (hgo : ∀ (L : Nat) (x1 : Int32) (x2 : Int32) (x3 : Int32) (x4 : Int32) (x5 : Int32) (x6 : Int32) (t0 : Int32) (z : ow_MS), fr (pf [1, 2, 3, 4, 5, 6, 7, 8, 9, 20, 21, 22, 23, 24, 25, 26, 27, 28, 29, 30, 31, 32, 33, 34] []) z0 z → Fo Prod.snd (pf [1, 2, 3, 4, 5, 6, 7, 8, 9, 20, 21, 22, 23, 24, 25, 26, 27, 28, 29, 30, 31, 32, 33, 34] []) z0 (go L x1 x2 x3 x4 x5 x6 t0 z)) (hz : fr (pf [1, 2, 3, 4, 5, 6, 7, 8, 9, 20, 21, 22, 23, 24, 25, 26, 27, 28, 29, 30, 31, 32, 33, 34] []) z0 z)  : Fo Prod.snd (pf [1, 2, 3, 4, 5, 6, 7, 8, 9, 20, 21, 22, 23, 24, 25, 26, 27, 28, 29, 30, 31, 32, 33, 34] []) z0 (qm_X13_way_3 K go x1 x2 x3 x4 x5 x6 t0 z) := by
  unfold qm_X13_way_3
  exact (fo_rdI (fun v16 => (fo_if (fo_wrF (Or.inl (by decide)) hz (fun z17 h_z17 => (hgo 4 _ _ _ _ _ _ _ z17 h_z17))) (fo_rdI (fun v18 => (fo_wrI (Or.inl (by decide)) hz (fun z19 h_z19 => (hgo 3 _ _ _ _ _ _ _ z19 h_z19))))))))
theorem fb_X13_way_4 {K : Nat} {z0 z : ow_MS}  {go : Nat → Int32 → Int32 → Int32 → Int32 → Int32 → Int32 → Int32 → ow_MS → Option (Int32 × ow_MS)} {x1 : Int32} {x2 : Int32} {x3 : Int32} {x4 : Int32} {x5 : Int32} {x6 : Int32} {t0 : Int32}  (hgo : ∀ (L : Nat) (x1 : Int32) (x2 : Int32) (x3 : Int32) (x4 : Int32) (x5 : Int32) (x6 : Int32) (t0 : Int32) (z : ow_MS), fr (pf [1, 2, 3, 4, 5, 6, 7, 8, 9, 20, 21, 22, 23, 24, 25, 26, 27, 28, 29, 30, 31, 32, 33, 34] []) z0 z → Fo Prod.snd (pf [1, 2, 3, 4, 5, 6, 7, 8, 9, 20, 21, 22, 23, 24, 25, 26, 27, 28, 29, 30, 31, 32, 33, 34] []) z0 (go L x1 x2 x3 x4 x5 x6 t0 z)) (hz : fr (pf [1, 2, 3, 4, 5, 6, 7, 8, 9, 20, 21, 22, 23, 24, 25, 26, 27, 28, 29, 30, 31, 32, 33, 34] []) z0 z)  : Fo Prod.snd (pf [1, 2, 3, 4, 5, 6, 7, 8, 9, 20, 21, 22, 23, 24, 25, 26, 27, 28, 29, 30, 31, 32, 33, 34] []) z0 (qm_X13_way_4 K go x1 x2 x3 x4 x5 x6 t0 z) := by
  unfold qm_X13_way_4
  exact (fo_if (hgo 5 _ _ _ _ _ _ _ z hz) (fo_cs0 (ff_X13_open (by first | omega | decide)) (pf_sub (by decide) pf_0) hz (fun z20 h_z20 => (fo_wrF (Or.inl (by decide)) h_z20 (fun z21 h_z21 => (fo_cs0 (ff_X13_tryMoves (by first | omega | decide)) (pf_sub (by decide) pf_0) h_z21 (fun z22 h_z22 => (hgo 4 _ _ _ _ _ _ _ z22 h_z22))))))))
theorem fb_X13_way_5 {K : Nat} {z0 z : ow_MS}  {go : Nat → Int32 → Int32 → Int32 → Int32 → Int32 → Int32 → Int32 → ow_MS → Option (Int32 × ow_MS)} {x1 : Int32} {x2 : Int32} {x3 : Int32} {x4 : Int32} {x5 : Int32} {x6 : Int32} {t0 : Int32}  (hgo : ∀ (L : Nat) (x1 : Int32) (x2 : Int32) (x3 : Int32) (x4 : Int32) (x5 : Int32) (x6 : Int32) (t0 : Int32) (z : ow_MS), fr (pf [1, 2, 3, 4, 5, 6, 7, 8, 9, 20, 21, 22, 23, 24, 25, 26, 27, 28, 29, 30, 31, 32, 33, 34] []) z0 z → Fo Prod.snd (pf [1, 2, 3, 4, 5, 6, 7, 8, 9, 20, 21, 22, 23, 24, 25, 26, 27, 28, 29, 30, 31, 32, 33, 34] []) z0 (go L x1 x2 x3 x4 x5 x6 t0 z)) (hz : fr (pf [1, 2, 3, 4, 5, 6, 7, 8, 9, 20, 21, 22, 23, 24, 25, 26, 27, 28, 29, 30, 31, 32, 33, 34] []) z0 z)  : Fo Prod.snd (pf [1, 2, 3, 4, 5, 6, 7, 8, 9, 20, 21, 22, 23, 24, 25, 26, 27, 28, 29, 30, 31, 32, 33, 34] []) z0 (qm_X13_way_5 K go x1 x2 x3 x4 x5 x6 t0 z) := by
  unfold qm_X13_way_5
  exact (fo_rdF (fun v23 => (fo_if (fo_okZ (fo_wrF (Or.inl (by decide)) hz (fun z24 h_z24 => (fo_wrF (Or.inl (by decide)) h_z24 (fun z25 h_z25 => (fo_cs1 (ff_X13_visitsOf) (pf_sub (by decide) pf_0) h_z25 (fun v27 z26 h_z26 => (fo_nzI (hgo 6 _ _ _ _ _ _ _ z26 h_z26))))))))) (fo_cs1 (ff_X13_isSame) (pf_sub (by decide) pf_0) hz (fun v29 z28 h_z28 => (fo_if (hgo 5 _ _ _ _ _ _ _ z28 h_z28) (fo_some h_z28)))))))
theorem fb_X13_way_6 {K : Nat} {z0 z : ow_MS}  {go : Nat → Int32 → Int32 → Int32 → Int32 → Int32 → Int32 → Int32 → ow_MS → Option (Int32 × ow_MS)} {x1 : Int32} {x2 : Int32} {x3 : Int32} {x4 : Int32} {x5 : Int32} {x6 : Int32} {t0 : Int32}  (hgo : ∀ (L : Nat) (x1 : Int32) (x2 : Int32) (x3 : Int32) (x4 : Int32) (x5 : Int32) (x6 : Int32) (t0 : Int32) (z : ow_MS), fr (pf [1, 2, 3, 4, 5, 6, 7, 8, 9, 20, 21, 22, 23, 24, 25, 26, 27, 28, 29, 30, 31, 32, 33, 34] []) z0 z → Fo Prod.snd (pf [1, 2, 3, 4, 5, 6, 7, 8, 9, 20, 21, 22, 23, 24, 25, 26, 27, 28, 29, 30, 31, 32, 33, 34] []) z0 (go L x1 x2 x3 x4 x5 x6 t0 z)) (hz : fr (pf [1, 2, 3, 4, 5, 6, 7, 8, 9, 20, 21, 22, 23, 24, 25, 26, 27, 28, 29, 30, 31, 32, 33, 34] []) z0 z)  : Fo Prod.snd (pf [1, 2, 3, 4, 5, 6, 7, 8, 9, 20, 21, 22, 23, 24, 25, 26, 27, 28, 29, 30, 31, 32, 33, 34] []) z0 (qm_X13_way_6 K go x1 x2 x3 x4 x5 x6 t0 z) := by
  unfold qm_X13_way_6
  exact (fo_rdF (fun v30 => (fo_if (hgo 9 _ _ _ _ _ _ _ z hz) (fo_rdF (fun v31 => (fo_if (fo_cs1 (ff_X13_visitsOf) (pf_sub (by decide) pf_0) hz (fun v33 z32 h_z32 => (fo_nzI (fo_if (hgo 7 _ _ _ _ _ _ _ z32 h_z32) (fo_if (hgo 7 _ _ _ _ _ _ _ z32 h_z32) (fo_if (hgo 7 _ _ _ _ _ _ _ z32 h_z32) (fo_if (hgo 7 _ _ _ _ _ _ _ z32 h_z32) (fo_if (hgo 7 _ _ _ _ _ _ _ z32 h_z32) (hgo 7 _ _ _ _ _ _ _ z32 h_z32))))))))) (hgo 9 _ _ _ _ _ _ _ z hz)))))))
theorem fb_X13_way_7 {K : Nat} {z0 z : ow_MS}  {go : Nat → Int32 → Int32 → Int32 → Int32 → Int32 → Int32 → Int32 → ow_MS → Option (Int32 × ow_MS)} {x1 : Int32} {x2 : Int32} {x3 : Int32} {x4 : Int32} {x5 : Int32} {x6 : Int32} {t0 : Int32}  (hgo : ∀ (L : Nat) (x1 : Int32) (x2 : Int32) (x3 : Int32) (x4 : Int32) (x5 : Int32) (x6 : Int32) (t0 : Int32) (z : ow_MS), fr (pf [1, 2, 3, 4, 5, 6, 7, 8, 9, 20, 21, 22, 23, 24, 25, 26, 27, 28, 29, 30, 31, 32, 33, 34] []) z0 z → Fo Prod.snd (pf [1, 2, 3, 4, 5, 6, 7, 8, 9, 20, 21, 22, 23, 24, 25, 26, 27, 28, 29, 30, 31, 32, 33, 34] []) z0 (go L x1 x2 x3 x4 x5 x6 t0 z)) (hz : fr (pf [1, 2, 3, 4, 5, 6, 7, 8, 9, 20, 21, 22, 23, 24, 25, 26, 27, 28, 29, 30, 31, 32, 33, 34] []) z0 z)  : Fo Prod.snd (pf [1, 2, 3, 4, 5, 6, 7, 8, 9, 20, 21, 22, 23, 24, 25, 26, 27, 28, 29, 30, 31, 32, 33, 34] []) z0 (qm_X13_way_7 K go x1 x2 x3 x4 x5 x6 t0 z) := by
  unfold qm_X13_way_7
  exact (fo_if (hgo 8 _ _ _ _ _ _ _ z hz) (fo_cs0 (ff_X13_unpack (by first | omega | decide)) (pf_sub (by decide) pf_0) hz (fun z34 h_z34 => (fo_cs0 (ff_X12_link (by first | omega | decide)) (pf_sub (by decide) pf_0) h_z34 (fun z35 h_z35 => (fo_cs0 (ff_X13_tryMoves (by first | omega | decide)) (pf_sub (by decide) pf_0) h_z35 (fun z36 h_z36 => (hgo 8 _ _ _ _ _ _ _ z36 h_z36))))))))
theorem fb_X13_way_8 {K : Nat} {z0 z : ow_MS}  {go : Nat → Int32 → Int32 → Int32 → Int32 → Int32 → Int32 → Int32 → ow_MS → Option (Int32 × ow_MS)} {x1 : Int32} {x2 : Int32} {x3 : Int32} {x4 : Int32} {x5 : Int32} {x6 : Int32} {t0 : Int32}  (hgo : ∀ (L : Nat) (x1 : Int32) (x2 : Int32) (x3 : Int32) (x4 : Int32) (x5 : Int32) (x6 : Int32) (t0 : Int32) (z : ow_MS), fr (pf [1, 2, 3, 4, 5, 6, 7, 8, 9, 20, 21, 22, 23, 24, 25, 26, 27, 28, 29, 30, 31, 32, 33, 34] []) z0 z → Fo Prod.snd (pf [1, 2, 3, 4, 5, 6, 7, 8, 9, 20, 21, 22, 23, 24, 25, 26, 27, 28, 29, 30, 31, 32, 33, 34] []) z0 (go L x1 x2 x3 x4 x5 x6 t0 z)) (hz : fr (pf [1, 2, 3, 4, 5, 6, 7, 8, 9, 20, 21, 22, 23, 24, 25, 26, 27, 28, 29, 30, 31, 32, 33, 34] []) z0 z)  : Fo Prod.snd (pf [1, 2, 3, 4, 5, 6, 7, 8, 9, 20, 21, 22, 23, 24, 25, 26, 27, 28, 29, 30, 31, 32, 33, 34] []) z0 (qm_X13_way_8 K go x1 x2 x3 x4 x5 x6 t0 z) := by
  unfold qm_X13_way_8
  exact (hgo 6 _ _ _ _ _ _ _ z hz)
theorem fb_X13_way_9 {K : Nat} {z0 z : ow_MS}  {go : Nat → Int32 → Int32 → Int32 → Int32 → Int32 → Int32 → Int32 → ow_MS → Option (Int32 × ow_MS)} {x1 : Int32} {x2 : Int32} {x3 : Int32} {x4 : Int32} {x5 : Int32} {x6 : Int32} {t0 : Int32}  (hgo : ∀ (L : Nat) (x1 : Int32) (x2 : Int32) (x3 : Int32) (x4 : Int32) (x5 : Int32) (x6 : Int32) (t0 : Int32) (z : ow_MS), fr (pf [1, 2, 3, 4, 5, 6, 7, 8, 9, 20, 21, 22, 23, 24, 25, 26, 27, 28, 29, 30, 31, 32, 33, 34] []) z0 z → Fo Prod.snd (pf [1, 2, 3, 4, 5, 6, 7, 8, 9, 20, 21, 22, 23, 24, 25, 26, 27, 28, 29, 30, 31, 32, 33, 34] []) z0 (go L x1 x2 x3 x4 x5 x6 t0 z)) (hz : fr (pf [1, 2, 3, 4, 5, 6, 7, 8, 9, 20, 21, 22, 23, 24, 25, 26, 27, 28, 29, 30, 31, 32, 33, 34] []) z0 z)  : Fo Prod.snd (pf [1, 2, 3, 4, 5, 6, 7, 8, 9, 20, 21, 22, 23, 24, 25, 26, 27, 28, 29, 30, 31, 32, 33, 34] []) z0 (qm_X13_way_9 K go x1 x2 x3 x4 x5 x6 t0 z) := by
  unfold qm_X13_way_9
  exact (fo_rdF (fun v37 => (fo_if (fo_some hz) (fo_some hz))))
theorem fq_X13_way {K : Nat} {z0 : ow_MS}   : ∀ (k L : Nat) (x1 : Int32) (x2 : Int32) (x3 : Int32) (x4 : Int32) (x5 : Int32) (x6 : Int32) (t0 : Int32) (z : ow_MS), fr (pf [1, 2, 3, 4, 5, 6, 7, 8, 9, 20, 21, 22, 23, 24, 25, 26, 27, 28, 29, 30, 31, 32, 33, 34] []) z0 z → Fo Prod.snd (pf [1, 2, 3, 4, 5, 6, 7, 8, 9, 20, 21, 22, 23, 24, 25, 26, 27, 28, 29, 30, 31, 32, 33, 34] []) z0 (q_X13_way K k L x1 x2 x3 x4 x5 x6 t0 z)
  | 0 => by
    intros
    exact fo_none
  | k + 1 => by
    intro L x1 x2 x3 x4 x5 x6 t0 z hz 
    show Fo Prod.snd (pf [1, 2, 3, 4, 5, 6, 7, 8, 9, 20, 21, 22, 23, 24, 25, 26, 27, 28, 29, 30, 31, 32, 33, 34] []) z0 (qb_X13_way K (q_X13_way K k) L x1 x2 x3 x4 x5 x6 t0 z)
    unfold qb_X13_way
    split
    · exact fb_X13_way_0 (fq_X13_way k) hz 
    · exact fb_X13_way_1 (fq_X13_way k) hz 
    · exact fb_X13_way_2 (fq_X13_way k) hz 
    · exact fb_X13_way_3 (fq_X13_way k) hz 
    · exact fb_X13_way_4 (fq_X13_way k) hz 
    · exact fb_X13_way_5 (fq_X13_way k) hz 
    · exact fb_X13_way_6 (fq_X13_way k) hz 
    · exact fb_X13_way_7 (fq_X13_way k) hz 
    · exact fb_X13_way_8 (fq_X13_way k) hz 
    · exact fb_X13_way_9 (fq_X13_way k) hz 
    · exact fo_none
theorem ff_X13_way {K : Nat} {x1 : Int32} {x2 : Int32} {z : ow_MS}  : Fo Prod.snd (pf [1, 2, 3, 4, 5, 6, 7, 8, 9, 20, 21, 22, 23, 24, 25, 26, 27, 28, 29, 30, 31, 32, 33, 34] []) z (qe_X13_way K x1 x2 z) := fq_X13_way K 0 _ _ _ _ _ _ _ z fr_rf 
theorem fb_X13_waitsFor_0 {K : Nat} {z0 z : ow_MS}  {go : Nat → Int32 → Int32 → Int32 → Int32 → Int32 → Nat → ow_MS → Option ow_MS} {x2 : Int32} {x3 : Int32} {x4 : Int32} {x5 : Int32} {x6 : Int32} {r1 : Nat}  (hgo : ∀ (L : Nat) (x2 : Int32) (x3 : Int32) (x4 : Int32) (x5 : Int32) (x6 : Int32) (r1 : Nat) (z : ow_MS), fr (pf [2, 3, 4, 5, 6, 7, 8, 9, 37] []) z0 z → (L = 0 ∨ L = 1 ∨ L = 2 ∨ L = 3 ∨ L = 4 → 1000 ≤ r1) → Fo id (pf [2, 3, 4, 5, 6, 7, 8, 9, 37] []) z0 (go L x2 x3 x4 x5 x6 r1 z)) (hz : fr (pf [2, 3, 4, 5, 6, 7, 8, 9, 37] []) z0 z) (hr1 : 1000 ≤ r1) : Fo id (pf [2, 3, 4, 5, 6, 7, 8, 9, 37] []) z0 (qm_X13_waitsFor_0 K go x2 x3 x4 x5 x6 r1 z) := by
  unfold qm_X13_waitsFor_0
  exact (fo_cs0 (ff_X12_clear (by first | omega | decide)) (pf_sub (by decide) pf_0) hz (fun z1 h_z1 => (fo_cs0 (ff_X12_signsOf (by first | omega | decide) (by first | omega | decide)) (pf_sub (by decide) pf_0) h_z1 (fun z2 h_z2 => (hgo 1 _ _ _ _ _ _ z2 h_z2 (fun _ => (by first | omega | decide)))))))
theorem fb_X13_waitsFor_1 {K : Nat} {z0 z : ow_MS}  {go : Nat → Int32 → Int32 → Int32 → Int32 → Int32 → Nat → ow_MS → Option ow_MS} {x2 : Int32} {x3 : Int32} {x4 : Int32} {x5 : Int32} {x6 : Int32} {r1 : Nat}  (hgo : ∀ (L : Nat) (x2 : Int32) (x3 : Int32) (x4 : Int32) (x5 : Int32) (x6 : Int32) (r1 : Nat) (z : ow_MS), fr (pf [2, 3, 4, 5, 6, 7, 8, 9, 37] []) z0 z → (L = 0 ∨ L = 1 ∨ L = 2 ∨ L = 3 ∨ L = 4 → 1000 ≤ r1) → Fo id (pf [2, 3, 4, 5, 6, 7, 8, 9, 37] []) z0 (go L x2 x3 x4 x5 x6 r1 z)) (hz : fr (pf [2, 3, 4, 5, 6, 7, 8, 9, 37] []) z0 z) (hr1 : 1000 ≤ r1) : Fo id (pf [2, 3, 4, 5, 6, 7, 8, 9, 37] []) z0 (qm_X13_waitsFor_1 K go x2 x3 x4 x5 x6 r1 z) := by
  unfold qm_X13_waitsFor_1
  exact (fo_rdF (fun v3 => (fo_if (fo_cs0 (ff_X13_pack (by first | omega | decide)) (pf_sub (by decide) (pf_1 (Or.inl (by decide)))) hz (fun z4 h_z4 => (fo_some h_z4))) (fo_rdI (fun v5 => (hgo 2 _ _ _ _ _ _ z hz (fun _ => (by first | omega | decide))))))))
theorem fb_X13_waitsFor_2 {K : Nat} {z0 z : ow_MS}  {go : Nat → Int32 → Int32 → Int32 → Int32 → Int32 → Nat → ow_MS → Option ow_MS} {x2 : Int32} {x3 : Int32} {x4 : Int32} {x5 : Int32} {x6 : Int32} {r1 : Nat}  (hgo : ∀ (L : Nat) (x2 : Int32) (x3 : Int32) (x4 : Int32) (x5 : Int32) (x6 : Int32) (r1 : Nat) (z : ow_MS), fr (pf [2, 3, 4, 5, 6, 7, 8, 9, 37] []) z0 z → (L = 0 ∨ L = 1 ∨ L = 2 ∨ L = 3 ∨ L = 4 → 1000 ≤ r1) → Fo id (pf [2, 3, 4, 5, 6, 7, 8, 9, 37] []) z0 (go L x2 x3 x4 x5 x6 r1 z)) (hz : fr (pf [2, 3, 4, 5, 6, 7, 8, 9, 37] []) z0 z) (hr1 : 1000 ≤ r1) : Fo id (pf [2, 3, 4, 5, 6, 7, 8, 9, 37] []) z0 (qm_X13_waitsFor_2 K go x2 x3 x4 x5 x6 r1 z) := by
  unfold qm_X13_waitsFor_2
  exact (fo_rdI (fun v6 => (fo_if (fo_if (hgo 4 _ _ _ _ _ _ z hz (fun _ => (by first | omega | decide))) (fo_cs0 (ff_X12_end (by first | omega | decide)) (pf_sub (by decide) pf_0) hz (fun z7 h_z7 => (hgo 4 _ _ _ _ _ _ z7 h_z7 (fun _ => (by first | omega | decide)))))) (fo_rdI (fun v8 => (fo_if (fo_rdI (fun v9 => (fo_rdI (fun v10 => (fo_cs0 (ff_X12_add (by first | omega | decide)) (pf_sub (by decide) pf_0) hz (fun z11 h_z11 => (hgo 3 _ _ _ _ _ _ z11 h_z11 (fun _ => (by first | omega | decide))))))))) (hgo 3 _ _ _ _ _ _ z hz (fun _ => (by first | omega | decide)))))))))
theorem fb_X13_waitsFor_3 {K : Nat} {z0 z : ow_MS}  {go : Nat → Int32 → Int32 → Int32 → Int32 → Int32 → Nat → ow_MS → Option ow_MS} {x2 : Int32} {x3 : Int32} {x4 : Int32} {x5 : Int32} {x6 : Int32} {r1 : Nat}  (hgo : ∀ (L : Nat) (x2 : Int32) (x3 : Int32) (x4 : Int32) (x5 : Int32) (x6 : Int32) (r1 : Nat) (z : ow_MS), fr (pf [2, 3, 4, 5, 6, 7, 8, 9, 37] []) z0 z → (L = 0 ∨ L = 1 ∨ L = 2 ∨ L = 3 ∨ L = 4 → 1000 ≤ r1) → Fo id (pf [2, 3, 4, 5, 6, 7, 8, 9, 37] []) z0 (go L x2 x3 x4 x5 x6 r1 z)) (hz : fr (pf [2, 3, 4, 5, 6, 7, 8, 9, 37] []) z0 z) (hr1 : 1000 ≤ r1) : Fo id (pf [2, 3, 4, 5, 6, 7, 8, 9, 37] []) z0 (qm_X13_waitsFor_3 K go x2 x3 x4 x5 x6 r1 z) := by
  unfold qm_X13_waitsFor_3
  exact (hgo 2 _ _ _ _ _ _ z hz (fun _ => (by first | omega | decide)))
theorem fb_X13_waitsFor_4 {K : Nat} {z0 z : ow_MS}  {go : Nat → Int32 → Int32 → Int32 → Int32 → Int32 → Nat → ow_MS → Option ow_MS} {x2 : Int32} {x3 : Int32} {x4 : Int32} {x5 : Int32} {x6 : Int32} {r1 : Nat}  (hgo : ∀ (L : Nat) (x2 : Int32) (x3 : Int32) (x4 : Int32) (x5 : Int32) (x6 : Int32) (r1 : Nat) (z : ow_MS), fr (pf [2, 3, 4, 5, 6, 7, 8, 9, 37] []) z0 z → (L = 0 ∨ L = 1 ∨ L = 2 ∨ L = 3 ∨ L = 4 → 1000 ≤ r1) → Fo id (pf [2, 3, 4, 5, 6, 7, 8, 9, 37] []) z0 (go L x2 x3 x4 x5 x6 r1 z)) (hz : fr (pf [2, 3, 4, 5, 6, 7, 8, 9, 37] []) z0 z) (hr1 : 1000 ≤ r1) : Fo id (pf [2, 3, 4, 5, 6, 7, 8, 9, 37] []) z0 (qm_X13_waitsFor_4 K go x2 x3 x4 x5 x6 r1 z) := by
  unfold qm_X13_waitsFor_4
  exact (hgo 1 _ _ _ _ _ _ z hz (fun _ => (by first | omega | decide)))
theorem fq_X13_waitsFor {K : Nat} {z0 : ow_MS}   : ∀ (k L : Nat) (x2 : Int32) (x3 : Int32) (x4 : Int32) (x5 : Int32) (x6 : Int32) (r1 : Nat) (z : ow_MS), fr (pf [2, 3, 4, 5, 6, 7, 8, 9, 37] []) z0 z → (L = 0 ∨ L = 1 ∨ L = 2 ∨ L = 3 ∨ L = 4 → 1000 ≤ r1) → Fo id (pf [2, 3, 4, 5, 6, 7, 8, 9, 37] []) z0 (q_X13_waitsFor K k L x2 x3 x4 x5 x6 r1 z)
  | 0 => by
    intros
    exact fo_none
  | k + 1 => by
    intro L x2 x3 x4 x5 x6 r1 z hz h9_r1
    show Fo id (pf [2, 3, 4, 5, 6, 7, 8, 9, 37] []) z0 (qb_X13_waitsFor K (q_X13_waitsFor K k) L x2 x3 x4 x5 x6 r1 z)
    unfold qb_X13_waitsFor
    split
    · exact fb_X13_waitsFor_0 (fq_X13_waitsFor k) hz (h9_r1 (by decide))
    · exact fb_X13_waitsFor_1 (fq_X13_waitsFor k) hz (h9_r1 (by decide))
    · exact fb_X13_waitsFor_2 (fq_X13_waitsFor k) hz (h9_r1 (by decide))
    · exact fb_X13_waitsFor_3 (fq_X13_waitsFor k) hz (h9_r1 (by decide))
    · exact fb_X13_waitsFor_4 (fq_X13_waitsFor k) hz (h9_r1 (by decide))
    · exact fo_none
theorem ff_X13_waitsFor {K : Nat} {r1 : Nat} {x2 : Int32} {x3 : Int32} {z : ow_MS} (hr1 : 1000 ≤ r1) : Fo id (pf [2, 3, 4, 5, 6, 7, 8, 9, 37] []) z (qe_X13_waitsFor K r1 x2 x3 z) := fq_X13_waitsFor K 0 _ _ _ _ _ _ z fr_rf (fun _ => (by first | omega | decide))
end
