section
/-! 99zzzzzzzzzzzzzzzzyzu.xcij -/
/-! chain: the class exactly -/
/-- the tables stay -/
def tkC (y y1 : ow_MS) : Prop := y1.1 43019 = y.1 43019 ∧ y1.1 43020 = y.1 43020 ∧ y1.2.1 43018 = y.2.1 43018
theorem tkC_fr {P : Nat → Prop} {y y1 : ow_MS} (hf : fr P y y1) (h1 : ¬ P 43018) (h2 : ¬ P 43019) (h3 : ¬ P 43020) : tkC y y1 := ⟨(hf _ h2).1, (hf _ h3).1, (hf _ h1).2.1⟩
theorem tkC_tr {z z1 z2 : ow_MS} (h : tkC z z1) (h1 : tkC z1 z2) : tkC z z2 := ⟨h1.1.trans h.1, h1.2.1.trans h.2.1, h1.2.2.trans h.2.2⟩
section XCL1
variable {vl : Nat → Nat} {y : ow_MS} {W C : Nat} {St : plT} {x x' : Int32}
theorem okL_bd {A : rn_L} {c : Nat} (hA : okL A c) : bdA A := ⟨hA.1.1, fun p hp => by
  have h1 := (hA.1.2 p).mp hp
  have h2 := hA.2.2.2.1
  omega, by
  have := hA.2.2.2.2
  omega⟩
theorem jnN_pm {A : rn_L} {sg : Nat → Bool} {c : Nat} {S : ow_NP} {G : Nat → Int32} (h : jnN A sg c S G) : pm1 (c, cirs A, S, G) := fun k hk => by
  have := h.2.2.2 k hk
  show G k = 1 ∨ G k = -1
  rw [this]
  split
  · exact Or.inr rfl
  · exact Or.inl rfl
theorem rel_prC (vl : Nat → Nat) (hN : gN y) (hg : gaS y) (hC : relC y St) (hS : okS St) {d : Nat} {A : rn_L} {sg : Nat → Bool} (hd : d < 40) (h : St d = some (A, sg)) : prC A sg := by
  obtain ⟨hne, hpl, c, hA⟩ := hS d A sg hd h
  have hs := (hC d hd).2 A sg h
  obtain ⟨w, hw⟩ := hg d A sg c hd hs hA
  obtain ⟨y2, -, g1, g2, S, G, g3, g4⟩ := tc_ld3 (vl := vl) nH4 hN hd hs hA
  exact ⟨(c, cirs A, S, G), w, g4.2.1, g4.2.2.1, jnN_pm g4, hw, okL_bd hA⟩
theorem xc_chain (hv : vI vl W C) (hM : gM y) (hg : gaS y) (htb : tbP y) (hch : chP y) (hC : relC y St) (hS : okS St) : Te (fun K => ce_X11_chain K 0 x x' vl y) (fun r => (r.1 = 1 ∧ tkC y r.2.2.2 ∧ ∀ d, d < 40 → x = nI d → St d = none) ∨ ∃ d A sg, d < 40 ∧ x = nI d ∧ St d = some (A, sg) ∧ (r.1 = 2 ∧ tkC y r.2.2.2 ∧ (¬ ∃ p, x' = nI p ∧ prT p ∧ p ≤ 997) ∨ ∃ p, x' = nI p ∧ prT p ∧ p ≤ 997 ∧ ∃ c P mm, okF A.flatten c ∧ mk A mm P ∧ (r.1 = 4 ∧ tkC y r.2.2.2 ∧ 9 < c + P ∨ r.1 = 0 ∧ c + P ≤ 9 ∧ clN p sg A c r.2.2.2 r.2.1))) := by
  unfold ce_X11_chain
  refine w_te0 ?_
  refine w_tc0 (xc_need hM.1.1 hC hS) ?_ ?_
  · rintro y1 ⟨h1, e0⟩
    have e0 : y1 = y := e0
    rw [e0]
    rcases h1 with h1 | ⟨-, d, A, sg, c, hd, rfl, hSt, hs, hA, hne, hpl⟩
    · exact absurd (show (0 : Nat) = 1 from h1.1) (by decide)
    · refine w_if (fun h8 => w_some (Or.inr ⟨d, A, sg, hd, rfl, hSt, Or.inl ⟨rfl, ⟨rfl, rfl, rfl⟩, ?_⟩⟩)) (fun hx2 => w_if (fun h8 => w_some (Or.inr ⟨d, A, sg, hd, rfl, hSt, Or.inl ⟨rfl, ⟨rfl, rfl, rfl⟩, ?_⟩⟩)) (fun hx9 => ?_))
      · rintro ⟨p, rfl, hp, h9⟩
        have := (nI_ltI (b := 2) (by omega) (by omega)).mp h8
        have := hp.1
        omega
      · rintro ⟨p, rfl, hp, h9⟩
        have := (nI_ltI (a := 997) (by omega) (by omega)).mp h8
        omega
      obtain ⟨p, hp31, rfl⟩ := nI_of (x := x') (fun h8 => hx2 (by
        rw [Int32.lt_iff_toInt_lt] at h8 ⊢
        exact Int.lt_trans h8 (by decide)))
      have hp2 : 2 ≤ p := by
        rcases Nat.lt_or_ge p 2 with h8 | h8
        · exact absurd (nI_lt (b := 2) h8 (by omega)) hx2
        · exact h8
      have hp9 : p ≤ 997 := by
        rcases Nat.lt_or_ge 997 p with h8 | h8
        · exact absurd (nI_lt (a := 997) h8 hp31) hx9
        · exact h8
      refine w_cs1 (tc_isPrime hp2 hp9) ?_
      rintro v z ⟨e, hpr⟩
      have e : z = y := e
      rw [e]
      have hpr : v = 1 ∧ prT p ∨ v = 0 ∧ ¬ prT p := hpr
      refine w_if (fun h8 => w_some (Or.inr ⟨d, A, sg, hd, rfl, hSt, Or.inl ⟨rfl, ⟨rfl, rfl, rfl⟩, ?_⟩⟩)) (fun h8 => ?_)
      · rcases hpr with ⟨k, -⟩ | ⟨-, k⟩
        · rw [k] at h8
          exact absurd h8 (by decide)
        · rintro ⟨p', e', hp', h9'⟩
          rw [← nI_inj9 (a := p) (b := p') (by omega) (by omega) e'] at hp'
          exact k hp'
      have hp : prT p := by
        rcases hpr with ⟨-, k⟩ | ⟨k, -⟩
        · exact k
        · exact absurd k h8
      refine w_cs0 (tc_ld3 nH4 hM.1 hd hs hA) ?_
      rintro y2 ⟨g1, g2, S, G, g3, g4⟩
      obtain ⟨mm, P9, hmk⟩ := mk_ex A
      have hpm := jnN_pm g4
      obtain ⟨j1, j2, j3, j4⟩ := g4
      have hP9 := parts_cnt j2 j3 hmk
      have hc12 : c ≤ 12 := hA.2.2.2.1
      have hnv : nv (c, cirs A, S, G) := g3.2.2.1
      refine w_cs0 (tc_markParts nH4 g3.1 (fun k hk => (j3 k hk).1) hc12) ?_
      rintro y3 ⟨-, q2, q3⟩
      have pe := (np_parts_of (N := S.1) (c := c) (fun k hk => (j3 k hk).1) hc12 (y2.2.1 (4000 + 6))).2
      have hP9 : (np_parts c S.1).2 + cirs A = P9 := hP9
      have pl := mp_out_le S.1 (2 * c) (np_fill (y2.2.1 (4000 + 6)) 0 (2 * c) (-1)) (2 * c)
      dsimp only at q2
      generalize (mp_out S.1 (2 * c) (np_fill (y2.2.1 (4000 + 6)) 0 (2 * c) (-1)) (2 * c)).2 = P at q2 pe pl
      have a3 : cAt y3 4000 (c, cirs A, S, G) := cAt_fr q3 (fun g hg h9 => by unfold cP at hg; unfold cQ at h9; omega) g3.1
      have hci : cirs A ≤ 6 := by
        have h9 : np_rg c S + cirs A ≤ 6 := hnv.2.2.2
        omega
      have f3 : fr chG y y3 := fr_tr (fr_mono (fun g hg => Or.inl (by unfold cL at hg; omega)) g2) (fr_mono (fun g hg => Or.inl (by unfold cQ at hg; omega)) q3)
      have n44 : ∃ T, cAt y3 44000 T ∧ ow_b24 T.2.2.1 := by
        obtain ⟨T, t1, t2⟩ := g1.2.1 44000 nH44
        exact ⟨T, cAt_fr q3 (fun g hg h9 => by unfold cP at hg; unfold cQ at h9; omega) t1, t2⟩
      refine w_rdF a3.1 (w_rdF q2 (w_rdF a3.2.1 ?_))
      dsimp only
      rw [nI_add, nI_add]
      refine w_le (a := c + P + cirs A) (b := 9) (by omega) (by omega) (fun h9 => ?_) (fun h9 => w_some (Or.inr ⟨d, A, sg, hd, rfl, hSt, Or.inr ⟨p, rfl, hp, hp9, c, P9, mm, hA.1, hmk, Or.inl ⟨rfl, tkC_tr (tkC_fr g2 (by unfold cL; omega) (by unfold cL; omega) (by unfold cL; omega)) (tkC_fr q3 (by unfold cQ; omega) (by unfold cQ; omega) (by unfold cQ; omega)), by omega⟩⟩⟩))
      have hV : isoV A sg (fun x => x) (c, cirs A, S, G) := isoV_of j2 j3
      obtain ⟨w, hw⟩ := hg d A sg c hd hs hA
      have hT : tyI (c, cirs A, S, G) := by
        refine ⟨hnv, fun k hk => ?_, A, sg, fun x => x, w, max 1 (P + cirs A), hV, hw, hA.2.2.2.2, pLe_of hV ?_, by omega, ?_⟩
        · show G k ≠ 0
          rw [j4 k hk]
          split <;> decide
        · show (np_parts c S.1).2 + cirs A ≤ _
          omega
        · show c + max 1 (P + cirs A) ≤ 9
          rcases Nat.eq_zero_or_pos (P + cirs A) with h0 | h0
          · have : c = 0 := by
              rcases Nat.eq_zero_or_pos c with h7 | h7
              · exact h7
              · obtain ⟨-, u2, -⟩ := parts_I j3 hc12
                obtain ⟨r, r1, -⟩ := u2 0 (by omega)
                omega
            omega
          · omega
      have hJ : tdJ p sg A c (c, cirs A, S, G) := tdJ_0 hpm hV hw (okL_bd hA) (prp_of hp) (iv_of hp)
      refine w_dc1 (te_compute hv a3 n44 hT hJ (tbP_fr f3 (by unfold chG cmG cP; omega) htb) (chP_fr f3 (fun g hg => by unfold chG cmG cP at hg; omega) hch) hp hp9) ?_
      rintro v v1 z1 ⟨r1, r2, r3, r4, r5⟩
      have r5 : clT p sg A c z1 v := r5
      exact w_some (Or.inr ⟨d, A, sg, hd, rfl, hSt, Or.inr ⟨p, rfl, hp, hp9, c, P9, mm, hA.1, hmk, Or.inr ⟨rfl, by omega, clN_of hp r5 ⟨_, nm_id j2 j3⟩⟩⟩⟩)
  · rintro a y1 ha ⟨h1, rfl⟩
    rcases h1 with h1 | h1
    · exact w_some (Or.inl ⟨h1.1, ⟨rfl, rfl, rfl⟩, h1.2⟩)
    · exact absurd h1.1 ha
end XCL1
end
section
/-! 99zzzzzzzzzzzzzzzzyzv.xcik -/
/-! chain: both tables tell the same -/
/-- the class's table tells D -/
def tcD (D : Int → Int → Int) (y : ow_MS) : Prop := ∃ (c' n' : Nat) (CT : Nat → Int → Int), n' ≤ c' ∧ c' ≤ 8 ∧ y.1 43019 = iI ((c' : Int) - 2 * n') ∧ y.1 43020 = nI n' ∧ tabT y CT ∧ (∀ o d, (c' < o ∨ d < -16 ∨ 24 < d) → CT o d = 0) ∧ ∀ i q : Int, D i q = if 0 ≤ i + n' then CT (i + n').toNat (q - c' + 3 * n') else 0
/-- the reference's table tells D -/
def trD (D : Int → Int → Int) (z : ow_MS) : Prop := ∃ ng : Nat, ng ≤ 8 ∧ z.1 88 = nI ng ∧ (∀ r q : Nat, r < 10 → q < 80 → z.2.1 87 (80 * r + q) = iI (D ((r : Int) - ng) ((q : Int) - 40))) ∧ ∀ i q : Int, (i + ng < 0 ∨ 9 < i + ng ∨ q < -40 ∨ 40 ≤ q) → D i q = 0
section XCL2
theorem sN_z {f : Nat → Int} {n : Nat} (h : ∀ i, i < n → f i = 0) : sN9 f n = 0 := (sN_cg (g := fun _ => 0) h).trans sN_0
/-- a window that holds all that is not 0 -/
theorem sN_win {g : Int → Int} {lo a : Int} {n m : Nat} (h : ∀ d, (d < lo ∨ lo + m ≤ d) → g d = 0) (ha : a ≤ lo) (hb : lo + m ≤ a + n) : sN9 (fun q => g ((q : Int) + a)) n = sN9 (fun q => g ((q : Int) + lo)) m := by
  obtain ⟨k, hk⟩ : ∃ k : Nat, lo = a + k := ⟨(lo - a).toNat, by omega⟩
  obtain ⟨t, ht⟩ : ∃ t : Nat, n = k + (m + t) := ⟨n - k - m, by omega⟩
  rw [ht, sN_sp, sN_sp, sN_z (f := fun q => g ((q : Int) + a)) (fun i hi => h _ (by omega)), sN_z (f := fun i => (fun i => (fun q : Nat => g ((q : Int) + a)) (k + i)) (m + i)) (fun i hi => h _ (by omega)), Int.zero_add, Int.add_zero]
  refine sN_cg (fun i hi => ?_)
  show g (((k + i : Nat) : Int) + a) = g ((i : Int) + lo)
  congr 1
  omega
theorem sN_rows {f : Nat → Nat → Int} {w : Nat} (hw : 0 < w) : ∀ n, sN9 (fun i => f (i / w) (i % w)) (w * n) = sN9 (fun o => sN9 (fun e => f o e) w) n := by
  intro n
  induction n with
  | zero => rfl
  | succ n ih =>
    rw [Nat.mul_succ, sN_sp, ih]
    show _ + _ = _ + sN9 (fun e => f n e) w
    congr 1
    refine sN_cg (fun e he => ?_)
    show f ((w * n + e) / w) ((w * n + e) % w) = f n e
    rw [Nat.mul_add_div hw, Nat.div_eq_of_lt he, Nat.mul_add_mod, Nat.mod_eq_of_lt he]
    rfl
theorem sN_sw9 {f : Nat → Nat → Int} {m : Nat} : ∀ n, sN9 (fun q => sN9 (fun r => f r q) m) n = sN9 (fun r => sN9 (fun q => f r q) n) m := by
  intro n
  induction n with
  | zero => exact (sN_z (fun i _ => rfl)).symm
  | succ n ih =>
    show sN9 (fun q => sN9 (fun r => f r q) m) n + sN9 (fun r => f r n) m = sN9 (fun r => sN9 (fun q => f r q) n + f r n) m
    rw [ih, sN_a]
theorem be_ex {p : Int} {S : Nat → gn9 → Prop} {D : gn9 → fc9} {r : Nat} (h : fi9 S) : ∃ b, be9 p S D r b := by
  obtain ⟨E, N, hE⟩ := fi_en h
  exact ⟨(N (r + 1) : Int) - rn9 p E N D (r + 1) - rn9 p E N D r, E, N, hE, by omega⟩
theorem rt_bL {p : Nat} {A : rn_L} {sg : Nat → Bool} {T : ow_NT} {w : vT → Bool} {mi r q : Nat} (hp : prT p) (hN : isoN A sg (fun x => x) T) (hv : vn T.1 T.2.2.1) (hT : pm1 T) (hw : gaA A w) (hb : bdA A) (hc : T.1 ≤ 8) (h9 : ∀ s, s < 2 ^ T.1 → LcN A sg s ≤ 9) (hr : r ≤ T.1) : bL9 p A sg (fun x => x) T.1 1 (dgq T.1 mi q) r (rtR p A sg T.1 mi r q) := by
  have hO := nm_id hN hv
  have hCu := cuA (prp_of hp) (iv_of hp) (isoV_of hN hv) hT hw hb hO
  have hLT := LT_R hN hT hv hc hb h9
  have hB : ∃ b, bL9 p A sg (fun x => x) T.1 1 (dgq T.1 mi q) r b := be_ex (Sg_en hCu)
  obtain ⟨b, hB⟩ := hB
  obtain ⟨-, m2, m3⟩ := be_MT (prp_of hp) (iv_of hp) hCu hLT (by omega) hB
  have hcc : RKR p A sg T.1 (dgq T.1 mi q) T.1 = 0 := by
    unfold RKR RK9
    rw [sz9_0 h9 hc (Or.inl (by omega))]
    exact rk_w0 _ _
  have key : rtR p A sg T.1 mi r q = b := by
    unfold rtR
    have e1 : (if r < T.1 then (RKR p A sg T.1 (dgq T.1 mi q) r : Int) else 0) = (RKR p A sg T.1 (dgq T.1 mi q) r : Int) := by
      by_cases h : r < T.1
      · rw [if_pos h]
      · rw [if_neg h, show r = T.1 by omega, hcc]
        rfl
    rw [e1]
    cases r with
    | zero =>
      have m2 : (sz9 T.1 (LcN A sg) (dgq T.1 mi q) 0 : Int) = b + RKR p A sg T.1 (dgq T.1 mi q) 0 := m2 rfl
      rw [if_pos rfl]
      omega
    | succ h =>
      have m3 : (sz9 T.1 (LcN A sg) (dgq T.1 mi q) (h + 1) : Int) = b + RKR p A sg T.1 (dgq T.1 mi q) (h + 1) + RKR p A sg T.1 (dgq T.1 mi q) h := m3 h rfl
      rw [if_neg (by omega), Nat.add_sub_cancel]
      omega
  rw [key]
  exact hB
theorem tab_eq {p : Nat} {A : rn_L} {sg : Nat → Bool} {c : Nat} {z y : ow_MS} {ans ans' : Int32} (hp : prT p) (hP : prC A sg) (hok : okF A.flatten c) (hr : rfN p A sg c z ans) (hc : clN p sg A c y ans') : ans = ans' ∧ ∃ D, tcD D y ∧ trD D z := by
  obtain ⟨T, w, hN, hv, hT, hw, hb⟩ := hP
  have hcT : T.1 = c := by
    have := hN.2.1
    have := okF_len hok
    omega
  subst hcT
  obtain ⟨r1, r2, r3, r4, r5, r6⟩ := hr
  obtain ⟨c', n', κ, CT, ⟨k1, k2, k3, k4⟩, k5, k6, k7, k8, k9, k10⟩ := hc
  have hO := nm_id hN hv
  have ent : ∀ r q : Nat, r ≤ T.1 → rtR p A sg T.1 (ng9 A sg) r q = if r < κ then 0 else CT (r - κ) ((q : Int) - 40 - c' + 3 * n') := by
    intro r q hr
    rw [k10 _ hO r _ _ (rt_bL hp hN hv hT hw hb r1 r3 hr)]
    by_cases h : r < κ
    · rw [if_pos h, if_pos h]
    · rw [if_neg h, if_neg h]
      congr 1
      unfold dgq
      omega
  constructor
  · rw [r6, k8]
    refine congrArg iI ?_
    have e1 : sN9 (fun i => CT (i / 56) (((i % 56 : Nat) : Int) - 20)) 504 = sN9 (fun o => sN9 (fun e => CT o ((e : Int) - 20)) 56) 9 := sN_rows (f := fun o e => CT o ((e : Int) - 20)) (w := 56) (by omega) 9
    have e2 : ∀ o, sN9 (fun e : Nat => CT o ((e : Int) - 20)) 56 = sN9 (fun e : Nat => CT o ((e : Int) + (-16))) 41 := fun o => by
      have := sN_win (g := fun d => CT o d) (lo := -16) (a := -20) (n := 56) (m := 41) (fun d hd => k9 o d (by omega)) (by omega) (by omega)
      rw [← this]
      exact sN_cg (fun i hi => congrArg (CT o) (by omega))
    have e3 : ∀ o, sN9 (fun q : Nat => CT o ((q : Int) - 40 - c' + 3 * n')) 80 = sN9 (fun e : Nat => CT o ((e : Int) + (-16))) 41 := fun o => by
      have := sN_win (g := fun d => CT o d) (lo := -16) (a := -40 - c' + 3 * n') (n := 80) (m := 41) (fun d hd => k9 o d (by omega)) (by omega) (by omega)
      rw [← this]
      exact sN_cg (fun i hi => congrArg (CT o) (by omega))
    generalize hH : (fun o : Nat => sN9 (fun e : Nat => CT o ((e : Int) + (-16))) 41) = H
    have hHo : ∀ o, sN9 (fun e : Nat => CT o ((e : Int) + (-16))) 41 = H o := fun o => by rw [← hH]
    have hH0 : ∀ o, c' < o → H o = 0 := fun o ho => by
      rw [← hHo]
      exact sN_z (fun i _ => k9 _ _ (Or.inl ho))
    rw [e1, sN_sw9]
    have e4 : sN9 (fun o => sN9 (fun e => CT o ((e : Int) - 20)) 56) 9 = sN9 H 9 := sN_cg (fun o _ => (e2 o).trans (hHo o))
    have e5 : sN9 (fun r => sN9 (fun q => rtR p A sg T.1 (ng9 A sg) r q) 80) (T.1 + 1) = sN9 (fun r => if r < κ then 0 else H (r - κ)) (T.1 + 1) := by
      refine sN_cg (fun r hr => ?_)
      by_cases h : r < κ
      · rw [if_pos h]
        refine sN_z (fun q hq => ?_)
        rw [ent r q (by omega), if_pos h]
      · rw [if_neg h, ← hHo, ← e3]
        refine sN_cg (fun q hq => ?_)
        rw [ent r q (by omega), if_neg h]
    rw [e4, e5]
    have e6 := sN_win (g := fun d => if d < 0 then 0 else H d.toNat) (lo := 0) (a := -κ) (n := T.1 + 1) (m := c' + 1) (fun d hd => by
      by_cases h : d < 0
      · rw [if_pos h]
      · rw [if_neg h]
        exact hH0 _ (by omega)) (by omega) (by omega)
    have e7 := sN_win (g := fun d => if d < 0 then 0 else H d.toNat) (lo := 0) (a := 0) (n := 9) (m := c' + 1) (fun d hd => by
      by_cases h : d < 0
      · rw [if_pos h]
      · rw [if_neg h]
        exact hH0 _ (by omega)) (by omega) (by omega)
    have e8 : sN9 (fun r => if r < κ then 0 else H (r - κ)) (T.1 + 1) = sN9 (fun q : Nat => (fun d : Int => if d < 0 then 0 else H d.toNat) ((q : Int) + -κ)) (T.1 + 1) := by
      refine sN_cg (fun r hr => ?_)
      dsimp only
      by_cases h : r < κ
      · rw [if_pos h, if_pos (by omega)]
      · rw [if_neg h, if_neg (by omega)]
        exact congrArg H (by omega)
    have e9 : sN9 H 9 = sN9 (fun q : Nat => (fun d : Int => if d < 0 then 0 else H d.toNat) ((q : Int) + 0)) 9 := by
      refine sN_cg (fun r hr => ?_)
      dsimp only
      rw [if_neg (by omega)]
      exact congrArg H (by omega)
    rw [e8, e9, e6, e7]
  · refine ⟨fun i q => if 0 ≤ i + n' then CT (i + n').toNat (q - c' + 3 * n') else 0, ⟨c', n', CT, k1, k2, k5, k6, k7, k9, fun i q => rfl⟩, ng9 A sg, by omega, r4, fun r q hr hq => ?_, fun i q h => ?_⟩
    · rw [r5 r q hr hq]
      dsimp only
      by_cases h1 : r ≤ T.1
      · rw [if_pos h1, ent r q h1]
        by_cases h : r < κ
        · rw [if_pos h, if_neg (by omega)]
        · rw [if_neg h, if_pos (by omega)]
          congr 2
          · omega
      · rw [if_neg h1]
        by_cases h : r < κ
        · rw [if_neg (by omega)]
        · rw [if_pos (by omega), k9 _ _ (Or.inl (by omega))]
    · dsimp only
      by_cases h0 : 0 ≤ i + n'
      · rw [if_pos h0]
        exact k9 _ _ (by omega)
      · rw [if_neg h0]
end XCL2
end
section
/-! 99zzzzzzzzzzzzzzzzyzw.xcil -/
/-! chain: both sides -/
section XCL3
variable {X : (Nat → Nat → Int32) → Prop} {z y : ow_MS} {vl : Nat → Nat} {W C : Nat} {x x' : Int32}
theorem tab_ok {A : rn_L} {c c' P P' : Nat} {mm mm' : Nat → Nat} (h : okF A.flatten c) (h' : okF A.flatten c') (m : mk A mm P) (m' : mk A mm' P') : c = c' ∧ P = P' := by
  have a := okF_len h
  have b := okF_len h'
  exact ⟨by omega, mk_uni m m'⟩
theorem c_chain (h : rel3 X z y) (hv : vI vl W C) (htb : tbP y) (hch : chP y) : Te (fun K => qe_X13_chain K x x' z) (fun rr => Te (fun K => ce_X11_chain K 0 x x' vl y) (fun rc => (rel3 X rr.2 rc.2.2.2 ∧ ansI [(1, 1), (2, 2), (3, 4)] rr (rc.1, rc.2.1, rc.2.2.2)) ∧ fr chG y rc.2.2.2 ∧ fr (pf [1, 47, 81, 82, 83, 84, 85, 86, 87, 88, 89, 90, 91, 92, 93] []) z rr.2 ∧ dPhi vl ≤ dPhi rc.2.2.1 ∧ (∃ W' C', vI rc.2.2.1 W' C') ∧ (tkR z rr.2 ∧ tkC y rc.2.2.2 ∨ ∃ D, tcD D rc.2.2.2 ∧ trD D rr.2))) := by
  obtain ⟨⟨St, k⟩, hM, h2⟩ := id h
  have hg : gaS y := rel_ga vl hM.1 k.2.2.2.1 k.2.2.2.2
  refine te_two (te_and (te_fo (tp_chain (d := x) (p0 := x') k.1) (fun K => ff_X13_chain)) (xq_chain k.1 k.2.2.1 (fun e A sg he hs => rel_prC vl hM.1 hg k.2.2.2.1 k.2.2.2.2 he hs))) (te_and (tc_chain (x := x) (x' := x') hv hM hg htb hch) (xc_chain hv hM hg htb hch k.2.2.2.1 k.2.2.2.2)) (fun rr rc ⟨⟨hgI, fR⟩, hr⟩ ⟨⟨hG, hf, hd, hW⟩, hc⟩ => ?_)
  have hC : relC rc.2.2.2 St := relC_fr hf (fun q hq h9 => by unfold cW at hq; unfold chG cmG cP at h9; omega) k.2.2.2.1
  have h2' : rel2 rr.2 rc.2.2.2 := by
    obtain ⟨k1, k2, k3, ⟨Ns, q1, q2, q3⟩, Ms, q4, q5, q6⟩ := h2
    exact ⟨relT_k fR hf (by decide) (by unfold chG cmG cP; omega) k1, relB_k fR hf (by decide) (by unfold chG cmG cP; omega) k2, brC_fr hf (by unfold chG cmG cP; omega) k3, ⟨Ns, rlR_k fR (by decide) q1, rlC_k hf (fun q hq => by unfold cV at hq; unfold chG cmG cP; omega) q2, q3⟩, Ms, rlR_k fR (by decide) q4, rlC_k hf (fun q hq => by unfold cV at hq; unfold chG cmG cP; omega) q5, q6⟩
  have fin : ansI [(1, 1), (2, 2), (3, 4)] rr (rc.1, rc.2.1, rc.2.2.2) → (tkR z rr.2 ∧ tkC y rc.2.2.2 ∨ ∃ D, tcD D rc.2.2.2 ∧ trD D rr.2) → ((rel3 X rr.2 rc.2.2.2 ∧ ansI [(1, 1), (2, 2), (3, 4)] rr (rc.1, rc.2.1, rc.2.2.2)) ∧ fr chG y rc.2.2.2 ∧ fr (pf [1, 47, 81, 82, 83, 84, 85, 86, 87, 88, 89, 90, 91, 92, 93] []) z rr.2 ∧ dPhi vl ≤ dPhi rc.2.2.1 ∧ (∃ W' C', vI rc.2.2.1 W' C') ∧ (tkR z rr.2 ∧ tkC y rc.2.2.2 ∨ ∃ D, tcD D rc.2.2.2 ∧ trD D rr.2)) := fun ha hD => ⟨⟨⟨⟨St, hgI, hG.1, relR_fr fR (by decide) k.2.2.1, hC, k.2.2.2.2⟩, hG, h2'⟩, ha⟩, hf, fR, hd, hW, hD⟩
  rcases hr with ⟨r1, rk, r2⟩ | ⟨e, A, sg, he, rfl, hSt, hr⟩
  · rcases hc with ⟨c1, ck, -⟩ | ⟨d, A, sg, hd, hx, hSt, -⟩
    · exact fin (Or.inr ⟨1, 1, by simp, r1, c1⟩) (Or.inl ⟨rk, ck⟩)
    · rw [r2 d hd hx] at hSt
      cases hSt
  · rcases hc with ⟨-, -, c2⟩ | ⟨d, A', sg', hd, hx, hSt', hc⟩
    · rw [c2 e he rfl] at hSt
      cases hSt
    · have ed := nI_inj9 (a := e) (b := d) (by omega) (by omega) hx
      subst ed
      rw [hSt] at hSt'
      cases hSt'
      rcases hr with ⟨r1, rk, r2⟩ | ⟨p, rfl, hp, hp9, c, P, mm, hok, hmk, hr⟩
      · rcases hc with ⟨c1, ck, -⟩ | ⟨p, e1, e2, e3, -⟩
        · exact fin (Or.inr ⟨2, 2, by simp, r1, c1⟩) (Or.inl ⟨rk, ck⟩)
        · exact absurd ⟨p, e1, e2, e3⟩ r2
      · rcases hc with ⟨-, -, c2⟩ | ⟨p', ep, hp', hp9', c', P', mm', hok', hmk', hc⟩
        · exact absurd ⟨p, rfl, hp, hp9⟩ c2
        · have ep := nI_inj9 (a := p) (b := p') (by omega) (by omega) ep
          subst ep
          obtain ⟨rfl, rfl⟩ := tab_ok hok hok' hmk hmk'
          rcases hr with ⟨r1, rk, r2⟩ | ⟨r1, r2, r3⟩
          · rcases hc with ⟨c1, ck, c2⟩ | ⟨-, c2, -⟩
            · exact fin (Or.inr ⟨3, 4, by simp, r1, c1⟩) (Or.inl ⟨rk, ck⟩)
            · omega
          · rcases hc with ⟨-, -, c2⟩ | ⟨c1, -, c3⟩
            · omega
            · obtain ⟨ea, D, d1, d2⟩ := tab_eq hp (rel_prC vl hM.1 hg k.2.2.2.1 k.2.2.2.2 he hSt) hok r3 c3
              exact fin (Or.inl ⟨r1, c1, ea⟩) (Or.inr ⟨D, d1, d2⟩)
end XCL3
end
section
/-! 99zzzzzzzzzzzzzzzzyzx.xcim -/
/-! rank: both sides tell D -/
section XCL4
variable {X : (Nat → Nat → Int32) → Prop} {z y : ow_MS} {vl : Nat → Nat} {x x' : Int32} {D : Int → Int → Int}
theorem i32_bd (x : Int32) : -(2 ^ 31 : Int) ≤ x.toInt ∧ x.toInt < 2 ^ 31 := ⟨Int32.le_toInt x, Int32.toInt_lt x⟩
theorem l64_add {a b : Int64} {p q : Int} (h1 : a.toInt = p) (h2 : b.toInt = q) (l : -(2 ^ 63 : Int) ≤ p + q) (u : p + q < 2 ^ 63) : (a + b).toInt = p + q := by
  rw [Int64.toInt_add, h1, h2]
  exact Int.bmod_eq_of_le (by omega) (by omega)
theorem l64_sub {a b : Int64} {p q : Int} (h1 : a.toInt = p) (h2 : b.toInt = q) (l : -(2 ^ 63 : Int) ≤ p - q) (u : p - q < 2 ^ 63) : (a - b).toInt = p - q := by
  rw [Int64.toInt_sub, h1, h2]
  exact Int.bmod_eq_of_le (by omega) (by omega)
theorem i64_of (x : Int32) : x.toInt64.toInt = x.toInt := Int32.toInt_toInt64 x
theorem lg_i0 {w b : Int64} : lg_cmp w b < 0 ↔ w.toInt < b.toInt := (lg_cmp_lt _ _).trans Int64.lt_iff_toInt_lt
theorem lg_i1 {w b : Int64} : 0 < lg_cmp w b ↔ b.toInt < w.toInt := (lg_cmp_gt _ _).trans Int64.lt_iff_toInt_lt
theorem l64_n {w : Int64} (h : 0 ≤ w.toInt) (h2 : w.toInt < 2 ^ 31) : w = lN w.toInt.toNat := by
  refine Int64.toInt_inj.mp ?_
  rw [lN_toInt (by omega)]
  omega
theorem re_rank (h : trD D z) : Te (fun K => qe_X13_rank K x x' z) (fun r => r.2.1 1 = 0 ∧ r.1 = iI (D x.toInt x'.toInt)) := by
  obtain ⟨ng, n1, n2, n3, n4⟩ := h
  have c1 : ∀ w : Int64, D x.toInt x'.toInt = 0 → Tt (fun K k => q_X13_rank K k 1 x x' w (usF z 1 0)) (fun r => r.2.1 1 = 0 ∧ r.1 = iI (D x.toInt x'.toInt)) := by
    intro w hD
    refine u_X13_rank_1 ?_; unfold qm_X13_rank_1
    rw [hD]
    exact w_some ⟨po_usF_at, rfl⟩
  have bx := i32_bd x
  have e88 : (usF z 1 0).1 88 = nI ng := (po_usF_ot (by omega)).trans n2
  have hw : (x.toInt64 + (nI ng).toInt64).toInt = x.toInt + ng := l64_add (i64_of x) ((i64_of _).trans (nI_toInt (by omega))) (by omega) (by omega)
  refine e_X13_rank ?_
  refine u_X13_rank_0 ?_; unfold qm_X13_rank_0
  refine w_wrF (w_rdF e88 ?_)
  generalize x.toInt64 + (nI ng).toInt64 = w at hw
  refine w_if (fun a1 => c1 _ ?_) (fun a1 => w_if (fun a2 => c1 _ ?_) (fun a2 => w_if (fun a3 => c1 _ ?_) (fun a3 => w_if (fun a4 => ?_) (fun a4 => c1 _ ?_))))
  · have a1 := lg_i0.mp a1
    rw [hw] at a1
    exact n4 _ _ (Or.inl a1)
  · have a2 := lg_i1.mp a2
    rw [hw] at a2
    exact n4 _ _ (Or.inr (Or.inl a2))
  · have a3 := Int32.lt_iff_toInt_lt.mp a3
    exact n4 _ _ (Or.inr (Or.inr (Or.inl a3)))
  · have a1 : ¬ w.toInt < 0 := fun h => a1 (lg_i0.mpr h)
    have a2 : ¬ 9 < w.toInt := fun h => a2 (lg_i1.mpr h)
    have a3 : ¬ x'.toInt < -40 := fun h => a3 (Int32.lt_iff_toInt_lt.mpr h)
    have a4 : x'.toInt < 40 := Int32.lt_iff_toInt_lt.mp a4
    have e1 : w.toInt32 = nI (x.toInt + ng).toNat := by
      rw [l64_n (w := w) (by omega) (by omega), lN_i, hw]
    have e2 : x' + 40 = nI (x'.toInt + 40).toNat := by
      refine Int32.toInt_inj.mp ?_
      rw [nI_toInt (by omega), Int32.toInt_add, show (40 : Int32).toInt = 40 from by decide]
      refine (Int.bmod_eq_of_le (by omega) (by omega)).trans ?_
      omega
    have e3 : 80 * w.toInt32 + x' + 40 = nI (80 * (x.toInt + ng).toNat + (x'.toInt + 40).toNat) := by
      rw [Int32.add_assoc, e2, e1, show (80 : Int32) * nI (x.toInt + ng).toNat = nI (80 * (x.toInt + ng).toNat) from pk_mul 80 _, nI_add]
    refine w_rdI ml87 e3 (by omega) rfl (w_some ⟨po_usF_at, ?_⟩)
    refine (n3 (x.toInt + ng).toNat (x'.toInt + 40).toNat (by omega) (by omega)).trans ?_
    rw [show (((x.toInt + ng).toNat : Nat) : Int) - ng = x.toInt by omega, show (((x'.toInt + 40).toNat : Nat) : Int) - 40 = x'.toInt by omega]
  · have a4 : ¬ x'.toInt < 40 := fun h => a4 (Int32.lt_iff_toInt_lt.mpr h)
    exact n4 _ _ (Or.inr (Or.inr (Or.inr (by omega))))
theorem te_rankAt (h : tcD D y) : Te (fun K => ce_X1_rankAt vl K 43000 x x' y) (fun r => r.2 = y ∧ r.1 = iI (D x.toInt x'.toInt)) := by
  obtain ⟨c', n', CT, k1, k2, k3, k4, k5, k6, k7⟩ := h
  have c1 : ∀ a b : Int64, D x.toInt x'.toInt = 0 → Tt (fun K t => c_X1_rankAt vl K t 1 x x' a b 43000 y) (fun r => r.2 = y ∧ r.1 = iI (D x.toInt x'.toInt)) := by
    intro a b hD
    refine u_X1_rankAt_1 ?_; unfold cm_X1_rankAt_1
    rw [hD]
    exact w_some ⟨rfl, rfl⟩
  have bx := i32_bd x
  have bx' := i32_bd x'
  have hn : (nI n').toInt64.toInt = n' := (i64_of _).trans (nI_toInt (by omega))
  have hwr : (iI ((c' : Int) - 2 * n')).toInt64.toInt = (c' : Int) - 2 * n' := (i64_of _).trans (iI_toInt (by omega) (by omega))
  have hw : (x.toInt64 + (nI n').toInt64).toInt = x.toInt + n' := l64_add (i64_of x) hn (by omega) (by omega)
  have hu : (x'.toInt64 - (iI ((c' : Int) - 2 * n')).toInt64 + (nI n').toInt64 - (-20)).toInt = x'.toInt - (c' - 2 * n') + n' - (-20) := l64_sub (l64_add (l64_sub (i64_of x') hwr (by omega) (by omega)) hn (by omega) (by omega)) (by decide) (by omega) (by omega)
  refine e_X1_rankAt ?_
  refine u_X1_rankAt_0 ?_; unfold cm_X1_rankAt_0
  refine w_rdF k4 (w_rdF k3 (w_rdF k4 ?_))
  generalize x.toInt64 + (nI n').toInt64 = w at hw
  generalize x'.toInt64 - (iI ((c' : Int) - 2 * n')).toInt64 + (nI n').toInt64 - (-20) = u at hu
  refine w_if (fun a1 => c1 _ _ ?_) (fun a1 => w_if (fun a2 => c1 _ _ ?_) (fun a2 => w_if (fun a3 => c1 _ _ ?_) (fun a3 => w_if (fun a4 => ?_) (fun a4 => c1 _ _ ?_))))
  · have a1 : w.toInt < 0 := lg_i0.mp a1
    rw [k7, if_neg (by omega)]
  · have a2 : 8 < w.toInt := lg_i1.mp a2
    rw [k7]
    by_cases h9 : 0 ≤ x.toInt + n'
    · rw [if_pos h9]
      exact k6 _ _ (Or.inl (by omega))
    · rw [if_neg h9]
  · have a3 : u.toInt < 0 := lg_i0.mp a3
    rw [k7]
    by_cases h9 : 0 ≤ x.toInt + n'
    · rw [if_pos h9]
      exact k6 _ _ (Or.inr (Or.inl (by omega)))
    · rw [if_neg h9]
  · have a1 : ¬ w.toInt < 0 := fun h => a1 (lg_i0.mpr h)
    have a2 : ¬ 8 < w.toInt := fun h => a2 (lg_i1.mpr h)
    have a3 : ¬ u.toInt < 0 := fun h => a3 (lg_i0.mpr h)
    have a4 : u.toInt < 56 := lg_i0.mp a4
    have key : ∀ (a : Fin 9) (b : Fin 56), (lN a.val * 56 + lN b.val).toInt32 = nI (a.val * 56 + b.val) := by decide +kernel
    have e := key ⟨w.toInt.toNat, by omega⟩ ⟨u.toInt.toNat, by omega⟩
    dsimp only at e
    rw [← l64_n (w := w) (by omega) (by omega), ← l64_n (w := u) (by omega) (by omega)] at e
    refine w_crI ch_43018 e (by omega) rfl (w_some ⟨rfl, ?_⟩)
    refine (k5 (w.toInt.toNat * 56 + u.toInt.toNat) (by omega)).trans ?_
    rw [k7, if_pos (by omega), show (w.toInt.toNat * 56 + u.toInt.toNat) / 56 = (x.toInt + n').toNat by omega, show (((w.toInt.toNat * 56 + u.toInt.toNat) % 56 : Nat) : Int) - 20 = x'.toInt - c' + 3 * n' by omega]
  · have a4 : ¬ u.toInt < 56 := fun h => a4 (lg_i0.mpr h)
    rw [k7]
    by_cases h9 : 0 ≤ x.toInt + n'
    · rw [if_pos h9]
      exact k6 _ _ (Or.inr (Or.inr (by omega)))
    · rw [if_neg h9]
theorem te_rank (h : tcD D y) : Te (fun K => ce_X11_rank vl K 0 x x' y) (fun r => r.2 = y ∧ r.1 = iI (D x.toInt x'.toInt)) := by
  refine e_X11_rank ?_; unfold cm_X11_rank_0
  refine w_cs1 (te_rankAt h) ?_
  rintro v z ⟨e, e2⟩
  exact w_some ⟨e, e2⟩
theorem tcD_k {y1 : ow_MS} (hk : tkC y y1) (h : tcD D y) : tcD D y1 := by
  obtain ⟨c', n', CT, k1, k2, k3, k4, k5, k6, k7⟩ := h
  exact ⟨c', n', CT, k1, k2, hk.1.trans k3, hk.2.1.trans k4, fun i hi => by rw [hk.2.2]; exact k5 i hi, k6, k7⟩
theorem trD_k {z1 : ow_MS} (hk : tkR z z1) (h : trD D z) : trD D z1 := by
  obtain ⟨ng, n1, n2, n3, n4⟩ := h
  exact ⟨ng, n1, hk.1.trans n2, fun r q hr hq => by rw [hk.2]; exact n3 r q hr hq, n4⟩
theorem tcD_0 (h1 : y.1 43019 = 0) (h2 : y.1 43020 = 0) (h3 : ∀ i, y.2.1 43018 i = 0) : tcD (fun _ _ => 0) y := ⟨0, 0, fun _ _ => 0, Nat.le_refl _, by omega, h1, h2, fun i _ => h3 i, fun _ _ _ => rfl, fun i q => by split <;> rfl⟩
theorem trD_0 (h1 : z.1 88 = 0) (h3 : ∀ i, z.2.1 87 i = 0) : trD (fun _ _ => 0) z := ⟨0, by omega, h1, fun r q _ _ => h3 _, fun _ _ _ => rfl⟩
end XCL4
end
section
/-! 99zzzzzzzzzzzzzzzzyzy.xcin -/
/-! chain and rank: steps of the law -/
section XCL5
variable {X : (Nat → Nat → Int32) → Prop} {z y : ow_MS} {vl : Nat → Nat} {x x' : Int32} {D : Int → Int → Int}
theorem c_rank (h : rel3 X z y) (hc : tcD D y) (hr : trD D z) : Te (fun K => qe_X13_rank K x x' z) (fun rr => Te (fun K => ce_X11_rank vl K 0 x x' y) (fun rc => rel3 X rr.2 rc.2 ∧ rr.2.1 1 = 0 ∧ rr.1 = rc.1)) := by
  have hI := r3_g h
  refine te_two (te_fo (te_and (tp_rank (i := x) (q := x') hI) (re_rank hr)) (fun K => ff_X13_rank)) (te_fo (te_rank hc) (fun K => ff_X11_rank)) (fun rr rc ⟨⟨hgI, r0, hr⟩, fR⟩ ⟨hc, fC⟩ => ⟨rel3_nf fR fC (pf_nf (by decide)) (fun g hg => by first | exact hg.elim | omega) hgI h, r0, hr.trans hc.2.symm⟩)
variable {Pc Pr : ow_MS → Prop}
theorem s3_rank (hc : keepP ciX Pc) (hr : keepP rfX Pr) (kc : ∀ y, Pc y → tcD D y) (kr : ∀ z, Pr z → trD D z) : stpX Pc Pr lst_rank := by
  intro S x1 x2 x3 x4 x5 h pc pr
  have hs0 := st_bool (vl := S.1) (y := S.2.1) (z := S.2.2) (fc := fun K => ce_X11_rank S.1 K 0 x1 x2 S.2.1) (fm := fun K => qe_X13_rank K x1 x2 S.2.2) h.1 (c_rank h.1.1 (kc _ pc) (kr _ pr)) (fun K => ff_X13_rank) (fun K => ff_X11_rank) (by decide) (fun g hg h9 => by first | exact hg.elim | (unfold ciH at h9; omega))
  have hn : Te (fun K => ce_X11_rank S.1 K 0 x1 x2 S.2.1) (fun rc => NM rc.2) := w_monoE (te_fo (te_in (c_rank h.1.1 (kc _ pc) (kr _ pr))) (fun K => ff_X11_rank)) (fun rc ⟨_, f⟩ => NM_fr f (fun g hg h9 => by first | exact hg.elim | omega) h.2)
  exact w_monoE (lsB_fo (w_monoE (lsB_nm hs0 hn) (fun S1 ⟨⟨q1, q2⟩, q3⟩ => (⟨⟨q1, q3⟩, q2⟩ : REL2 S1 ∧ dPhi S.1 ≤ dPhi S1.1))) (fun K => ff_X11_rank) (fun K => ff_X13_rank)) (fun S1 ⟨q, f1, f2⟩ => ⟨q, hc _ _ _ f1 (fun g hg h9 => by first | exact hg.elim | (unfold ciX at h9; omega)) pc, hr _ _ _ f2 (pf_rf (by decide)) pr⟩)
theorem CI_ch {vl' : Nat → Nat} {y1 : ow_MS} (hf : fr chG y y1) (hv : ∃ W C, vI vl' W C) (h : CI vl y) : CI vl' y1 := by
  obtain ⟨i1, ⟨C, c1, c2, c3⟩, i3, i4, i5, i6, i7, i8⟩ := h
  have no : ∀ g, 4012 ≤ g ∧ g ≤ 43001 ∨ g = 43005 ∨ 45000 ≤ g → ¬ chG g := fun g hg h9 => by unfold chG cmG cP at h9; omega
  exact ⟨knC_fr hf (fun g hg h9 => by unfold chG cmG cP at hg; omega) i1, ⟨C, slC_fr hf (fun q hq => no q (by unfold cW at hq; omega)) c1, c2, c3.imp id (fun ⟨A, sg, c, e, hT⟩ => ⟨A, sg, c, e, jnT_fr hf ⟨no _ (by omega), no _ (by omega), no _ (by omega)⟩ hT⟩)⟩, bnC_fr hf (fun m hm => no _ (by omega)) i3, mpC_fr hf ⟨no _ (by omega), no _ (by omega), no _ (by omega)⟩ i4, stP_fr hf (fun g hg => by unfold chG cmG cP at hg; omega) i5, tbP_fr hf (no _ (by omega)) i6, chP_fr hf (fun g hg => by unfold chG cmG cP at hg; omega) i7, hv⟩
theorem s3_chain {S : ow_LwS} {x1 x2 x3 x4 x5 : Int32} (h : REL2 S) (hRc : ∀ y y1, fr chG y y1 → Pc y → Pc y1) (hJ : ∀ y v, Pc y → Pc (usJ y 52001 0 v)) (hRr : ∀ z z1, fr (pf [1, 47, 81, 82, 83, 84, 85, 86, 87, 88, 89, 90, 91, 92, 93] []) z z1 → Pr z → Pr z1) (pc : Pc S.2.1) (pr : Pr S.2.2) (dc : tcD D S.2.1) (dr : trD D S.2.2) : Te (fun K => lst_chain S.1 K x1 x2 x3 x4 x5 S.2.1 S.2.2) (fun S1 => (REL2 S1 ∧ dPhi S.1 ≤ dPhi S1.1) ∧ Pc S1.2.1 ∧ Pr S1.2.2 ∧ ∃ D', tcD D' S1.2.1 ∧ trD D' S1.2.2) := by
  have hci := h.1.2.1
  obtain ⟨W, C, hv⟩ := hci.2.2.2.2.2.2.2
  obtain ⟨⟨a, zm⟩, ⟨b1, hb1⟩, ⟨k, v, vm, zc⟩, ⟨b2, hb2⟩, ⟨hR, ha⟩, hf, fR, hd, hW, hD0⟩ := c_chain (x := x1) (x' := x2) h.1.1 hv hci.2.2.2.2.2.1 hci.2.2.2.2.2.2.1
  have hb1 : ∀ K, b1 ≤ K → qe_X13_chain K x1 x2 S.2.2 = some (a, zm) := hb1
  have hb2 : ∀ K, b2 ≤ K → ce_X11_chain K 0 x1 x2 S.1 S.2.1 = some (k, v, vm, zc) := hb2
  have hR : rel3 XR zm zc := hR
  have hf : fr chG S.2.1 zc := hf
  have fR : fr (pf [1, 47, 81, 82, 83, 84, 85, 86, 87, 88, 89, 90, 91, 92, 93] []) S.2.2 zm := fR
  have hW : ∃ W' C', vI vm W' C' := hW
  have hd : dPhi S.1 ≤ dPhi vm := hd
  have hD : ∃ D', tcD D' zc ∧ trD D' zm := by
    rcases hD0 with ⟨d1, d2⟩ | h9
    · exact ⟨D, tcD_k d2 dc, trD_k d1 dr⟩
    · exact h9
  have hREL : REL (vm, zc, zm) := ⟨hR, CI_ch hf hW hci, jnR_fr fR (by decide) (by decide) h.1.2.2⟩
  have hNM : NM zc := NM_fr hf (fun g hg h9 => by unfold chG cmG cP at hg; omega) h.2
  have hpc : Pc zc := hRc _ _ hf pc
  have hpr : Pr zm := hRr _ _ fR pr
  rcases ha with ⟨t0, k0, e⟩ | ⟨j, k', hm, t0, k0⟩
  · have k0 : k = 0 := k0
    have e : a = v := e
    have t0 : zm.1 1 = 0 := t0
    subst k0
    subst e
    refine ⟨(vm, usJ zc 52001 0 a.toInt64, zm), ⟨b1 + b2, fun K hK => ?_⟩, ⟨⟨REL_J hREL, hNM⟩, hd⟩, hJ _ _ hpc, hpr, hD⟩
    show lst_chain S.1 K x1 x2 x3 x4 x5 S.2.1 S.2.2 = _
    unfold lst_chain le_L_chain
    rw [hb1 K (by omega), hb2 K (by omega)]
    show (if zm.1 1 = 0 then (if (0 : Int32) = 0 then _ else _) else none) = _
    rw [if_pos t0, if_pos rfl]
    show (if lg_cmp ((usJ zc 52001 0 a.toInt64).2.2 52001 0) a.toInt64 = 0 then some (vm, usJ zc 52001 0 a.toInt64, zm) else none) = _
    rw [if_pos ((lg_cmp_eq _ _).mpr usJ_at)]
  · have k0 : k = k' := k0
    have t0 : zm.1 1 = nI j := t0
    subst k0
    refine ⟨(vm, zc, zm), ⟨b1 + b2, fun K hK => ?_⟩, ⟨⟨hREL, hNM⟩, hd⟩, hpc, hpr, hD⟩
    simp only [List.mem_cons, List.not_mem_nil, or_false, Prod.mk.injEq] at hm
    show lst_chain S.1 K x1 x2 x3 x4 x5 S.2.1 S.2.2 = _
    unfold lst_chain le_L_chain
    rw [hb1 K (by omega), hb2 K (by omega)]
    rcases hm with ⟨rfl, rfl⟩ | ⟨rfl, rfl⟩ | ⟨rfl, rfl⟩
    · show (if zm.1 1 = 1 then (if (1 : Int32) = 0 then _ else some (vm, zc, zm)) else none) = _
      rw [if_pos (t0.trans (by decide)), if_neg (by decide)]
    · show (if zm.1 1 = 2 then (if (2 : Int32) = 0 then _ else some (vm, zc, zm)) else none) = _
      rw [if_pos (t0.trans (by decide)), if_neg (by decide)]
    · show (if zm.1 1 = 3 then (if (3 : Int32) = 0 then _ else some (vm, zc, zm)) else none) = _
      rw [if_pos (t0.trans (by decide)), if_neg (by decide)]
theorem m88_init {m1 m2 : ow_MS} {b : Nat} (hb : ∀ K, b ≤ K → qe_X13_makeSimples_a K Z13 = some m1 ∧ qe_X13_makePermutations_a K m1 = some m2) : (usZ m2 blM).1 88 = 0 := by
  have h2 : ∀ g i, g ≠ 73 → Z13.2.1 g i = 0 := fun g i hg => by
    show (if g = 73 then fT13 else fun _ => 0) i = 0
    rw [if_neg hg]
  obtain ⟨r1, ⟨b1, hb1⟩, ⟨hD, hf1⟩⟩ := tp_simE (z := Z13) (fun n _ => h2 100 _ (by omega))
  have er1 : r1 = m1 := Option.some.inj ((hb1 (b + b1) (by omega)).symm.trans (hb (b + b1) (by omega)).1)
  subst er1
  have m1I : ∀ g i, ¬ (97 ≤ g ∧ g ≤ 107) → g ≠ 73 → r1.2.1 g i = 0 := fun g i hg h9 => by
    rw [(hf1 g hg).2.1]
    exact h2 g i h9
  obtain ⟨r2, ⟨b2, hb2⟩, -, hf2⟩ := tp_perms_a (z := r1) ⟨fun i => ⟨0, by omega, m1I 74 i (by omega) (by omega)⟩, fun m g1 g4 o p ho hp => ⟨⟨0, by omega, m1I 75 _ (by omega) (by omega)⟩, 0, by omega, m1I 76 _ (by omega) (by omega)⟩⟩
  have er2 : r2 = m2 := Option.some.inj ((hb2 (b + b2) (by omega)).symm.trans (hb (b + b2) (by omega)).2)
  subst er2
  show (if blM.contains (88 / 1000) = true then (0 : Int32) else r2.1 88) = 0
  rw [if_neg (by decide), (hf2 88 (by unfold pmP; omega)).1, (hf1 88 (show ¬ (97 ≤ 88 ∧ 88 ≤ 107) by omega)).1]
  rfl
end XCL5
end
section
/-! 99zzzzzzzzzzzzzzzzyzz.xcio -/
/-! the loop, with a joint relation of the tables of chain: PureAll from three cases -/
abbrev tbT := Int → Int → Int
def rlJ9 (Pc Pr : tbT → ow_MS → Prop) (S : ow_LwS) : Prop := ∃ E, rel9 (Pc E) (Pr E) S
section XCL6
variable {Pc Pr : tbT → ow_MS → Prop}
theorem stJ9 {f : Nat → Option ow_LwS} {A : ow_LwS → Prop} {E : tbT} (h : Te f (fun S1 => rel9 (Pc E) (Pr E) S1 ∧ A S1)) : Te f (fun S1 => rlJ9 Pc Pr S1 ∧ A S1) := w_monoE h (fun S1 q => ⟨⟨E, q.1⟩, q.2⟩)
theorem tcD_fr {P : Nat → Prop} {E : tbT} {y y1 : ow_MS} (hf : fr P y y1) (h1 : ¬ P 43018) (h2 : ¬ P 43019) (h3 : ¬ P 43020) (h : tcD E y) : tcD E y1 := tcD_k (tkC_fr hf h1 h2 h3) h
theorem trD_fr {P : Nat → Prop} {E : tbT} {z z1 : ow_MS} (hf : fr P z z1) (h1 : ¬ P 87) (h2 : ¬ P 88) (h : trD E z) : trD E z1 := trD_k (tkR_fr hf h1 h2) h
variable {Qc Qr : ow_MS → Prop}
theorem kc_D (hc : keepP ciX Qc) (E : tbT) : keepP ciX (fun y => tcD E y ∧ Qc y) := fun F y y1 hf hF h => ⟨tcD_fr hf (fun h9 => hF _ h9 (by unfold ciX; omega)) (fun h9 => hF _ h9 (by unfold ciX; omega)) (fun h9 => hF _ h9 (by unfold ciX; omega)) h.1, hc F y y1 hf hF h.2⟩
theorem kr_D (hr : keepP rfX Qr) (E : tbT) : keepP rfX (fun z => trD E z ∧ Qr z) := fun F z z1 hf hF h => ⟨trD_fr hf (fun h9 => hF _ h9 (by unfold rfX; omega)) (fun h9 => hF _ h9 (by unfold rfX; omega)) h.1, hr F z z1 hf hF h.2⟩
end XCL6
end
section
/-! 99zzzzzzzzzzzzzzzzyzza.xsg1 -/
/-! signature: Newton by squares; changes of sign -/
section XSG1
end XSG1
end
section
/-! 99zzzzzzzzzzzzzzzzyzzb.xsg2 -/
/-! signature: changes of sign -/
abbrev opp9 (a b : Int) : Prop := (0 < a ∧ b < 0) ∨ (a < 0 ∧ 0 < b)
/-- how often the sign changes up to n, and the last number that is not 0 -/
def wv9 (e : Nat → Int) : Nat → Nat × Int
  | 0 => (0, e 0)
  | n + 1 => if e (n + 1) = 0 then wv9 e n else ((wv9 e n).1 + (if opp9 (wv9 e n).2 (e (n + 1)) then 1 else 0), e (n + 1))
/-- a chain of numbers of other sign each, from place 0 to j -/
def ac9 (e : Nat → Int) : Nat → Nat → Prop
  | 0, j => j = 0 ∧ e 0 ≠ 0
  | v + 1, j => ∃ i, i < j ∧ ac9 e v i ∧ opp9 (e i) (e j)
section XSG2
variable {e f : Nat → Int}
theorem wv_z {n : Nat} (h : e (n + 1) = 0) : wv9 e (n + 1) = wv9 e n := if_pos h
theorem wv_s {n : Nat} (h : e (n + 1) ≠ 0) : wv9 e (n + 1) = ((wv9 e n).1 + (if opp9 (wv9 e n).2 (e (n + 1)) then 1 else 0), e (n + 1)) := if_neg h
theorem wv_up {i : Nat} (h0 : (wv9 e i).2 ≠ 0) : ∀ m, i ≤ m → (wv9 e m).2 ≠ 0 ∧ (wv9 e i).1 ≤ (wv9 e m).1 ∧ (opp9 (wv9 e i).2 (wv9 e m).2 → (wv9 e i).1 + 1 ≤ (wv9 e m).1) := by
  intro m
  induction m with
  | zero =>
    intro h
    have h : i = 0 := by omega
    subst h
    exact ⟨h0, Nat.le_refl _, fun h9 => by unfold opp9 at h9; omega⟩
  | succ m ih =>
    intro h
    by_cases hi : i = m + 1
    · subst hi
      exact ⟨h0, Nat.le_refl _, fun h9 => by unfold opp9 at h9; omega⟩
    · obtain ⟨a, b, c⟩ := ih (by omega)
      by_cases hz : e (m + 1) = 0
      · rw [wv_z hz]
        exact ⟨a, b, c⟩
      · rw [wv_s hz]
        refine ⟨hz, ?_, fun h9 => ?_⟩
        · show _ ≤ (wv9 e m).1 + _
          omega
        · show _ ≤ (wv9 e m).1 + _
          have h9 : opp9 (wv9 e i).2 (e (m + 1)) := h9
          by_cases ho : opp9 (wv9 e m).2 (e (m + 1))
          · rw [if_pos ho]
            omega
          · have := c (by unfold opp9 at *; omega)
            omega
theorem ac_wv : ∀ {v j : Nat}, ac9 e v j → v ≤ (wv9 e j).1 ∧ (wv9 e j).2 = e j ∧ e j ≠ 0 := by
  intro v
  induction v with
  | zero =>
    rintro j ⟨rfl, h⟩
    exact ⟨Nat.zero_le _, rfl, h⟩
  | succ v ih =>
    rintro j ⟨i, hi, ha, ho⟩
    obtain ⟨a, b, c⟩ := ih ha
    have hj : e j ≠ 0 := fun h9 => by unfold opp9 at ho; omega
    have hl : (wv9 e j).2 = e j := by
      cases j with
      | zero => rfl
      | succ j => rw [wv_s hj]
    obtain ⟨-, -, u⟩ := wv_up (i := i) (by rw [b]; exact c) j (by omega)
    have := u (by rw [b, hl]; exact ho)
    exact ⟨by omega, hl, hj⟩
theorem ac_le {v j n : Nat} (h : ac9 e v j) (hj : j ≤ n) : v ≤ (wv9 e n).1 := by
  obtain ⟨a, b, c⟩ := ac_wv h
  have := (wv_up (i := j) (by rw [b]; exact c) n hj).2.1
  omega
theorem mul_pp {a b : Int} (h : 0 < a * b) : (0 < a ∧ 0 < b) ∨ (a < 0 ∧ b < 0) := by
  rcases Int.lt_trichotomy a 0 with ha | ha | ha
  · rcases Int.lt_trichotomy b 0 with hb | hb | hb
    · exact Or.inr ⟨ha, hb⟩
    · rw [hb, Int.mul_zero] at h
      omega
    · have := Int.mul_neg_of_neg_of_pos ha hb
      omega
  · rw [ha, Int.zero_mul] at h
    omega
  · rcases Int.lt_trichotomy b 0 with hb | hb | hb
    · have := Int.mul_neg_of_pos_of_neg ha hb
      omega
    · rw [hb, Int.mul_zero] at h
      omega
    · exact Or.inl ⟨ha, hb⟩
/-- LEMMA Z -/
theorem zet9 (h0 : 0 < e 0) (g0 : 0 < f 0) (h : ∀ k, f (k + 1) ≠ 0 → 0 < e (k + 1) * f (k + 1) - e (k + 2) * f k) : ∀ n, (wv9 f n).1 ≤ (wv9 e (n + 1)).1 := by
  have key : ∀ n, ∃ q j, q ≤ n ∧ (wv9 f n).2 = f q ∧ f q ≠ 0 ∧ (∀ i, q < i → i ≤ n → f i = 0) ∧ j ≤ q + 1 ∧ ac9 e (wv9 f n).1 j ∧ ((0 < e j ∧ 0 < f q) ∨ (e j < 0 ∧ f q < 0)) := by
    intro n
    induction n with
    | zero => exact ⟨0, 0, Nat.le_refl _, rfl, by omega, fun i h1 h2 => absurd h1 (by omega), by omega, ⟨rfl, by omega⟩, Or.inl ⟨h0, g0⟩⟩
    | succ n ih =>
      obtain ⟨q, j, q1, q2, q3, q4, j1, j2, j3⟩ := ih
      by_cases hz : f (n + 1) = 0
      · rw [wv_z hz]
        refine ⟨q, j, by omega, q2, q3, fun i h1 h2 => ?_, j1, j2, j3⟩
        by_cases hi : i = n + 1
        · rw [hi]
          exact hz
        · exact q4 i h1 (by omega)
      · rw [wv_s hz]
        by_cases ho : opp9 (wv9 f n).2 (f (n + 1))
        · rw [q2] at ho
          have hp := h n hz
          have hj : ∃ j', n + 1 ≤ j' ∧ j' ≤ n + 2 ∧ ((0 < e j' ∧ 0 < f (n + 1)) ∨ (e j' < 0 ∧ f (n + 1) < 0)) := by
            by_cases hn : f n = 0
            · rw [hn, Int.mul_zero, Int.sub_zero] at hp
              exact ⟨n + 1, by omega, by omega, mul_pp hp⟩
            · have hq : q = n := by
                rcases Nat.lt_or_ge q n with h9 | h9
                · exact absurd (q4 n h9 (Nat.le_refl _)) hn
                · omega
              subst hq
              by_cases hs : 0 < e (q + 1) * f (q + 1)
              · exact ⟨q + 1, by omega, by omega, mul_pp hs⟩
              · have hm : 0 < e (q + 2) * -f q := by
                  rw [Int.mul_neg]
                  omega
                have := mul_pp hm
                exact ⟨q + 2, by omega, by omega, by unfold opp9 at ho; omega⟩
          obtain ⟨j', a1, a2, a3⟩ := hj
          have hne : j ≠ j' := fun h9 => by
            subst h9
            unfold opp9 at ho
            omega
          refine ⟨n + 1, j', Nat.le_refl _, rfl, hz, fun i h1 h2 => absurd h1 (by omega), by omega, ?_, a3⟩
          show ac9 e ((wv9 f n).1 + (if opp9 (wv9 f n).2 (f (n + 1)) then 1 else 0)) j'
          rw [if_pos (by rw [q2]; exact ho)]
          exact ⟨j, by omega, j2, by unfold opp9 at *; omega⟩
        · refine ⟨n + 1, j, Nat.le_refl _, rfl, hz, fun i h1 h2 => absurd h1 (by omega), by omega, ?_, ?_⟩
          · show ac9 e ((wv9 f n).1 + (if opp9 (wv9 f n).2 (f (n + 1)) then 1 else 0)) j
            rw [if_neg ho]
            exact j2
          · rw [q2] at ho
            unfold opp9 at ho
            omega
  intro n
  obtain ⟨q, j, q1, q2, q3, q4, j1, j2, j3⟩ := key n
  exact ac_le j2 (by omega)
end XSG2
end
section
/-! 99zzzzzzzzzzzzzzzzyzzc.xsg3 -/
/-! signature: both counts of changes together; parity -/
def tw9 (e : Nat → Int) (k : Nat) : Int := if k % 2 = 0 then e k else -e k
section XSG3
variable {e f : Nat → Int}
theorem tw_z {k : Nat} : tw9 e k = 0 ↔ e k = 0 := by
  unfold tw9
  split <;> omega
theorem tw_e {k : Nat} (h : k % 2 = 0) : tw9 e k = e k := if_pos h
theorem tw_o {k : Nat} (h : k % 2 = 1) : tw9 e k = -e k := if_neg (by omega)
/-- both counts: at most the last place that is not 0 -/
theorem vv_le (h0 : e 0 ≠ 0) : ∀ n, ∃ q, q ≤ n ∧ (wv9 e n).2 = e q ∧ (wv9 (tw9 e) n).2 = tw9 e q ∧ e q ≠ 0 ∧ (∀ i, q < i → i ≤ n → e i = 0) ∧ (wv9 e n).1 + (wv9 (tw9 e) n).1 ≤ q := by
  intro n
  induction n with
  | zero => exact ⟨0, Nat.le_refl _, rfl, rfl, h0, fun i h1 h2 => absurd h1 (by omega), Nat.le_refl 0⟩
  | succ n ih =>
    obtain ⟨q, q1, q2, q3, q4, q5, q6⟩ := ih
    by_cases hz : e (n + 1) = 0
    · rw [wv_z hz, wv_z (tw_z.mpr hz)]
      refine ⟨q, by omega, q2, q3, q4, fun i h1 h2 => ?_, q6⟩
      by_cases hi : i = n + 1
      · rw [hi]
        exact hz
      · exact q5 i h1 (by omega)
    · rw [wv_s hz, wv_s (fun h9 => hz (tw_z.mp h9))]
      refine ⟨n + 1, Nat.le_refl _, rfl, rfl, hz, fun i h1 h2 => absurd h1 (by omega), ?_⟩
      show (wv9 e n).1 + (if opp9 (wv9 e n).2 (e (n + 1)) then 1 else 0) + ((wv9 (tw9 e) n).1 + (if opp9 (wv9 (tw9 e) n).2 (tw9 e (n + 1)) then 1 else 0)) ≤ n + 1
      rw [q2, q3]
      by_cases hd : q + 1 = n + 1
      · have hx : ¬ (opp9 (e q) (e (n + 1)) ∧ opp9 (tw9 e q) (tw9 e (n + 1))) := by
          rintro ⟨a, b⟩
          rcases Nat.mod_two_eq_zero_or_one q with h9 | h9
          · rw [tw_e h9, tw_o (show (n + 1) % 2 = 1 by omega)] at b
            unfold opp9 at a b
            omega
          · rw [tw_o h9, tw_e (show (n + 1) % 2 = 0 by omega)] at b
            unfold opp9 at a b
            omega
        by_cases ha : opp9 (e q) (e (n + 1))
        · rw [if_pos ha, if_neg (fun hb => hx ⟨ha, hb⟩)]
          omega
        · rw [if_neg ha]
          split <;> omega
      · split <;> split <;> omega
theorem wv_par (h0 : 0 < e 0) : ∀ n, (wv9 e n).2 ≠ 0 ∧ ((wv9 e n).1 % 2 = 1 ↔ (wv9 e n).2 < 0) := by
  intro n
  induction n with
  | zero =>
    show e 0 ≠ 0 ∧ (0 % 2 = 1 ↔ e 0 < 0)
    omega
  | succ n ih =>
    by_cases hz : e (n + 1) = 0
    · rw [wv_z hz]
      exact ih
    · rw [wv_s hz]
      refine ⟨hz, ?_⟩
      show ((wv9 e n).1 + (if opp9 (wv9 e n).2 (e (n + 1)) then 1 else 0)) % 2 = 1 ↔ e (n + 1) < 0
      by_cases ho : opp9 (wv9 e n).2 (e (n + 1))
      · rw [if_pos ho]
        unfold opp9 at ho
        omega
      · rw [if_neg ho]
        unfold opp9 at ho
        omega
/-- the step of the induction, in numbers: f has the counts a, b with a + b = its last place; e goes one further -/
theorem zet_tw (h0 : 0 < e 0) (g0 : 0 < f 0) (h : ∀ k, f (k + 1) ≠ 0 → 0 < e (k + 1) * f (k + 1) - e (k + 2) * f k) (n : Nat) : (wv9 f n).1 ≤ (wv9 e (n + 1)).1 ∧ (wv9 (tw9 f) n).1 ≤ (wv9 (tw9 e) (n + 1)).1 := by
  refine ⟨zet9 h0 g0 h n, zet9 (e := tw9 e) (f := tw9 f) (by rw [tw_e rfl]; exact h0) (by rw [tw_e rfl]; exact g0) (fun k hk => ?_) n⟩
  have := h k (fun h9 => hk (tw_z.mpr h9))
  rcases Nat.mod_two_eq_zero_or_one k with h9 | h9
  · rw [tw_o (show (k + 1) % 2 = 1 by omega), tw_o (show (k + 1) % 2 = 1 by omega), tw_e (show (k + 2) % 2 = 0 by omega), tw_e h9, Int.neg_mul_neg]
    exact this
  · rw [tw_e (show (k + 1) % 2 = 0 by omega), tw_e (show (k + 1) % 2 = 0 by omega), tw_o (show (k + 2) % 2 = 1 by omega), tw_o h9, Int.neg_mul_neg]
    exact this
end XSG3
end
section
/-! 99zzzzzzzzzzzzzzzzyzzd.xsg4 -/
/-! signature: a diagonal matrix with a border -/
section XSG4
end XSG4
end
section
/-! 99zzzzzzzzzzzzzzzzyzze.xsg5 -/
/-! signature: coefficients by bordering -/
abbrev mQ99 := Nat → Nat → Rat
def qS9 (f : Nat → Rat) : Nat → Rat
  | 0 => 0
  | n + 1 => qS9 f n + f n
/-- a matrix times a column -/
def qV9 (n : Nat) (A : mQ99) (w : Nat → Rat) (i : Nat) : Rat := qS9 (fun k => A i k * w k) n
/-- a row times a column -/
def qD9 (n : Nat) (v w : Nat → Rat) : Rat := qS9 (fun k => v k * w k) n
/-- N_j times a column, for coefficients E -/
def qN9 (n : Nat) (A : mQ99) (E : Nat → Rat) (w : Nat → Rat) : Nat → Nat → Rat
  | 0 => w
  | j + 1 => fun i => E (j + 1) * w i - qV9 n A (qN9 n A E w j) i
/-- the coefficients of the first n rows and columns -/
def qE9 (A : mQ99) : Nat → Nat → Rat
  | 0, k => if k = 0 then 1 else 0
  | n + 1, 0 => 1
  | n + 1, 1 => qE9 A n 1 + A n n
  | n + 1, k + 2 => qE9 A n (k + 2) + A n n * qE9 A n (k + 1) - qD9 n (A n) (qN9 n A (qE9 A n) (fun i => A i n) k)
def dl9 (n i : Nat) : Rat := if i = n then 1 else 0
section XSG5
theorem qS_cg {f g : Nat → Rat} : ∀ {n : Nat}, (∀ i, i < n → f i = g i) → qS9 f n = qS9 g n := by
  intro n
  induction n with
  | zero => exact fun _ => rfl
  | succ n ih =>
    intro h
    show qS9 f n + f n = qS9 g n + g n
    rw [ih (fun i hi => h i (by omega)), h n (by omega)]
theorem qS_neg {f : Nat → Rat} : ∀ {n : Nat}, qS9 (fun i => -f i) n = -qS9 f n := by
  intro n
  induction n with
  | zero => exact Rat.neg_zero.symm
  | succ n ih =>
    show qS9 (fun i => -f i) n + -f n = -(qS9 f n + f n)
    rw [ih]
    grind
theorem qS_0 : ∀ {n : Nat}, qS9 (fun _ => 0) n = 0 := by
  intro n
  induction n with
  | zero => rfl
  | succ n ih =>
    show qS9 (fun _ => 0) n + 0 = 0
    rw [ih]
    exact Rat.add_zero 0
theorem qE_0 {A : mQ99} : ∀ {n : Nat}, qE9 A n 0 = 1 := by
  intro n
  cases n with
  | zero => rfl
  | succ n => rfl
/-- the column of N_j at the border -/
theorem qN_col {n : Nat} {A : mQ99} : ∀ j, qN9 (n + 1) A (qE9 A (n + 1)) (dl9 n) j n = qE9 A n j ∧ ∀ i, i < n → qN9 (n + 1) A (qE9 A (n + 1)) (dl9 n) j i = if j = 0 then 0 else -qN9 n A (qE9 A n) (fun i => A i n) (j - 1) i := by
  have d0 : dl9 n n = 1 := if_pos rfl
  have d1 : ∀ i, i < n → dl9 n i = 0 := fun i hi => if_neg (by omega)
  intro j
  induction j with
  | zero =>
    refine ⟨?_, fun i hi => ?_⟩
    · show dl9 n n = qE9 A n 0
      rw [d0, qE_0]
    · rw [if_pos rfl]
      exact d1 i hi
  | succ j ih =>
    obtain ⟨a, b⟩ := ih
    cases j with
    | zero =>
      have e : ∀ i, qV9 (n + 1) A (qN9 (n + 1) A (qE9 A (n + 1)) (dl9 n) 0) i = A i n := fun i => by
        show qS9 (fun k => A i k * dl9 n k) n + A i n * dl9 n n = A i n
        rw [d0, qS_cg (g := fun _ => 0) (fun k hk => by rw [d1 k hk]; exact Rat.mul_zero _), qS_0]
        grind
      refine ⟨?_, fun i hi => ?_⟩
      · show (qE9 A n 1 + A n n) * dl9 n n - qV9 (n + 1) A (qN9 (n + 1) A (qE9 A (n + 1)) (dl9 n) 0) n = qE9 A n 1
        rw [e, d0]
        grind
      · rw [if_neg (by omega)]
        show (qE9 A n 1 + A n n) * dl9 n i - qV9 (n + 1) A (qN9 (n + 1) A (qE9 A (n + 1)) (dl9 n) 0) i = -(A i n)
        rw [e, d1 i hi]
        grind
    | succ j =>
      have e : ∀ i, qV9 (n + 1) A (qN9 (n + 1) A (qE9 A (n + 1)) (dl9 n) (j + 1)) i = -qS9 (fun k => A i k * qN9 n A (qE9 A n) (fun i => A i n) j k) n + A i n * qE9 A n (j + 1) := fun i => by
        show qS9 (fun k => A i k * qN9 (n + 1) A (qE9 A (n + 1)) (dl9 n) (j + 1) k) n + A i n * qN9 (n + 1) A (qE9 A (n + 1)) (dl9 n) (j + 1) n = _
        rw [a, ← qS_neg]
        refine congrArg (fun s => s + A i n * qE9 A n (j + 1)) (qS_cg (fun k hk => ?_))
        rw [b k hk, if_neg (by omega)]
        show A i k * -qN9 n A (qE9 A n) (fun i => A i n) j k = _
        grind
      refine ⟨?_, fun i hi => ?_⟩
      · show (qE9 A n (j + 2) + A n n * qE9 A n (j + 1) - qD9 n (A n) (qN9 n A (qE9 A n) (fun i => A i n) j)) * dl9 n n - qV9 (n + 1) A (qN9 (n + 1) A (qE9 A (n + 1)) (dl9 n) (j + 1)) n = qE9 A n (j + 2)
        rw [e, d0]
        unfold qD9
        grind
      · rw [if_neg (by omega)]
        show qE9 A (n + 1) (j + 2) * dl9 n i - qV9 (n + 1) A (qN9 (n + 1) A (qE9 A (n + 1)) (dl9 n) (j + 1)) i = -(qE9 A n (j + 1) * A i n - qS9 (fun k => A i k * qN9 n A (qE9 A n) (fun i => A i n) j k) n)
        rw [e, d1 i hi]
        grind
end XSG5
end
section
/-! 99zzzzzzzzzzzzzzzzyzzf.xsg6 -/
/-! signature: what lemma Z wants, by bordering -/
/-- e_j N_j - e_(j+1) N_(j-1) times a column -/
def qW9 (n : Nat) (A : mQ99) (E : Nat → Rat) (w : Nat → Rat) (j i : Nat) : Rat := E j * qN9 n A E w j i - E (j + 1) * (if j = 0 then 0 else qN9 n A E w (j - 1) i)
section XSG6
variable {n : Nat} {A : mQ99}
theorem qS_add {f g : Nat → Rat} : ∀ {n : Nat}, qS9 (fun i => f i + g i) n = qS9 f n + qS9 g n := by
  intro n
  induction n with
  | zero => exact (Rat.add_zero 0).symm
  | succ n ih =>
    show qS9 (fun i => f i + g i) n + (f n + g n) = qS9 f n + f n + (qS9 g n + g n)
    rw [ih]
    grind
theorem qS_mul {c : Rat} {f : Nat → Rat} : ∀ {n : Nat}, qS9 (fun i => c * f i) n = c * qS9 f n := by
  intro n
  induction n with
  | zero => exact (Rat.mul_zero c).symm
  | succ n ih =>
    show qS9 (fun i => c * f i) n + c * f n = c * (qS9 f n + f n)
    rw [ih]
    grind
theorem qD_lin {v x y : Nat → Rat} {a b : Rat} : qD9 n v (fun i => a * x i - b * y i) = a * qD9 n v x - b * qD9 n v y := by
  unfold qD9
  rw [qS_cg (g := fun k => a * (v k * x k) + -b * (v k * y k)) (fun k _ => by grind), qS_add, qS_mul, qS_mul]
  grind
/-- e_k(A^) e_k(A) - e_(k+1)(A^) e_(k-1)(A) = U_k(A) + v W_(k-1)(A) w -/
theorem qQ_s (k : Nat) : qE9 A (n + 1) (k + 1) * qE9 A n (k + 1) - qE9 A (n + 1) (k + 2) * qE9 A n k = (qE9 A n (k + 1) * qE9 A n (k + 1) - qE9 A n (k + 2) * qE9 A n k) + qD9 n (A n) (qW9 n A (qE9 A n) (fun i => A i n) k) := by
  cases k with
  | zero =>
    have e : qD9 n (A n) (qW9 n A (qE9 A n) (fun i => A i n) 0) = qD9 n (A n) (fun i => A i n) := by
      unfold qD9
      refine qS_cg (fun i hi => ?_)
      show A n i * (qE9 A n 0 * A i n - qE9 A n 1 * 0) = A n i * A i n
      rw [qE_0]
      grind
    rw [e, qE_0]
    show (qE9 A n 1 + A n n) * qE9 A n 1 - (qE9 A n 2 + A n n * qE9 A n 1 - qD9 n (A n) (fun i => A i n)) * 1 = _
    grind
  | succ k =>
    have e : qD9 n (A n) (qW9 n A (qE9 A n) (fun i => A i n) (k + 1)) = qE9 A n (k + 1) * qD9 n (A n) (qN9 n A (qE9 A n) (fun i => A i n) (k + 1)) - qE9 A n (k + 2) * qD9 n (A n) (qN9 n A (qE9 A n) (fun i => A i n) k) := qD_lin
    rw [e]
    show (qE9 A n (k + 2) + A n n * qE9 A n (k + 1) - qD9 n (A n) (qN9 n A (qE9 A n) (fun i => A i n) k)) * qE9 A n (k + 2) - (qE9 A n (k + 3) + A n n * qE9 A n (k + 2) - qD9 n (A n) (qN9 n A (qE9 A n) (fun i => A i n) (k + 1))) * qE9 A n (k + 1) = _
    grind
/-- the corner of W at the border -/
theorem qW_cor (k : Nat) : qW9 (n + 1) A (qE9 A (n + 1)) (dl9 n) (k + 1) n = qE9 A (n + 1) (k + 1) * qE9 A n (k + 1) - qE9 A (n + 1) (k + 2) * qE9 A n k := by
  unfold qW9
  rw [if_neg (by omega), (qN_col (k + 1)).1]
  show _ - qE9 A (n + 1) (k + 2) * qN9 (n + 1) A (qE9 A (n + 1)) (dl9 n) k n = _
  rw [(qN_col k).1]
end XSG6
end
section
/-! 99zzzzzzzzzzzzzzzzyzzg.xsg7 -/
/-! signature: N_j as a sum of powers -/
def qA9 (n : Nat) (A : mQ99) (w : Nat → Rat) : Nat → Nat → Rat
  | 0 => w
  | i + 1 => qV9 n A (qA9 n A w i)
def sn9 (i : Nat) : Rat := if i % 2 = 0 then 1 else -1
section XSG7
variable {n : Nat} {A : mQ99} {w : Nat → Rat}
theorem sn_s {i : Nat} : sn9 (i + 1) = -sn9 i := by
  unfold sn9
  rcases Nat.mod_two_eq_zero_or_one i with h | h
  · rw [if_pos h, if_neg (by omega)]
  · rw [if_pos (show (i + 1) % 2 = 0 by omega), if_neg (show ¬ i % 2 = 0 by omega)]
    grind
theorem qS_hd {f : Nat → Rat} : ∀ {m : Nat}, qS9 f (m + 1) = f 0 + qS9 (fun i => f (i + 1)) m := by
  intro m
  induction m with
  | zero =>
    show (0 : Rat) + f 0 = f 0 + 0
    grind
  | succ m ih =>
    show qS9 f (m + 1) + f (m + 1) = f 0 + (qS9 (fun i => f (i + 1)) m + f (m + 1))
    rw [ih]
    grind
theorem qS_sw {f : Nat → Nat → Rat} {m : Nat} : ∀ {k : Nat}, qS9 (fun i => qS9 (fun j => f i j) m) k = qS9 (fun j => qS9 (fun i => f i j) k) m := by
  intro k
  induction k with
  | zero => exact (qS_0).symm
  | succ k ih =>
    show qS9 (fun i => qS9 (fun j => f i j) m) k + qS9 (fun j => f k j) m = qS9 (fun j => qS9 (fun i => f i j) k + f k j) m
    rw [ih, qS_add]
theorem qV_sum {c : Nat → Rat} {x : Nat → Nat → Rat} {m i : Nat} : qV9 n A (fun k => qS9 (fun l => c l * x l k) m) i = qS9 (fun l => c l * qV9 n A (x l) i) m := by
  unfold qV9
  have e1 : ∀ k, k < n → A i k * qS9 (fun l => c l * x l k) m = qS9 (fun l => c l * (A i k * x l k)) m := fun k _ => by
    rw [← qS_mul]
    exact qS_cg (fun l _ => by grind)
  rw [qS_cg e1, qS_sw]
  exact qS_cg (fun l _ => qS_mul)
theorem qN_poly {E : Nat → Rat} (h0 : E 0 = 1) : ∀ j, qN9 n A E w j = fun i => qS9 (fun l => (sn9 l * E (j - l)) * qA9 n A w l i) (j + 1) := by
  intro j
  induction j with
  | zero =>
    funext i
    show w i = 0 + (sn9 0 * E 0) * w i
    rw [h0, show sn9 0 = 1 from rfl]
    grind
  | succ j ih =>
    funext i
    show E (j + 1) * w i - qV9 n A (qN9 n A E w j) i = _
    rw [ih, qV_sum, qS_hd (m := j + 1) (f := fun l => (sn9 l * E (j + 1 - l)) * qA9 n A w l i)]
    have e : qS9 (fun l => (sn9 (l + 1) * E (j + 1 - (l + 1))) * qA9 n A w (l + 1) i) (j + 1) = -qS9 (fun l => (sn9 l * E (j - l)) * qV9 n A (qA9 n A w l) i) (j + 1) := by
      rw [← qS_neg]
      refine qS_cg (fun l _ => ?_)
      rw [sn_s, show j + 1 - (l + 1) = j - l by omega]
      show -sn9 l * E (j - l) * qV9 n A (qA9 n A w l) i = _
      grind
    rw [e, show sn9 0 = 1 from rfl]
    show E (j + 1) * w i - _ = 1 * E (j + 1) * w i + _
    grind
end XSG7
end
section
/-! 99zzzzzzzzzzzzzzzzyzzh.xsg8 -/
/-! signature: traces -/
/-- the trace of the i-th power -/
def qT9 (n : Nat) (A : mQ99) (i : Nat) : Rat := qS9 (fun c => qA9 n A (dl9 c) i c) n
section XSG8
variable {n : Nat} {A : mQ99} {E : Nat → Rat}
theorem tr_N (h0 : E 0 = 1) (j : Nat) : qS9 (fun c => qN9 n A E (dl9 c) j c) n = qS9 (fun l => (sn9 l * E (j - l)) * qT9 n A l) (j + 1) := by
  have e1 : ∀ c, c < n → qN9 n A E (dl9 c) j c = qS9 (fun l => (sn9 l * E (j - l)) * qA9 n A (dl9 c) l c) (j + 1) := fun c _ => by rw [qN_poly h0]
  rw [qS_cg e1, qS_sw]
  exact qS_cg (fun l _ => qS_mul)
theorem tr_0 : ∀ {n : Nat}, qT9 n A 0 = (n : Rat) := by
  intro n
  have key : ∀ m, qS9 (fun c => qA9 n A (dl9 c) 0 c) m = (m : Rat) := by
    intro m
    induction m with
    | zero => rfl
    | succ m ih =>
      show qS9 (fun c => qA9 n A (dl9 c) 0 c) m + dl9 m m = ((m + 1 : Nat) : Rat)
      rw [ih, show dl9 m m = 1 from if_pos rfl]
      simp
  exact key n
end XSG8
end
section
/-! 99zzzzzzzzzzzzzzzzyzzi.xsg9 -/
/-! signature: sums over triangles -/
section XSG9
variable {n : Nat} {A : mQ99} {E w : Nat → Rat}
theorem qA_add {i : Nat} : ∀ l, qA9 n A (qA9 n A w i) l = qA9 n A w (i + l) := by
  intro l
  induction l with
  | zero => rfl
  | succ l ih =>
    show qV9 n A (qA9 n A (qA9 n A w i) l) = qV9 n A (qA9 n A w (i + l))
    rw [ih]
theorem sn_add {i : Nat} : ∀ l, sn9 i * sn9 l = sn9 (i + l) := by
  intro l
  induction l with
  | zero =>
    rw [show sn9 0 = 1 from rfl]
    exact Rat.mul_one _
  | succ l ih =>
    rw [sn_s, show i + (l + 1) = i + l + 1 from rfl, sn_s, ← ih]
    grind
theorem qS_c {c : Rat} : ∀ m, qS9 (fun _ => c) m = (m : Rat) * c := by
  intro m
  induction m with
  | zero =>
    show (0 : Rat) = ((0 : Nat) : Rat) * c
    simp
  | succ m ih =>
    show qS9 (fun _ => c) m + c = ((m + 1 : Nat) : Rat) * c
    rw [ih, show ((m + 1 : Nat) : Rat) = (m : Rat) + 1 by simp]
    grind
theorem qS_tri {g : Nat → Rat} : ∀ m, qS9 (fun i => qS9 (fun l => g (i + l)) (m - i + 1)) (m + 1) = qS9 (fun s => ((s : Rat) + 1) * g s) (m + 1) := by
  intro m
  induction m with
  | zero =>
    show (0 : Rat) + (0 + g (0 + 0)) = 0 + (((0 : Nat) : Rat) + 1) * g 0
    simp
    grind
  | succ m ih =>
    have e1 : qS9 (fun i => qS9 (fun l => g (i + l)) (m + 1 - i + 1)) (m + 1) = qS9 (fun i => qS9 (fun l => g (i + l)) (m - i + 1)) (m + 1) + qS9 (fun _ => g (m + 1)) (m + 1) := by
      rw [← qS_add]
      refine qS_cg (fun i hi => ?_)
      rw [show m + 1 - i + 1 = m - i + 1 + 1 by omega]
      show qS9 (fun l => g (i + l)) (m - i + 1) + g (i + (m - i + 1)) = _
      rw [show i + (m - i + 1) = m + 1 by omega]
    have e2 : qS9 (fun l => g (m + 1 + l)) (m + 1 - (m + 1) + 1) = g (m + 1) := by
      rw [show m + 1 - (m + 1) + 1 = 1 by omega]
      show (0 : Rat) + g (m + 1 + 0) = g (m + 1)
      exact Rat.zero_add _
    show qS9 (fun i => qS9 (fun l => g (i + l)) (m + 1 - i + 1)) (m + 1) + qS9 (fun l => g (m + 1 + l)) (m + 1 - (m + 1) + 1) = qS9 (fun s => ((s : Rat) + 1) * g s) (m + 1) + (((m + 1 : Nat) : Rat) + 1) * g (m + 1)
    rw [e1, e2, ih, qS_c]
    grind
/-- sum (-1)^i N_(m-i) A^i = sum (-1)^s (s + 1) e_(m-s) A^s -/
theorem qN_A (h0 : E 0 = 1) (m x : Nat) : qS9 (fun i => sn9 i * qN9 n A E (qA9 n A w i) (m - i) x) (m + 1) = qS9 (fun s => ((s : Rat) + 1) * (sn9 s * E (m - s) * qA9 n A w s x)) (m + 1) := by
  rw [← qS_tri (g := fun s => sn9 s * E (m - s) * qA9 n A w s x) m]
  refine qS_cg (fun i hi => ?_)
  rw [qN_poly h0]
  show sn9 i * qS9 (fun l => sn9 l * E (m - i - l) * qA9 n A (qA9 n A w i) l x) (m - i + 1) = _
  rw [← qS_mul]
  refine qS_cg (fun l hl => ?_)
  rw [qA_add, ← sn_add, show m - (i + l) = m - i - l by omega]
  grind
end XSG9
end
section
/-! 99zzzzzzzzzzzzzzzzyzzj.xsga -/
/-! signature: the trace of N_j -/
def tA9 (A : mQ99) : mQ99 := fun i j => A j i
section XSGA
variable {n : Nat} {A : mQ99}
theorem qD_cm {v w : Nat → Rat} : qD9 n v w = qD9 n w v := qS_cg (fun k _ => Rat.mul_comm _ _)
theorem qD_cg {v w v2 w2 : Nat → Rat} (h1 : ∀ i, i < n → v i = v2 i) (h2 : ∀ i, i < n → w i = w2 i) : qD9 n v w = qD9 n v2 w2 := qS_cg (fun k hk => by rw [h1 k hk, h2 k hk])
theorem qV_adj {x y : Nat → Rat} : qD9 n x (qV9 n (tA9 A) y) = qD9 n (qV9 n A x) y := by
  unfold qD9 qV9
  have e1 : ∀ i, i < n → x i * qS9 (fun k => tA9 A i k * y k) n = qS9 (fun k => A k i * x i * y k) n := fun i _ => by
    rw [← qS_mul]
    refine qS_cg (fun k _ => ?_)
    show x i * (A k i * y k) = A k i * x i * y k
    grind
  have e2 : ∀ k, k < n → qS9 (fun i => A k i * x i) n * y k = qS9 (fun i => A k i * x i * y k) n := fun k _ => by
    rw [Rat.mul_comm, ← qS_mul]
    refine qS_cg (fun i _ => ?_)
    show y k * (A k i * x i) = A k i * x i * y k
    grind
  rw [qS_cg e1, qS_cg e2, qS_sw]
theorem qA_hd {x : Nat → Rat} (l : Nat) : qA9 n A (qV9 n A x) l = qA9 n A x (l + 1) := by
  have := qA_add (n := n) (A := A) (w := x) (i := 1) l
  rw [Nat.add_comm] at this
  exact this
theorem qA_adj {y : Nat → Rat} : ∀ (l : Nat) (x : Nat → Rat), qD9 n x (qA9 n (tA9 A) y l) = qD9 n (qA9 n A x l) y := by
  intro l
  induction l with
  | zero => exact fun x => rfl
  | succ l ih =>
    intro x
    show qD9 n x (qV9 n (tA9 A) (qA9 n (tA9 A) y l)) = _
    rw [qV_adj, ih, qA_hd]
theorem qD_sum {x : Nat → Rat} {c : Nat → Rat} {X : Nat → Nat → Rat} {m : Nat} : qD9 n x (fun i => qS9 (fun l => c l * X l i) m) = qS9 (fun l => c l * qD9 n x (X l)) m := by
  unfold qD9
  have e1 : ∀ k, k < n → x k * qS9 (fun l => c l * X l k) m = qS9 (fun l => c l * (x k * X l k)) m := fun k _ => by
    rw [← qS_mul]
    exact qS_cg (fun l _ => by grind)
  rw [qS_cg e1, qS_sw]
  exact qS_cg (fun l _ => qS_mul)
theorem qN_adj {E x y : Nat → Rat} (h0 : E 0 = 1) (j : Nat) : qD9 n x (qN9 n (tA9 A) E y j) = qD9 n (qN9 n A E x j) y := by
  rw [qN_poly h0, qD_sum, qD_cm (v := qN9 n A E x j), qN_poly h0, qD_sum]
  refine qS_cg (fun l _ => ?_)
  rw [qA_adj, qD_cm]
theorem qE_tr : ∀ (n k : Nat), qE9 (tA9 A) n k = qE9 A n k := by
  intro n
  induction n with
  | zero => exact fun k => rfl
  | succ n ih =>
    intro k
    have ee : qE9 (tA9 A) n = qE9 A n := funext ih
    cases k with
    | zero => rfl
    | succ k =>
      cases k with
      | zero =>
        show qE9 (tA9 A) n 1 + A n n = qE9 A n 1 + A n n
        rw [ee]
      | succ k =>
        show qE9 (tA9 A) n (k + 2) + A n n * qE9 (tA9 A) n (k + 1) - qD9 n (fun i => A i n) (qN9 n (tA9 A) (qE9 (tA9 A) n) (A n) k) = qE9 A n (k + 2) + A n n * qE9 A n (k + 1) - qD9 n (A n) (qN9 n A (qE9 A n) (fun i => A i n) k)
        rw [ee, qN_adj qE_0, qD_cm (v := A n)]
theorem qD_dl {x : Nat → Rat} {c : Nat} : ∀ {n : Nat}, c < n → qD9 n (dl9 c) x = x c := by
  intro n
  induction n with
  | zero => exact fun h => absurd h (by omega)
  | succ n ih =>
    intro h
    show qD9 n (dl9 c) x + dl9 c n * x n = x c
    by_cases h9 : c = n
    · subst h9
      have e : qD9 c (dl9 c) x = 0 := by
        unfold qD9
        rw [qS_cg (g := fun _ => 0) (fun k hk => by rw [show dl9 c k = 0 from if_neg (by omega)]; exact Rat.zero_mul _), qS_0]
      rw [e, show dl9 c c = 1 from if_pos rfl]
      grind
    · rw [ih (by omega), show dl9 c n = 0 from if_neg (by omega)]
      grind
/-- the row of N_j at the border -/
theorem qN_row {c : Nat} (hc : c < n) (j : Nat) : qN9 (n + 1) A (qE9 A (n + 1)) (dl9 c) j n = if j = 0 then 0 else -qN9 n (tA9 A) (qE9 A n) (A n) (j - 1) c := by
  have e1 := qD_dl (x := qN9 (n + 1) A (qE9 A (n + 1)) (dl9 c) j) (c := n) (n := n + 1) (by omega)
  have e2 := qN_adj (n := n + 1) (A := tA9 A) (E := qE9 A (n + 1)) (x := dl9 n) (y := dl9 c) qE_0 j
  have e3 : tA9 (tA9 A) = A := rfl
  rw [e3, e1, qD_cm, qD_dl (by omega)] at e2
  rw [e2]
  have e4 := (qN_col (n := n) (A := tA9 A) j).2 c hc
  rw [show qE9 (tA9 A) (n + 1) = qE9 A (n + 1) from funext (qE_tr _), show qE9 (tA9 A) n = qE9 A n from funext (qE_tr _)] at e4
  exact e4
theorem qS_tsw {f : Nat → Nat → Rat} : ∀ m, qS9 (fun l => qS9 (fun s => f l s) (m - l + 1)) (m + 1) = qS9 (fun s => qS9 (fun l => f l s) (m - s + 1)) (m + 1) := by
  intro m
  induction m with
  | zero =>
    show (0 : Rat) + (0 + f 0 0) = 0 + (0 + f 0 0)
    rfl
  | succ m ih =>
    have e1 : ∀ g : Nat → Nat → Rat, qS9 (fun l => qS9 (fun s => g l s) (m + 1 - l + 1)) (m + 1) = qS9 (fun l => qS9 (fun s => g l s) (m - l + 1)) (m + 1) + qS9 (fun l => g l (m + 1 - l)) (m + 1) := fun g => by
      rw [← qS_add]
      refine qS_cg (fun i hi => ?_)
      rw [show m + 1 - i + 1 = m - i + 1 + 1 by omega]
      show qS9 (fun s => g i s) (m - i + 1) + g i (m - i + 1) = _
      rw [show m - i + 1 = m + 1 - i by omega]
    have e2 : ∀ g : Nat → Nat → Rat, qS9 (fun s => g (m + 1) s) (m + 1 - (m + 1) + 1) = g (m + 1) 0 := fun g => by
      rw [show m + 1 - (m + 1) + 1 = 1 by omega]
      show (0 : Rat) + g (m + 1) 0 = _
      exact Rat.zero_add _
    have e3 : qS9 (fun l => f l (m + 1 - l)) (m + 1) + f (m + 1) 0 = qS9 (fun s => f (m + 1 - s) s) (m + 1) + f 0 (m + 1) := by
      have e4 : ∀ (k : Nat) (h : Nat → Rat), qS9 (fun i => h (k - i)) (k + 1) = qS9 h (k + 1) := by
        intro k
        induction k with
        | zero => exact fun h => rfl
        | succ k ih2 =>
          intro h
          rw [qS_hd]
          have e5 : qS9 (fun i => h (k + 1 - (i + 1))) (k + 1) = qS9 h (k + 1) := by
            rw [← ih2 h]
            exact qS_cg (fun i _ => by rw [show k + 1 - (i + 1) = k - i by omega])
          rw [e5]
          show h (k + 1) + qS9 h (k + 1) = qS9 h (k + 1) + h (k + 1)
          exact Rat.add_comm _ _
      have e6 := e4 (m + 1) (fun l => f l (m + 1 - l))
      have e7 : qS9 (fun i => (fun l => f l (m + 1 - l)) (m + 1 - i)) (m + 1 + 1) = qS9 (fun s => f (m + 1 - s) s) (m + 1 + 1) := by
        refine qS_cg (fun i hi => ?_)
        show f (m + 1 - i) (m + 1 - (m + 1 - i)) = _
        rw [show m + 1 - (m + 1 - i) = i by omega]
      rw [e7] at e6
      have e8 : qS9 (fun s => f (m + 1 - s) s) (m + 1) + f (m + 1 - (m + 1)) (m + 1) = qS9 (fun l => f l (m + 1 - l)) (m + 1) + f (m + 1) (m + 1 - (m + 1)) := e6
      rw [Nat.sub_self] at e8
      exact e8.symm
    show qS9 (fun l => qS9 (fun s => f l s) (m + 1 - l + 1)) (m + 1) + qS9 (fun s => f (m + 1) s) (m + 1 - (m + 1) + 1) = qS9 (fun s => qS9 (fun l => f l s) (m + 1 - s + 1)) (m + 1) + qS9 (fun l => f l (m + 1)) (m + 1 - (m + 1) + 1)
    rw [e1 f, e1 (fun s l => f l s), e2 f, e2 (fun s l => f l s), ih]
    grind
theorem qV_cg {x y : Nat → Rat} (h : ∀ i, i < n → x i = y i) (i : Nat) : qV9 n A x i = qV9 n A y i := qS_cg (fun k hk => by rw [h k hk])
/-- the block of N_j -/
theorem qN_blk {c : Nat} (hc : c < n) (E2 : Nat → Rat) (h0 : E2 0 = 1) : ∀ j i, i < n → qN9 (n + 1) A E2 (dl9 c) j i = qS9 (fun l => sn9 l * E2 (j - l) * qA9 n A (dl9 c) l i) (j + 1) - qS9 (fun l => sn9 l * qN9 (n + 1) A E2 (dl9 c) (j - 1 - l) n * qA9 n A (fun i => A i n) l i) j := by
  intro j
  induction j with
  | zero =>
    intro i hi
    show dl9 c i = (0 : Rat) + sn9 0 * E2 0 * dl9 c i - 0
    rw [h0, show sn9 0 = 1 from rfl]
    grind
  | succ j ih =>
    intro i hi
    show E2 (j + 1) * dl9 c i - (qS9 (fun k => A i k * qN9 (n + 1) A E2 (dl9 c) j k) n + A i n * qN9 (n + 1) A E2 (dl9 c) j n) = _
    have e1 : qS9 (fun k => A i k * qN9 (n + 1) A E2 (dl9 c) j k) n = qS9 (fun l => sn9 l * E2 (j - l) * qA9 n A (dl9 c) (l + 1) i) (j + 1) - qS9 (fun l => sn9 l * qN9 (n + 1) A E2 (dl9 c) (j - 1 - l) n * qA9 n A (fun i => A i n) (l + 1) i) j := by
      have e2 := qV_sum (n := n) (A := A) (c := fun l => sn9 l * E2 (j - l)) (x := qA9 n A (dl9 c)) (m := j + 1) (i := i)
      have e3 := qV_sum (n := n) (A := A) (c := fun l => sn9 l * qN9 (n + 1) A E2 (dl9 c) (j - 1 - l) n) (x := qA9 n A (fun i => A i n)) (m := j) (i := i)
      have e4 : qS9 (fun k => A i k * qN9 (n + 1) A E2 (dl9 c) j k) n = qS9 (fun k => A i k * qS9 (fun l => sn9 l * E2 (j - l) * qA9 n A (dl9 c) l k) (j + 1) + -(A i k * qS9 (fun l => sn9 l * qN9 (n + 1) A E2 (dl9 c) (j - 1 - l) n * qA9 n A (fun i => A i n) l k) j)) n := qS_cg (fun k hk => by
        rw [ih k hk]
        grind)
      rw [e4, qS_add, qS_neg]
      have e5 : qS9 (fun k => A i k * qS9 (fun l => sn9 l * E2 (j - l) * qA9 n A (dl9 c) l k) (j + 1)) n = qS9 (fun l => sn9 l * E2 (j - l) * qA9 n A (dl9 c) (l + 1) i) (j + 1) := e2
      have e6 : qS9 (fun k => A i k * qS9 (fun l => sn9 l * qN9 (n + 1) A E2 (dl9 c) (j - 1 - l) n * qA9 n A (fun i => A i n) l k) j) n = qS9 (fun l => sn9 l * qN9 (n + 1) A E2 (dl9 c) (j - 1 - l) n * qA9 n A (fun i => A i n) (l + 1) i) j := e3
      rw [e5, e6]
      grind
    have e7 : qS9 (fun l => sn9 l * E2 (j + 1 - l) * qA9 n A (dl9 c) l i) (j + 1 + 1) = E2 (j + 1) * dl9 c i - qS9 (fun l => sn9 l * E2 (j - l) * qA9 n A (dl9 c) (l + 1) i) (j + 1) := by
      rw [qS_hd]
      have e8 : qS9 (fun l => sn9 (l + 1) * E2 (j + 1 - (l + 1)) * qA9 n A (dl9 c) (l + 1) i) (j + 1) = -qS9 (fun l => sn9 l * E2 (j - l) * qA9 n A (dl9 c) (l + 1) i) (j + 1) := by
        rw [← qS_neg]
        refine qS_cg (fun l _ => ?_)
        rw [sn_s, show j + 1 - (l + 1) = j - l by omega]
        grind
      rw [e8]
      show sn9 0 * E2 (j + 1) * dl9 c i + _ = _
      rw [show sn9 0 = 1 from rfl]
      grind
    have e9 : qS9 (fun l => sn9 l * qN9 (n + 1) A E2 (dl9 c) (j + 1 - 1 - l) n * qA9 n A (fun i => A i n) l i) (j + 1) = qN9 (n + 1) A E2 (dl9 c) j n * A i n - qS9 (fun l => sn9 l * qN9 (n + 1) A E2 (dl9 c) (j - 1 - l) n * qA9 n A (fun i => A i n) (l + 1) i) j := by
      rw [qS_hd]
      have e8 : qS9 (fun l => sn9 (l + 1) * qN9 (n + 1) A E2 (dl9 c) (j + 1 - 1 - (l + 1)) n * qA9 n A (fun i => A i n) (l + 1) i) j = -qS9 (fun l => sn9 l * qN9 (n + 1) A E2 (dl9 c) (j - 1 - l) n * qA9 n A (fun i => A i n) (l + 1) i) j := by
        rw [← qS_neg]
        refine qS_cg (fun l _ => ?_)
        rw [sn_s, show j + 1 - 1 - (l + 1) = j - 1 - l by omega]
        grind
      rw [e8, show j + 1 - 1 - 0 = j by omega]
      show sn9 0 * _ * A i n + _ = _
      rw [show sn9 0 = 1 from rfl]
      grind
    rw [e1, e7, e9]
    grind
end XSGA
end
