section
/-! 99zzzzzzzzzzzzzzzzyzu.xcij -/
/-! chain: the class exactly -/
/-- the tables stay -/
def tkC (y y1 : ow_MS) : Prop := y1.1 43019 = y.1 43019 ∧ y1.1 43020 = y.1 43020 ∧ y1.2.1 43018 = y.2.1 43018
theorem tkC_fr {P : Nat → Prop} {y y1 : ow_MS} (hf : fr P y y1) (h1 : ¬ P 43018) (h2 : ¬ P 43019) (h3 : ¬ P 43020) : tkC y y1 := ⟨(hf _ h2).1, (hf _ h3).1, (hf _ h1).2.1⟩
theorem tkC_tr {z z1 z2 : ow_MS} (h : tkC z z1) (h1 : tkC z1 z2) : tkC z z2 := ⟨h1.1.trans h.1, h1.2.1.trans h.2.1, h1.2.2.trans h.2.2⟩
section XCL1
variable {vl : Nat → Nat} {y : ow_MS} {W C : Nat} {St : plT} {x x' : Int32}
theorem okL_bd {A : rn_L} {c : Nat} (hA : okL A c) : bdA A := ⟨hA.1.1, fun p hp => by
  have h1 := (hA.1.2 p).mp hp
  have h2 := hA.2.2.2.1
  omega, by
  have := hA.2.2.2.2
  omega⟩
theorem jnN_pm {A : rn_L} {sg : Nat → Bool} {c : Nat} {S : ow_NP} {G : Nat → Int32} (h : jnN A sg c S G) : pm1 (c, cirs A, S, G) := fun k hk => by
  have := h.2.2.2 k hk
  show G k = 1 ∨ G k = -1
  rw [this]
  split
  · exact Or.inr rfl
  · exact Or.inl rfl
theorem rel_prC (vl : Nat → Nat) (hN : gN y) (hg : gaS y) (hC : relC y St) (hS : okS St) {d : Nat} {A : rn_L} {sg : Nat → Bool} (hd : d < 40) (h : St d = some (A, sg)) : prC A sg := by
  obtain ⟨hne, hpl, c, hA⟩ := hS d A sg hd h
  have hs := (hC d hd).2 A sg h
  obtain ⟨w, hw⟩ := hg d A sg c hd hs hA
  obtain ⟨y2, -, g1, g2, S, G, g3, g4⟩ := tc_ld3 (vl := vl) nH4 hN hd hs hA
  exact ⟨(c, cirs A, S, G), w, g4.2.1, g4.2.2.1, jnN_pm g4, hw, okL_bd hA⟩
theorem xc_chain (hv : vI vl W C) (hM : gM y) (hg : gaS y) (htb : tbP y) (hch : chP y) (hC : relC y St) (hS : okS St) : Te (fun K => ce_X11_chain K 0 x x' vl y) (fun r => (r.1 = 1 ∧ tkC y r.2.2.2 ∧ ∀ d, d < 40 → x = nI d → St d = none) ∨ ∃ d A sg, d < 40 ∧ x = nI d ∧ St d = some (A, sg) ∧ (r.1 = 2 ∧ tkC y r.2.2.2 ∧ (¬ ∃ p, x' = nI p ∧ prT p ∧ p ≤ 997) ∨ ∃ p, x' = nI p ∧ prT p ∧ p ≤ 997 ∧ ∃ c P mm, okF A.flatten c ∧ mk A mm P ∧ (r.1 = 4 ∧ tkC y r.2.2.2 ∧ 9 < c + P ∨ r.1 = 0 ∧ c + P ≤ 9 ∧ clN p sg A c r.2.2.2 r.2.1))) := by
  unfold ce_X11_chain
  refine w_te0 ?_
  refine w_tc0 (xc_need hM.1.1 hC hS) ?_ ?_
  · rintro y1 ⟨h1, e0⟩
    have e0 : y1 = y := e0
    rw [e0]
    rcases h1 with h1 | ⟨-, d, A, sg, c, hd, rfl, hSt, hs, hA, hne, hpl⟩
    · exact absurd (show (0 : Nat) = 1 from h1.1) (by decide)
    · refine w_if (fun h8 => w_some (Or.inr ⟨d, A, sg, hd, rfl, hSt, Or.inl ⟨rfl, ⟨rfl, rfl, rfl⟩, ?_⟩⟩)) (fun hx2 => w_if (fun h8 => w_some (Or.inr ⟨d, A, sg, hd, rfl, hSt, Or.inl ⟨rfl, ⟨rfl, rfl, rfl⟩, ?_⟩⟩)) (fun hx9 => ?_))
      · rintro ⟨p, rfl, hp, h9⟩
        have := (nI_ltI (b := 2) (by omega) (by omega)).mp h8
        have := hp.1
        omega
      · rintro ⟨p, rfl, hp, h9⟩
        have := (nI_ltI (a := 997) (by omega) (by omega)).mp h8
        omega
      obtain ⟨p, hp31, rfl⟩ := nI_of (x := x') (fun h8 => hx2 (by
        rw [Int32.lt_iff_toInt_lt] at h8 ⊢
        exact Int.lt_trans h8 (by decide)))
      have hp2 : 2 ≤ p := by
        rcases Nat.lt_or_ge p 2 with h8 | h8
        · exact absurd (nI_lt (b := 2) h8 (by omega)) hx2
        · exact h8
      have hp9 : p ≤ 997 := by
        rcases Nat.lt_or_ge 997 p with h8 | h8
        · exact absurd (nI_lt (a := 997) h8 hp31) hx9
        · exact h8
      refine w_cs1 (tc_isPrime hp2 hp9) ?_
      rintro v z ⟨e, hpr⟩
      have e : z = y := e
      rw [e]
      have hpr : v = 1 ∧ prT p ∨ v = 0 ∧ ¬ prT p := hpr
      refine w_if (fun h8 => w_some (Or.inr ⟨d, A, sg, hd, rfl, hSt, Or.inl ⟨rfl, ⟨rfl, rfl, rfl⟩, ?_⟩⟩)) (fun h8 => ?_)
      · rcases hpr with ⟨k, -⟩ | ⟨-, k⟩
        · rw [k] at h8
          exact absurd h8 (by decide)
        · rintro ⟨p', e', hp', h9'⟩
          rw [← nI_inj9 (a := p) (b := p') (by omega) (by omega) e'] at hp'
          exact k hp'
      have hp : prT p := by
        rcases hpr with ⟨-, k⟩ | ⟨k, -⟩
        · exact k
        · exact absurd k h8
      refine w_cs0 (tc_ld3 nH4 hM.1 hd hs hA) ?_
      rintro y2 ⟨g1, g2, S, G, g3, g4⟩
      obtain ⟨mm, P9, hmk⟩ := mk_ex A
      have hpm := jnN_pm g4
      obtain ⟨j1, j2, j3, j4⟩ := g4
      have hP9 := parts_cnt j2 j3 hmk
      have hc12 : c ≤ 12 := hA.2.2.2.1
      have hnv : nv (c, cirs A, S, G) := g3.2.2.1
      refine w_cs0 (tc_markParts nH4 g3.1 (fun k hk => (j3 k hk).1) hc12) ?_
      rintro y3 ⟨-, q2, q3⟩
      have pe := (np_parts_of (N := S.1) (c := c) (fun k hk => (j3 k hk).1) hc12 (y2.2.1 (4000 + 6))).2
      have hP9 : (np_parts c S.1).2 + cirs A = P9 := hP9
      have pl := mp_out_le S.1 (2 * c) (np_fill (y2.2.1 (4000 + 6)) 0 (2 * c) (-1)) (2 * c)
      dsimp only at q2
      generalize (mp_out S.1 (2 * c) (np_fill (y2.2.1 (4000 + 6)) 0 (2 * c) (-1)) (2 * c)).2 = P at q2 pe pl
      have a3 : cAt y3 4000 (c, cirs A, S, G) := cAt_fr q3 (fun g hg h9 => by unfold cP at hg; unfold cQ at h9; omega) g3.1
      have hci : cirs A ≤ 6 := by
        have h9 : np_rg c S + cirs A ≤ 6 := hnv.2.2.2
        omega
      have f3 : fr chG y y3 := fr_tr (fr_mono (fun g hg => Or.inl (by unfold cL at hg; omega)) g2) (fr_mono (fun g hg => Or.inl (by unfold cQ at hg; omega)) q3)
      have n44 : ∃ T, cAt y3 44000 T ∧ ow_b24 T.2.2.1 := by
        obtain ⟨T, t1, t2⟩ := g1.2.1 44000 nH44
        exact ⟨T, cAt_fr q3 (fun g hg h9 => by unfold cP at hg; unfold cQ at h9; omega) t1, t2⟩
      refine w_rdF a3.1 (w_rdF q2 (w_rdF a3.2.1 ?_))
      dsimp only
      rw [nI_add, nI_add]
      refine w_le (a := c + P + cirs A) (b := 9) (by omega) (by omega) (fun h9 => ?_) (fun h9 => w_some (Or.inr ⟨d, A, sg, hd, rfl, hSt, Or.inr ⟨p, rfl, hp, hp9, c, P9, mm, hA.1, hmk, Or.inl ⟨rfl, tkC_tr (tkC_fr g2 (by unfold cL; omega) (by unfold cL; omega) (by unfold cL; omega)) (tkC_fr q3 (by unfold cQ; omega) (by unfold cQ; omega) (by unfold cQ; omega)), by omega⟩⟩⟩))
      have hV : isoV A sg (fun x => x) (c, cirs A, S, G) := isoV_of j2 j3
      obtain ⟨w, hw⟩ := hg d A sg c hd hs hA
      have hT : tyI (c, cirs A, S, G) := by
        refine ⟨hnv, fun k hk => ?_, A, sg, fun x => x, w, max 1 (P + cirs A), hV, hw, hA.2.2.2.2, pLe_of hV ?_, by omega, ?_⟩
        · show G k ≠ 0
          rw [j4 k hk]
          split <;> decide
        · show (np_parts c S.1).2 + cirs A ≤ _
          omega
        · show c + max 1 (P + cirs A) ≤ 9
          rcases Nat.eq_zero_or_pos (P + cirs A) with h0 | h0
          · have : c = 0 := by
              rcases Nat.eq_zero_or_pos c with h7 | h7
              · exact h7
              · obtain ⟨-, u2, -⟩ := parts_I j3 hc12
                obtain ⟨r, r1, -⟩ := u2 0 (by omega)
                omega
            omega
          · omega
      have hJ : tdJ p sg A c (c, cirs A, S, G) := tdJ_0 hpm hV hw (okL_bd hA) (prp_of hp) (iv_of hp)
      refine w_dc1 (te_compute hv a3 n44 hT hJ (tbP_fr f3 (by unfold chG cmG cP; omega) htb) (chP_fr f3 (fun g hg => by unfold chG cmG cP at hg; omega) hch) hp hp9) ?_
      rintro v v1 z1 ⟨r1, r2, r3, r4, r5⟩
      have r5 : clT p sg A c z1 v := r5
      exact w_some (Or.inr ⟨d, A, sg, hd, rfl, hSt, Or.inr ⟨p, rfl, hp, hp9, c, P9, mm, hA.1, hmk, Or.inr ⟨rfl, by omega, clN_of hp r5 ⟨_, nm_id j2 j3⟩⟩⟩⟩)
  · rintro a y1 ha ⟨h1, rfl⟩
    rcases h1 with h1 | h1
    · exact w_some (Or.inl ⟨h1.1, ⟨rfl, rfl, rfl⟩, h1.2⟩)
    · exact absurd h1.1 ha
end XCL1
end
section
/-! 99zzzzzzzzzzzzzzzzyzv.xcik -/
/-! chain: both tables tell the same -/
/-- the class's table tells D -/
def tcD (D : Int → Int → Int) (y : ow_MS) : Prop := ∃ (c' n' : Nat) (CT : Nat → Int → Int), n' ≤ c' ∧ c' ≤ 8 ∧ y.1 43019 = iI ((c' : Int) - 2 * n') ∧ y.1 43020 = nI n' ∧ tabT y CT ∧ (∀ o d, (c' < o ∨ d < -16 ∨ 24 < d) → CT o d = 0) ∧ ∀ i q : Int, D i q = if 0 ≤ i + n' then CT (i + n').toNat (q - c' + 3 * n') else 0
/-- the reference's table tells D -/
def trD (D : Int → Int → Int) (z : ow_MS) : Prop := ∃ ng : Nat, ng ≤ 8 ∧ z.1 88 = nI ng ∧ (∀ r q : Nat, r < 10 → q < 80 → z.2.1 87 (80 * r + q) = iI (D ((r : Int) - ng) ((q : Int) - 40))) ∧ ∀ i q : Int, (i + ng < 0 ∨ 9 < i + ng ∨ q < -40 ∨ 40 ≤ q) → D i q = 0
section XCL2
theorem sN_z {f : Nat → Int} {n : Nat} (h : ∀ i, i < n → f i = 0) : sN9 f n = 0 := (sN_cg (g := fun _ => 0) h).trans sN_0
/-- a window that holds all that is not 0 -/
theorem sN_win {g : Int → Int} {lo a : Int} {n m : Nat} (h : ∀ d, (d < lo ∨ lo + m ≤ d) → g d = 0) (ha : a ≤ lo) (hb : lo + m ≤ a + n) : sN9 (fun q => g ((q : Int) + a)) n = sN9 (fun q => g ((q : Int) + lo)) m := by
  obtain ⟨k, hk⟩ : ∃ k : Nat, lo = a + k := ⟨(lo - a).toNat, by omega⟩
  obtain ⟨t, ht⟩ : ∃ t : Nat, n = k + (m + t) := ⟨n - k - m, by omega⟩
  rw [ht, sN_sp, sN_sp, sN_z (f := fun q => g ((q : Int) + a)) (fun i hi => h _ (by omega)), sN_z (f := fun i => (fun i => (fun q : Nat => g ((q : Int) + a)) (k + i)) (m + i)) (fun i hi => h _ (by omega)), Int.zero_add, Int.add_zero]
  refine sN_cg (fun i hi => ?_)
  show g (((k + i : Nat) : Int) + a) = g ((i : Int) + lo)
  congr 1
  omega
theorem sN_rows {f : Nat → Nat → Int} {w : Nat} (hw : 0 < w) : ∀ n, sN9 (fun i => f (i / w) (i % w)) (w * n) = sN9 (fun o => sN9 (fun e => f o e) w) n := by
  intro n
  induction n with
  | zero => rfl
  | succ n ih =>
    rw [Nat.mul_succ, sN_sp, ih]
    show _ + _ = _ + sN9 (fun e => f n e) w
    congr 1
    refine sN_cg (fun e he => ?_)
    show f ((w * n + e) / w) ((w * n + e) % w) = f n e
    rw [Nat.mul_add_div hw, Nat.div_eq_of_lt he, Nat.mul_add_mod, Nat.mod_eq_of_lt he]
    rfl
theorem sN_sw9 {f : Nat → Nat → Int} {m : Nat} : ∀ n, sN9 (fun q => sN9 (fun r => f r q) m) n = sN9 (fun r => sN9 (fun q => f r q) n) m := by
  intro n
  induction n with
  | zero => exact (sN_z (fun i _ => rfl)).symm
  | succ n ih =>
    show sN9 (fun q => sN9 (fun r => f r q) m) n + sN9 (fun r => f r n) m = sN9 (fun r => sN9 (fun q => f r q) n + f r n) m
    rw [ih, sN_a]
theorem be_ex {p : Int} {S : Nat → gn9 → Prop} {D : gn9 → fc9} {r : Nat} (h : fi9 S) : ∃ b, be9 p S D r b := by
  obtain ⟨E, N, hE⟩ := fi_en h
  exact ⟨(N (r + 1) : Int) - rn9 p E N D (r + 1) - rn9 p E N D r, E, N, hE, by omega⟩
theorem rt_bL {p : Nat} {A : rn_L} {sg : Nat → Bool} {T : ow_NT} {w : vT → Bool} {mi r q : Nat} (hp : prT p) (hN : isoN A sg (fun x => x) T) (hv : vn T.1 T.2.2.1) (hT : pm1 T) (hw : gaA A w) (hb : bdA A) (hc : T.1 ≤ 8) (h9 : ∀ s, s < 2 ^ T.1 → LcN A sg s ≤ 9) (hr : r ≤ T.1) : bL9 p A sg (fun x => x) T.1 1 (dgq T.1 mi q) r (rtR p A sg T.1 mi r q) := by
  have hO := nm_id hN hv
  have hCu := cuA (prp_of hp) (iv_of hp) (isoV_of hN hv) hT hw hb hO
  have hLT := LT_R hN hT hv hc hb h9
  have hB : ∃ b, bL9 p A sg (fun x => x) T.1 1 (dgq T.1 mi q) r b := be_ex (Sg_en hCu)
  obtain ⟨b, hB⟩ := hB
  obtain ⟨-, m2, m3⟩ := be_MT (prp_of hp) (iv_of hp) hCu hLT (by omega) hB
  have hcc : RKR p A sg T.1 (dgq T.1 mi q) T.1 = 0 := by
    unfold RKR RK9
    rw [sz9_0 h9 hc (Or.inl (by omega))]
    exact rk_w0 _ _
  have key : rtR p A sg T.1 mi r q = b := by
    unfold rtR
    have e1 : (if r < T.1 then (RKR p A sg T.1 (dgq T.1 mi q) r : Int) else 0) = (RKR p A sg T.1 (dgq T.1 mi q) r : Int) := by
      by_cases h : r < T.1
      · rw [if_pos h]
      · rw [if_neg h, show r = T.1 by omega, hcc]
        rfl
    rw [e1]
    cases r with
    | zero =>
      have m2 : (sz9 T.1 (LcN A sg) (dgq T.1 mi q) 0 : Int) = b + RKR p A sg T.1 (dgq T.1 mi q) 0 := m2 rfl
      rw [if_pos rfl]
      omega
    | succ h =>
      have m3 : (sz9 T.1 (LcN A sg) (dgq T.1 mi q) (h + 1) : Int) = b + RKR p A sg T.1 (dgq T.1 mi q) (h + 1) + RKR p A sg T.1 (dgq T.1 mi q) h := m3 h rfl
      rw [if_neg (by omega), Nat.add_sub_cancel]
      omega
  rw [key]
  exact hB
theorem tab_eq {p : Nat} {A : rn_L} {sg : Nat → Bool} {c : Nat} {z y : ow_MS} {ans ans' : Int32} (hp : prT p) (hP : prC A sg) (hok : okF A.flatten c) (hr : rfN p A sg c z ans) (hc : clN p sg A c y ans') : ans = ans' ∧ ∃ D, tcD D y ∧ trD D z := by
  obtain ⟨T, w, hN, hv, hT, hw, hb⟩ := hP
  have hcT : T.1 = c := by
    have := hN.2.1
    have := okF_len hok
    omega
  subst hcT
  obtain ⟨r1, r2, r3, r4, r5, r6⟩ := hr
  obtain ⟨c', n', κ, CT, ⟨k1, k2, k3, k4⟩, k5, k6, k7, k8, k9, k10⟩ := hc
  have hO := nm_id hN hv
  have ent : ∀ r q : Nat, r ≤ T.1 → rtR p A sg T.1 (ng9 A sg) r q = if r < κ then 0 else CT (r - κ) ((q : Int) - 40 - c' + 3 * n') := by
    intro r q hr
    rw [k10 _ hO r _ _ (rt_bL hp hN hv hT hw hb r1 r3 hr)]
    by_cases h : r < κ
    · rw [if_pos h, if_pos h]
    · rw [if_neg h, if_neg h]
      congr 1
      unfold dgq
      omega
  constructor
  · rw [r6, k8]
    refine congrArg iI ?_
    have e1 : sN9 (fun i => CT (i / 56) (((i % 56 : Nat) : Int) - 20)) 504 = sN9 (fun o => sN9 (fun e => CT o ((e : Int) - 20)) 56) 9 := sN_rows (f := fun o e => CT o ((e : Int) - 20)) (w := 56) (by omega) 9
    have e2 : ∀ o, sN9 (fun e : Nat => CT o ((e : Int) - 20)) 56 = sN9 (fun e : Nat => CT o ((e : Int) + (-16))) 41 := fun o => by
      have := sN_win (g := fun d => CT o d) (lo := -16) (a := -20) (n := 56) (m := 41) (fun d hd => k9 o d (by omega)) (by omega) (by omega)
      rw [← this]
      exact sN_cg (fun i hi => congrArg (CT o) (by omega))
    have e3 : ∀ o, sN9 (fun q : Nat => CT o ((q : Int) - 40 - c' + 3 * n')) 80 = sN9 (fun e : Nat => CT o ((e : Int) + (-16))) 41 := fun o => by
      have := sN_win (g := fun d => CT o d) (lo := -16) (a := -40 - c' + 3 * n') (n := 80) (m := 41) (fun d hd => k9 o d (by omega)) (by omega) (by omega)
      rw [← this]
      exact sN_cg (fun i hi => congrArg (CT o) (by omega))
    generalize hH : (fun o : Nat => sN9 (fun e : Nat => CT o ((e : Int) + (-16))) 41) = H
    have hHo : ∀ o, sN9 (fun e : Nat => CT o ((e : Int) + (-16))) 41 = H o := fun o => by rw [← hH]
    have hH0 : ∀ o, c' < o → H o = 0 := fun o ho => by
      rw [← hHo]
      exact sN_z (fun i _ => k9 _ _ (Or.inl ho))
    rw [e1, sN_sw9]
    have e4 : sN9 (fun o => sN9 (fun e => CT o ((e : Int) - 20)) 56) 9 = sN9 H 9 := sN_cg (fun o _ => (e2 o).trans (hHo o))
    have e5 : sN9 (fun r => sN9 (fun q => rtR p A sg T.1 (ng9 A sg) r q) 80) (T.1 + 1) = sN9 (fun r => if r < κ then 0 else H (r - κ)) (T.1 + 1) := by
      refine sN_cg (fun r hr => ?_)
      by_cases h : r < κ
      · rw [if_pos h]
        refine sN_z (fun q hq => ?_)
        rw [ent r q (by omega), if_pos h]
      · rw [if_neg h, ← hHo, ← e3]
        refine sN_cg (fun q hq => ?_)
        rw [ent r q (by omega), if_neg h]
    rw [e4, e5]
    have e6 := sN_win (g := fun d => if d < 0 then 0 else H d.toNat) (lo := 0) (a := -κ) (n := T.1 + 1) (m := c' + 1) (fun d hd => by
      by_cases h : d < 0
      · rw [if_pos h]
      · rw [if_neg h]
        exact hH0 _ (by omega)) (by omega) (by omega)
    have e7 := sN_win (g := fun d => if d < 0 then 0 else H d.toNat) (lo := 0) (a := 0) (n := 9) (m := c' + 1) (fun d hd => by
      by_cases h : d < 0
      · rw [if_pos h]
      · rw [if_neg h]
        exact hH0 _ (by omega)) (by omega) (by omega)
    have e8 : sN9 (fun r => if r < κ then 0 else H (r - κ)) (T.1 + 1) = sN9 (fun q : Nat => (fun d : Int => if d < 0 then 0 else H d.toNat) ((q : Int) + -κ)) (T.1 + 1) := by
      refine sN_cg (fun r hr => ?_)
      dsimp only
      by_cases h : r < κ
      · rw [if_pos h, if_pos (by omega)]
      · rw [if_neg h, if_neg (by omega)]
        exact congrArg H (by omega)
    have e9 : sN9 H 9 = sN9 (fun q : Nat => (fun d : Int => if d < 0 then 0 else H d.toNat) ((q : Int) + 0)) 9 := by
      refine sN_cg (fun r hr => ?_)
      dsimp only
      rw [if_neg (by omega)]
      exact congrArg H (by omega)
    rw [e8, e9, e6, e7]
  · refine ⟨fun i q => if 0 ≤ i + n' then CT (i + n').toNat (q - c' + 3 * n') else 0, ⟨c', n', CT, k1, k2, k5, k6, k7, k9, fun i q => rfl⟩, ng9 A sg, by omega, r4, fun r q hr hq => ?_, fun i q h => ?_⟩
    · rw [r5 r q hr hq]
      dsimp only
      by_cases h1 : r ≤ T.1
      · rw [if_pos h1, ent r q h1]
        by_cases h : r < κ
        · rw [if_pos h, if_neg (by omega)]
        · rw [if_neg h, if_pos (by omega)]
          congr 2
          · omega
      · rw [if_neg h1]
        by_cases h : r < κ
        · rw [if_neg (by omega)]
        · rw [if_pos (by omega), k9 _ _ (Or.inl (by omega))]
    · dsimp only
      by_cases h0 : 0 ≤ i + n'
      · rw [if_pos h0]
        exact k9 _ _ (by omega)
      · rw [if_neg h0]
end XCL2
end
section
/-! 99zzzzzzzzzzzzzzzzyzw.xcil -/
/-! chain: both sides -/
section XCL3
variable {X : (Nat → Nat → Int32) → Prop} {z y : ow_MS} {vl : Nat → Nat} {W C : Nat} {x x' : Int32}
theorem tab_ok {A : rn_L} {c c' P P' : Nat} {mm mm' : Nat → Nat} (h : okF A.flatten c) (h' : okF A.flatten c') (m : mk A mm P) (m' : mk A mm' P') : c = c' ∧ P = P' := by
  have a := okF_len h
  have b := okF_len h'
  exact ⟨by omega, mk_uni m m'⟩
theorem c_chain (h : rel3 X z y) (hv : vI vl W C) (htb : tbP y) (hch : chP y) : Te (fun K => qe_X13_chain K x x' z) (fun rr => Te (fun K => ce_X11_chain K 0 x x' vl y) (fun rc => (rel3 X rr.2 rc.2.2.2 ∧ ansI [(1, 1), (2, 2), (3, 4)] rr (rc.1, rc.2.1, rc.2.2.2)) ∧ fr chG y rc.2.2.2 ∧ fr (pf [1, 47, 81, 82, 83, 84, 85, 86, 87, 88, 89, 90, 91, 92, 93] []) z rr.2 ∧ dPhi vl ≤ dPhi rc.2.2.1 ∧ (∃ W' C', vI rc.2.2.1 W' C') ∧ (tkR z rr.2 ∧ tkC y rc.2.2.2 ∨ ∃ D, tcD D rc.2.2.2 ∧ trD D rr.2))) := by
  obtain ⟨⟨St, k⟩, hM, h2⟩ := id h
  have hg : gaS y := rel_ga vl hM.1 k.2.2.2.1 k.2.2.2.2
  refine te_two (te_and (te_fo (tp_chain (d := x) (p0 := x') k.1) (fun K => ff_X13_chain)) (xq_chain k.1 k.2.2.1 (fun e A sg he hs => rel_prC vl hM.1 hg k.2.2.2.1 k.2.2.2.2 he hs))) (te_and (tc_chain (x := x) (x' := x') hv hM hg htb hch) (xc_chain hv hM hg htb hch k.2.2.2.1 k.2.2.2.2)) (fun rr rc ⟨⟨hgI, fR⟩, hr⟩ ⟨⟨hG, hf, hd, hW⟩, hc⟩ => ?_)
  have hC : relC rc.2.2.2 St := relC_fr hf (fun q hq h9 => by unfold cW at hq; unfold chG cmG cP at h9; omega) k.2.2.2.1
  have h2' : rel2 rr.2 rc.2.2.2 := by
    obtain ⟨k1, k2, k3, ⟨Ns, q1, q2, q3⟩, Ms, q4, q5, q6⟩ := h2
    exact ⟨relT_k fR hf (by decide) (by unfold chG cmG cP; omega) k1, relB_k fR hf (by decide) (by unfold chG cmG cP; omega) k2, brC_fr hf (by unfold chG cmG cP; omega) k3, ⟨Ns, rlR_k fR (by decide) q1, rlC_k hf (fun q hq => by unfold cV at hq; unfold chG cmG cP; omega) q2, q3⟩, Ms, rlR_k fR (by decide) q4, rlC_k hf (fun q hq => by unfold cV at hq; unfold chG cmG cP; omega) q5, q6⟩
  have fin : ansI [(1, 1), (2, 2), (3, 4)] rr (rc.1, rc.2.1, rc.2.2.2) → (tkR z rr.2 ∧ tkC y rc.2.2.2 ∨ ∃ D, tcD D rc.2.2.2 ∧ trD D rr.2) → ((rel3 X rr.2 rc.2.2.2 ∧ ansI [(1, 1), (2, 2), (3, 4)] rr (rc.1, rc.2.1, rc.2.2.2)) ∧ fr chG y rc.2.2.2 ∧ fr (pf [1, 47, 81, 82, 83, 84, 85, 86, 87, 88, 89, 90, 91, 92, 93] []) z rr.2 ∧ dPhi vl ≤ dPhi rc.2.2.1 ∧ (∃ W' C', vI rc.2.2.1 W' C') ∧ (tkR z rr.2 ∧ tkC y rc.2.2.2 ∨ ∃ D, tcD D rc.2.2.2 ∧ trD D rr.2)) := fun ha hD => ⟨⟨⟨⟨St, hgI, hG.1, relR_fr fR (by decide) k.2.2.1, hC, k.2.2.2.2⟩, hG, h2'⟩, ha⟩, hf, fR, hd, hW, hD⟩
  rcases hr with ⟨r1, rk, r2⟩ | ⟨e, A, sg, he, rfl, hSt, hr⟩
  · rcases hc with ⟨c1, ck, -⟩ | ⟨d, A, sg, hd, hx, hSt, -⟩
    · exact fin (Or.inr ⟨1, 1, by simp, r1, c1⟩) (Or.inl ⟨rk, ck⟩)
    · rw [r2 d hd hx] at hSt
      cases hSt
  · rcases hc with ⟨-, -, c2⟩ | ⟨d, A', sg', hd, hx, hSt', hc⟩
    · rw [c2 e he rfl] at hSt
      cases hSt
    · have ed := nI_inj9 (a := e) (b := d) (by omega) (by omega) hx
      subst ed
      rw [hSt] at hSt'
      cases hSt'
      rcases hr with ⟨r1, rk, r2⟩ | ⟨p, rfl, hp, hp9, c, P, mm, hok, hmk, hr⟩
      · rcases hc with ⟨c1, ck, -⟩ | ⟨p, e1, e2, e3, -⟩
        · exact fin (Or.inr ⟨2, 2, by simp, r1, c1⟩) (Or.inl ⟨rk, ck⟩)
        · exact absurd ⟨p, e1, e2, e3⟩ r2
      · rcases hc with ⟨-, -, c2⟩ | ⟨p', ep, hp', hp9', c', P', mm', hok', hmk', hc⟩
        · exact absurd ⟨p, rfl, hp, hp9⟩ c2
        · have ep := nI_inj9 (a := p) (b := p') (by omega) (by omega) ep
          subst ep
          obtain ⟨rfl, rfl⟩ := tab_ok hok hok' hmk hmk'
          rcases hr with ⟨r1, rk, r2⟩ | ⟨r1, r2, r3⟩
          · rcases hc with ⟨c1, ck, c2⟩ | ⟨-, c2, -⟩
            · exact fin (Or.inr ⟨3, 4, by simp, r1, c1⟩) (Or.inl ⟨rk, ck⟩)
            · omega
          · rcases hc with ⟨-, -, c2⟩ | ⟨c1, -, c3⟩
            · omega
            · obtain ⟨ea, D, d1, d2⟩ := tab_eq hp (rel_prC vl hM.1 hg k.2.2.2.1 k.2.2.2.2 he hSt) hok r3 c3
              exact fin (Or.inl ⟨r1, c1, ea⟩) (Or.inr ⟨D, d1, d2⟩)
end XCL3
end
section
/-! 99zzzzzzzzzzzzzzzzyzx.xcim -/
/-! rank: both sides tell D -/
section XCL4
variable {X : (Nat → Nat → Int32) → Prop} {z y : ow_MS} {vl : Nat → Nat} {x x' : Int32} {D : Int → Int → Int}
theorem i32_bd (x : Int32) : -(2 ^ 31 : Int) ≤ x.toInt ∧ x.toInt < 2 ^ 31 := ⟨Int32.le_toInt x, Int32.toInt_lt x⟩
theorem l64_add {a b : Int64} {p q : Int} (h1 : a.toInt = p) (h2 : b.toInt = q) (l : -(2 ^ 63 : Int) ≤ p + q) (u : p + q < 2 ^ 63) : (a + b).toInt = p + q := by
  rw [Int64.toInt_add, h1, h2]
  exact Int.bmod_eq_of_le (by omega) (by omega)
theorem l64_sub {a b : Int64} {p q : Int} (h1 : a.toInt = p) (h2 : b.toInt = q) (l : -(2 ^ 63 : Int) ≤ p - q) (u : p - q < 2 ^ 63) : (a - b).toInt = p - q := by
  rw [Int64.toInt_sub, h1, h2]
  exact Int.bmod_eq_of_le (by omega) (by omega)
theorem i64_of (x : Int32) : x.toInt64.toInt = x.toInt := Int32.toInt_toInt64 x
theorem lg_i0 {w b : Int64} : lg_cmp w b < 0 ↔ w.toInt < b.toInt := (lg_cmp_lt _ _).trans Int64.lt_iff_toInt_lt
theorem lg_i1 {w b : Int64} : 0 < lg_cmp w b ↔ b.toInt < w.toInt := (lg_cmp_gt _ _).trans Int64.lt_iff_toInt_lt
theorem l64_n {w : Int64} (h : 0 ≤ w.toInt) (h2 : w.toInt < 2 ^ 31) : w = lN w.toInt.toNat := by
  refine Int64.toInt_inj.mp ?_
  rw [lN_toInt (by omega)]
  omega
theorem re_rank (h : trD D z) : Te (fun K => qe_X13_rank K x x' z) (fun r => r.2.1 1 = 0 ∧ r.1 = iI (D x.toInt x'.toInt)) := by
  obtain ⟨ng, n1, n2, n3, n4⟩ := h
  have c1 : ∀ w : Int64, D x.toInt x'.toInt = 0 → Tt (fun K k => q_X13_rank K k 1 x x' w (usF z 1 0)) (fun r => r.2.1 1 = 0 ∧ r.1 = iI (D x.toInt x'.toInt)) := by
    intro w hD
    refine u_X13_rank_1 ?_; unfold qm_X13_rank_1
    rw [hD]
    exact w_some ⟨po_usF_at, rfl⟩
  have bx := i32_bd x
  have e88 : (usF z 1 0).1 88 = nI ng := (po_usF_ot (by omega)).trans n2
  have hw : (x.toInt64 + (nI ng).toInt64).toInt = x.toInt + ng := l64_add (i64_of x) ((i64_of _).trans (nI_toInt (by omega))) (by omega) (by omega)
  refine e_X13_rank ?_
  refine u_X13_rank_0 ?_; unfold qm_X13_rank_0
  refine w_wrF (w_rdF e88 ?_)
  generalize x.toInt64 + (nI ng).toInt64 = w at hw
  refine w_if (fun a1 => c1 _ ?_) (fun a1 => w_if (fun a2 => c1 _ ?_) (fun a2 => w_if (fun a3 => c1 _ ?_) (fun a3 => w_if (fun a4 => ?_) (fun a4 => c1 _ ?_))))
  · have a1 := lg_i0.mp a1
    rw [hw] at a1
    exact n4 _ _ (Or.inl a1)
  · have a2 := lg_i1.mp a2
    rw [hw] at a2
    exact n4 _ _ (Or.inr (Or.inl a2))
  · have a3 := Int32.lt_iff_toInt_lt.mp a3
    exact n4 _ _ (Or.inr (Or.inr (Or.inl a3)))
  · have a1 : ¬ w.toInt < 0 := fun h => a1 (lg_i0.mpr h)
    have a2 : ¬ 9 < w.toInt := fun h => a2 (lg_i1.mpr h)
    have a3 : ¬ x'.toInt < -40 := fun h => a3 (Int32.lt_iff_toInt_lt.mpr h)
    have a4 : x'.toInt < 40 := Int32.lt_iff_toInt_lt.mp a4
    have e1 : w.toInt32 = nI (x.toInt + ng).toNat := by
      rw [l64_n (w := w) (by omega) (by omega), lN_i, hw]
    have e2 : x' + 40 = nI (x'.toInt + 40).toNat := by
      refine Int32.toInt_inj.mp ?_
      rw [nI_toInt (by omega), Int32.toInt_add, show (40 : Int32).toInt = 40 from by decide]
      refine (Int.bmod_eq_of_le (by omega) (by omega)).trans ?_
      omega
    have e3 : 80 * w.toInt32 + x' + 40 = nI (80 * (x.toInt + ng).toNat + (x'.toInt + 40).toNat) := by
      rw [Int32.add_assoc, e2, e1, show (80 : Int32) * nI (x.toInt + ng).toNat = nI (80 * (x.toInt + ng).toNat) from pk_mul 80 _, nI_add]
    refine w_rdI ml87 e3 (by omega) rfl (w_some ⟨po_usF_at, ?_⟩)
    refine (n3 (x.toInt + ng).toNat (x'.toInt + 40).toNat (by omega) (by omega)).trans ?_
    rw [show (((x.toInt + ng).toNat : Nat) : Int) - ng = x.toInt by omega, show (((x'.toInt + 40).toNat : Nat) : Int) - 40 = x'.toInt by omega]
  · have a4 : ¬ x'.toInt < 40 := fun h => a4 (Int32.lt_iff_toInt_lt.mpr h)
    exact n4 _ _ (Or.inr (Or.inr (Or.inr (by omega))))
theorem te_rankAt (h : tcD D y) : Te (fun K => ce_X1_rankAt vl K 43000 x x' y) (fun r => r.2 = y ∧ r.1 = iI (D x.toInt x'.toInt)) := by
  obtain ⟨c', n', CT, k1, k2, k3, k4, k5, k6, k7⟩ := h
  have c1 : ∀ a b : Int64, D x.toInt x'.toInt = 0 → Tt (fun K t => c_X1_rankAt vl K t 1 x x' a b 43000 y) (fun r => r.2 = y ∧ r.1 = iI (D x.toInt x'.toInt)) := by
    intro a b hD
    refine u_X1_rankAt_1 ?_; unfold cm_X1_rankAt_1
    rw [hD]
    exact w_some ⟨rfl, rfl⟩
  have bx := i32_bd x
  have bx' := i32_bd x'
  have hn : (nI n').toInt64.toInt = n' := (i64_of _).trans (nI_toInt (by omega))
  have hwr : (iI ((c' : Int) - 2 * n')).toInt64.toInt = (c' : Int) - 2 * n' := (i64_of _).trans (iI_toInt (by omega) (by omega))
  have hw : (x.toInt64 + (nI n').toInt64).toInt = x.toInt + n' := l64_add (i64_of x) hn (by omega) (by omega)
  have hu : (x'.toInt64 - (iI ((c' : Int) - 2 * n')).toInt64 + (nI n').toInt64 - (-20)).toInt = x'.toInt - (c' - 2 * n') + n' - (-20) := l64_sub (l64_add (l64_sub (i64_of x') hwr (by omega) (by omega)) hn (by omega) (by omega)) (by decide) (by omega) (by omega)
  refine e_X1_rankAt ?_
  refine u_X1_rankAt_0 ?_; unfold cm_X1_rankAt_0
  refine w_rdF k4 (w_rdF k3 (w_rdF k4 ?_))
  generalize x.toInt64 + (nI n').toInt64 = w at hw
  generalize x'.toInt64 - (iI ((c' : Int) - 2 * n')).toInt64 + (nI n').toInt64 - (-20) = u at hu
  refine w_if (fun a1 => c1 _ _ ?_) (fun a1 => w_if (fun a2 => c1 _ _ ?_) (fun a2 => w_if (fun a3 => c1 _ _ ?_) (fun a3 => w_if (fun a4 => ?_) (fun a4 => c1 _ _ ?_))))
  · have a1 : w.toInt < 0 := lg_i0.mp a1
    rw [k7, if_neg (by omega)]
  · have a2 : 8 < w.toInt := lg_i1.mp a2
    rw [k7]
    by_cases h9 : 0 ≤ x.toInt + n'
    · rw [if_pos h9]
      exact k6 _ _ (Or.inl (by omega))
    · rw [if_neg h9]
  · have a3 : u.toInt < 0 := lg_i0.mp a3
    rw [k7]
    by_cases h9 : 0 ≤ x.toInt + n'
    · rw [if_pos h9]
      exact k6 _ _ (Or.inr (Or.inl (by omega)))
    · rw [if_neg h9]
  · have a1 : ¬ w.toInt < 0 := fun h => a1 (lg_i0.mpr h)
    have a2 : ¬ 8 < w.toInt := fun h => a2 (lg_i1.mpr h)
    have a3 : ¬ u.toInt < 0 := fun h => a3 (lg_i0.mpr h)
    have a4 : u.toInt < 56 := lg_i0.mp a4
    have key : ∀ (a : Fin 9) (b : Fin 56), (lN a.val * 56 + lN b.val).toInt32 = nI (a.val * 56 + b.val) := by decide +kernel
    have e := key ⟨w.toInt.toNat, by omega⟩ ⟨u.toInt.toNat, by omega⟩
    dsimp only at e
    rw [← l64_n (w := w) (by omega) (by omega), ← l64_n (w := u) (by omega) (by omega)] at e
    refine w_crI ch_43018 e (by omega) rfl (w_some ⟨rfl, ?_⟩)
    refine (k5 (w.toInt.toNat * 56 + u.toInt.toNat) (by omega)).trans ?_
    rw [k7, if_pos (by omega), show (w.toInt.toNat * 56 + u.toInt.toNat) / 56 = (x.toInt + n').toNat by omega, show (((w.toInt.toNat * 56 + u.toInt.toNat) % 56 : Nat) : Int) - 20 = x'.toInt - c' + 3 * n' by omega]
  · have a4 : ¬ u.toInt < 56 := fun h => a4 (lg_i0.mpr h)
    rw [k7]
    by_cases h9 : 0 ≤ x.toInt + n'
    · rw [if_pos h9]
      exact k6 _ _ (Or.inr (Or.inr (by omega)))
    · rw [if_neg h9]
theorem te_rank (h : tcD D y) : Te (fun K => ce_X11_rank vl K 0 x x' y) (fun r => r.2 = y ∧ r.1 = iI (D x.toInt x'.toInt)) := by
  refine e_X11_rank ?_; unfold cm_X11_rank_0
  refine w_cs1 (te_rankAt h) ?_
  rintro v z ⟨e, e2⟩
  exact w_some ⟨e, e2⟩
theorem tcD_k {y1 : ow_MS} (hk : tkC y y1) (h : tcD D y) : tcD D y1 := by
  obtain ⟨c', n', CT, k1, k2, k3, k4, k5, k6, k7⟩ := h
  exact ⟨c', n', CT, k1, k2, hk.1.trans k3, hk.2.1.trans k4, fun i hi => by rw [hk.2.2]; exact k5 i hi, k6, k7⟩
theorem trD_k {z1 : ow_MS} (hk : tkR z z1) (h : trD D z) : trD D z1 := by
  obtain ⟨ng, n1, n2, n3, n4⟩ := h
  exact ⟨ng, n1, hk.1.trans n2, fun r q hr hq => by rw [hk.2]; exact n3 r q hr hq, n4⟩
theorem tcD_0 (h1 : y.1 43019 = 0) (h2 : y.1 43020 = 0) (h3 : ∀ i, y.2.1 43018 i = 0) : tcD (fun _ _ => 0) y := ⟨0, 0, fun _ _ => 0, Nat.le_refl _, by omega, h1, h2, fun i _ => h3 i, fun _ _ _ => rfl, fun i q => by split <;> rfl⟩
theorem trD_0 (h1 : z.1 88 = 0) (h3 : ∀ i, z.2.1 87 i = 0) : trD (fun _ _ => 0) z := ⟨0, by omega, h1, fun r q _ _ => h3 _, fun _ _ _ => rfl⟩
end XCL4
end
section
/-! 99zzzzzzzzzzzzzzzzyzy.xcin -/
/-! chain and rank: steps of the law -/
section XCL5
variable {X : (Nat → Nat → Int32) → Prop} {z y : ow_MS} {vl : Nat → Nat} {x x' : Int32} {D : Int → Int → Int}
theorem c_rank (h : rel3 X z y) (hc : tcD D y) (hr : trD D z) : Te (fun K => qe_X13_rank K x x' z) (fun rr => Te (fun K => ce_X11_rank vl K 0 x x' y) (fun rc => rel3 X rr.2 rc.2 ∧ rr.2.1 1 = 0 ∧ rr.1 = rc.1)) := by
  have hI := r3_g h
  refine te_two (te_fo (te_and (tp_rank (i := x) (q := x') hI) (re_rank hr)) (fun K => ff_X13_rank)) (te_fo (te_rank hc) (fun K => ff_X11_rank)) (fun rr rc ⟨⟨hgI, r0, hr⟩, fR⟩ ⟨hc, fC⟩ => ⟨rel3_nf fR fC (pf_nf (by decide)) (fun g hg => by first | exact hg.elim | omega) hgI h, r0, hr.trans hc.2.symm⟩)
variable {Pc Pr : ow_MS → Prop}
theorem s3_rank (hc : keepP ciX Pc) (hr : keepP rfX Pr) (kc : ∀ y, Pc y → tcD D y) (kr : ∀ z, Pr z → trD D z) : stpX Pc Pr lst_rank := by
  intro S x1 x2 x3 x4 x5 h pc pr
  have hs0 := st_bool (vl := S.1) (y := S.2.1) (z := S.2.2) (fc := fun K => ce_X11_rank S.1 K 0 x1 x2 S.2.1) (fm := fun K => qe_X13_rank K x1 x2 S.2.2) h.1 (c_rank h.1.1 (kc _ pc) (kr _ pr)) (fun K => ff_X13_rank) (fun K => ff_X11_rank) (by decide) (fun g hg h9 => by first | exact hg.elim | (unfold ciH at h9; omega))
  have hn : Te (fun K => ce_X11_rank S.1 K 0 x1 x2 S.2.1) (fun rc => NM rc.2) := w_monoE (te_fo (te_in (c_rank h.1.1 (kc _ pc) (kr _ pr))) (fun K => ff_X11_rank)) (fun rc ⟨_, f⟩ => NM_fr f (fun g hg h9 => by first | exact hg.elim | omega) h.2)
  exact w_monoE (lsB_fo (w_monoE (lsB_nm hs0 hn) (fun S1 ⟨⟨q1, q2⟩, q3⟩ => (⟨⟨q1, q3⟩, q2⟩ : REL2 S1 ∧ dPhi S.1 ≤ dPhi S1.1))) (fun K => ff_X11_rank) (fun K => ff_X13_rank)) (fun S1 ⟨q, f1, f2⟩ => ⟨q, hc _ _ _ f1 (fun g hg h9 => by first | exact hg.elim | (unfold ciX at h9; omega)) pc, hr _ _ _ f2 (pf_rf (by decide)) pr⟩)
theorem CI_ch {vl' : Nat → Nat} {y1 : ow_MS} (hf : fr chG y y1) (hv : ∃ W C, vI vl' W C) (h : CI vl y) : CI vl' y1 := by
  obtain ⟨i1, ⟨C, c1, c2, c3⟩, i3, i4, i5, i6, i7, i8⟩ := h
  have no : ∀ g, 4012 ≤ g ∧ g ≤ 43001 ∨ g = 43005 ∨ 45000 ≤ g → ¬ chG g := fun g hg h9 => by unfold chG cmG cP at h9; omega
  exact ⟨knC_fr hf (fun g hg h9 => by unfold chG cmG cP at hg; omega) i1, ⟨C, slC_fr hf (fun q hq => no q (by unfold cW at hq; omega)) c1, c2, c3.imp id (fun ⟨A, sg, c, e, hT⟩ => ⟨A, sg, c, e, jnT_fr hf ⟨no _ (by omega), no _ (by omega), no _ (by omega)⟩ hT⟩)⟩, bnC_fr hf (fun m hm => no _ (by omega)) i3, mpC_fr hf ⟨no _ (by omega), no _ (by omega), no _ (by omega)⟩ i4, stP_fr hf (fun g hg => by unfold chG cmG cP at hg; omega) i5, tbP_fr hf (no _ (by omega)) i6, chP_fr hf (fun g hg => by unfold chG cmG cP at hg; omega) i7, hv⟩
theorem s3_chain {S : ow_LwS} {x1 x2 x3 x4 x5 : Int32} (h : REL2 S) (hRc : ∀ y y1, fr chG y y1 → Pc y → Pc y1) (hJ : ∀ y v, Pc y → Pc (usJ y 52001 0 v)) (hRr : ∀ z z1, fr (pf [1, 47, 81, 82, 83, 84, 85, 86, 87, 88, 89, 90, 91, 92, 93] []) z z1 → Pr z → Pr z1) (pc : Pc S.2.1) (pr : Pr S.2.2) (dc : tcD D S.2.1) (dr : trD D S.2.2) : Te (fun K => lst_chain S.1 K x1 x2 x3 x4 x5 S.2.1 S.2.2) (fun S1 => (REL2 S1 ∧ dPhi S.1 ≤ dPhi S1.1) ∧ Pc S1.2.1 ∧ Pr S1.2.2 ∧ ∃ D', tcD D' S1.2.1 ∧ trD D' S1.2.2) := by
  have hci := h.1.2.1
  obtain ⟨W, C, hv⟩ := hci.2.2.2.2.2.2.2
  obtain ⟨⟨a, zm⟩, ⟨b1, hb1⟩, ⟨k, v, vm, zc⟩, ⟨b2, hb2⟩, ⟨hR, ha⟩, hf, fR, hd, hW, hD0⟩ := c_chain (x := x1) (x' := x2) h.1.1 hv hci.2.2.2.2.2.1 hci.2.2.2.2.2.2.1
  have hb1 : ∀ K, b1 ≤ K → qe_X13_chain K x1 x2 S.2.2 = some (a, zm) := hb1
  have hb2 : ∀ K, b2 ≤ K → ce_X11_chain K 0 x1 x2 S.1 S.2.1 = some (k, v, vm, zc) := hb2
  have hR : rel3 XR zm zc := hR
  have hf : fr chG S.2.1 zc := hf
  have fR : fr (pf [1, 47, 81, 82, 83, 84, 85, 86, 87, 88, 89, 90, 91, 92, 93] []) S.2.2 zm := fR
  have hW : ∃ W' C', vI vm W' C' := hW
  have hd : dPhi S.1 ≤ dPhi vm := hd
  have hD : ∃ D', tcD D' zc ∧ trD D' zm := by
    rcases hD0 with ⟨d1, d2⟩ | h9
    · exact ⟨D, tcD_k d2 dc, trD_k d1 dr⟩
    · exact h9
  have hREL : REL (vm, zc, zm) := ⟨hR, CI_ch hf hW hci, jnR_fr fR (by decide) (by decide) h.1.2.2⟩
  have hNM : NM zc := NM_fr hf (fun g hg h9 => by unfold chG cmG cP at hg; omega) h.2
  have hpc : Pc zc := hRc _ _ hf pc
  have hpr : Pr zm := hRr _ _ fR pr
  rcases ha with ⟨t0, k0, e⟩ | ⟨j, k', hm, t0, k0⟩
  · have k0 : k = 0 := k0
    have e : a = v := e
    have t0 : zm.1 1 = 0 := t0
    subst k0
    subst e
    refine ⟨(vm, usJ zc 52001 0 a.toInt64, zm), ⟨b1 + b2, fun K hK => ?_⟩, ⟨⟨REL_J hREL, hNM⟩, hd⟩, hJ _ _ hpc, hpr, hD⟩
    show lst_chain S.1 K x1 x2 x3 x4 x5 S.2.1 S.2.2 = _
    unfold lst_chain le_L_chain
    rw [hb1 K (by omega), hb2 K (by omega)]
    show (if zm.1 1 = 0 then (if (0 : Int32) = 0 then _ else _) else none) = _
    rw [if_pos t0, if_pos rfl]
    show (if lg_cmp ((usJ zc 52001 0 a.toInt64).2.2 52001 0) a.toInt64 = 0 then some (vm, usJ zc 52001 0 a.toInt64, zm) else none) = _
    rw [if_pos ((lg_cmp_eq _ _).mpr usJ_at)]
  · have k0 : k = k' := k0
    have t0 : zm.1 1 = nI j := t0
    subst k0
    refine ⟨(vm, zc, zm), ⟨b1 + b2, fun K hK => ?_⟩, ⟨⟨hREL, hNM⟩, hd⟩, hpc, hpr, hD⟩
    simp only [List.mem_cons, List.not_mem_nil, or_false, Prod.mk.injEq] at hm
    show lst_chain S.1 K x1 x2 x3 x4 x5 S.2.1 S.2.2 = _
    unfold lst_chain le_L_chain
    rw [hb1 K (by omega), hb2 K (by omega)]
    rcases hm with ⟨rfl, rfl⟩ | ⟨rfl, rfl⟩ | ⟨rfl, rfl⟩
    · show (if zm.1 1 = 1 then (if (1 : Int32) = 0 then _ else some (vm, zc, zm)) else none) = _
      rw [if_pos (t0.trans (by decide)), if_neg (by decide)]
    · show (if zm.1 1 = 2 then (if (2 : Int32) = 0 then _ else some (vm, zc, zm)) else none) = _
      rw [if_pos (t0.trans (by decide)), if_neg (by decide)]
    · show (if zm.1 1 = 3 then (if (3 : Int32) = 0 then _ else some (vm, zc, zm)) else none) = _
      rw [if_pos (t0.trans (by decide)), if_neg (by decide)]
theorem m88_init {m1 m2 : ow_MS} {b : Nat} (hb : ∀ K, b ≤ K → qe_X13_makeSimples_a K Z13 = some m1 ∧ qe_X13_makePermutations_a K m1 = some m2) : (usZ m2 blM).1 88 = 0 := by
  have h2 : ∀ g i, g ≠ 73 → Z13.2.1 g i = 0 := fun g i hg => by
    show (if g = 73 then fT13 else fun _ => 0) i = 0
    rw [if_neg hg]
  obtain ⟨r1, ⟨b1, hb1⟩, ⟨hD, hf1⟩⟩ := tp_simE (z := Z13) (fun n _ => h2 100 _ (by omega))
  have er1 : r1 = m1 := Option.some.inj ((hb1 (b + b1) (by omega)).symm.trans (hb (b + b1) (by omega)).1)
  subst er1
  have m1I : ∀ g i, ¬ (97 ≤ g ∧ g ≤ 107) → g ≠ 73 → r1.2.1 g i = 0 := fun g i hg h9 => by
    rw [(hf1 g hg).2.1]
    exact h2 g i h9
  obtain ⟨r2, ⟨b2, hb2⟩, -, hf2⟩ := tp_perms_a (z := r1) ⟨fun i => ⟨0, by omega, m1I 74 i (by omega) (by omega)⟩, fun m g1 g4 o p ho hp => ⟨⟨0, by omega, m1I 75 _ (by omega) (by omega)⟩, 0, by omega, m1I 76 _ (by omega) (by omega)⟩⟩
  have er2 : r2 = m2 := Option.some.inj ((hb2 (b + b2) (by omega)).symm.trans (hb (b + b2) (by omega)).2)
  subst er2
  show (if blM.contains (88 / 1000) = true then (0 : Int32) else r2.1 88) = 0
  rw [if_neg (by decide), (hf2 88 (by unfold pmP; omega)).1, (hf1 88 (show ¬ (97 ≤ 88 ∧ 88 ≤ 107) by omega)).1]
  rfl
end XCL5
end
section
/-! 99zzzzzzzzzzzzzzzzyzz.xcio -/
/-! the loop, with a joint relation of the tables of chain: PureAll from three cases -/
abbrev tbT := Int → Int → Int
def rlJ9 (Pc Pr : tbT → ow_MS → Prop) (S : ow_LwS) : Prop := ∃ E, rel9 (Pc E) (Pr E) S
section XCL6
variable {Pc Pr : tbT → ow_MS → Prop}
theorem stJ9 {f : Nat → Option ow_LwS} {A : ow_LwS → Prop} {E : tbT} (h : Te f (fun S1 => rel9 (Pc E) (Pr E) S1 ∧ A S1)) : Te f (fun S1 => rlJ9 Pc Pr S1 ∧ A S1) := w_monoE h (fun S1 q => ⟨⟨E, q.1⟩, q.2⟩)
theorem tcD_fr {P : Nat → Prop} {E : tbT} {y y1 : ow_MS} (hf : fr P y y1) (h1 : ¬ P 43018) (h2 : ¬ P 43019) (h3 : ¬ P 43020) (h : tcD E y) : tcD E y1 := tcD_k (tkC_fr hf h1 h2 h3) h
theorem trD_fr {P : Nat → Prop} {E : tbT} {z z1 : ow_MS} (hf : fr P z z1) (h1 : ¬ P 87) (h2 : ¬ P 88) (h : trD E z) : trD E z1 := trD_k (tkR_fr hf h1 h2) h
variable {Qc Qr : ow_MS → Prop}
theorem kc_D (hc : keepP ciX Qc) (E : tbT) : keepP ciX (fun y => tcD E y ∧ Qc y) := fun F y y1 hf hF h => ⟨tcD_fr hf (fun h9 => hF _ h9 (by unfold ciX; omega)) (fun h9 => hF _ h9 (by unfold ciX; omega)) (fun h9 => hF _ h9 (by unfold ciX; omega)) h.1, hc F y y1 hf hF h.2⟩
theorem kr_D (hr : keepP rfX Qr) (E : tbT) : keepP rfX (fun z => trD E z ∧ Qr z) := fun F z z1 hf hF h => ⟨trD_fr hf (fun h9 => hF _ h9 (by unfold rfX; omega)) (fun h9 => hF _ h9 (by unfold rfX; omega)) h.1, hr F z z1 hf hF h.2⟩
end XCL6
end
section
/-! 99zzzzzzzzzzzzzzzzyzza.xsg1 -/
/-! signature: Newton by squares; changes of sign -/
section XSG1
end XSG1
end
section
/-! 99zzzzzzzzzzzzzzzzyzzb.xsg2 -/
/-! signature: changes of sign -/
abbrev opp9 (a b : Int) : Prop := (0 < a ∧ b < 0) ∨ (a < 0 ∧ 0 < b)
/-- how often the sign changes up to n, and the last number that is not 0 -/
def wv9 (e : Nat → Int) : Nat → Nat × Int
  | 0 => (0, e 0)
  | n + 1 => if e (n + 1) = 0 then wv9 e n else ((wv9 e n).1 + (if opp9 (wv9 e n).2 (e (n + 1)) then 1 else 0), e (n + 1))
/-- a chain of numbers of other sign each, from place 0 to j -/
def ac9 (e : Nat → Int) : Nat → Nat → Prop
  | 0, j => j = 0 ∧ e 0 ≠ 0
  | v + 1, j => ∃ i, i < j ∧ ac9 e v i ∧ opp9 (e i) (e j)
section XSG2
variable {e f : Nat → Int}
theorem wv_z {n : Nat} (h : e (n + 1) = 0) : wv9 e (n + 1) = wv9 e n := if_pos h
theorem wv_s {n : Nat} (h : e (n + 1) ≠ 0) : wv9 e (n + 1) = ((wv9 e n).1 + (if opp9 (wv9 e n).2 (e (n + 1)) then 1 else 0), e (n + 1)) := if_neg h
theorem wv_up {i : Nat} (h0 : (wv9 e i).2 ≠ 0) : ∀ m, i ≤ m → (wv9 e m).2 ≠ 0 ∧ (wv9 e i).1 ≤ (wv9 e m).1 ∧ (opp9 (wv9 e i).2 (wv9 e m).2 → (wv9 e i).1 + 1 ≤ (wv9 e m).1) := by
  intro m
  induction m with
  | zero =>
    intro h
    have h : i = 0 := by omega
    subst h
    exact ⟨h0, Nat.le_refl _, fun h9 => by unfold opp9 at h9; omega⟩
  | succ m ih =>
    intro h
    by_cases hi : i = m + 1
    · subst hi
      exact ⟨h0, Nat.le_refl _, fun h9 => by unfold opp9 at h9; omega⟩
    · obtain ⟨a, b, c⟩ := ih (by omega)
      by_cases hz : e (m + 1) = 0
      · rw [wv_z hz]
        exact ⟨a, b, c⟩
      · rw [wv_s hz]
        refine ⟨hz, ?_, fun h9 => ?_⟩
        · show _ ≤ (wv9 e m).1 + _
          omega
        · show _ ≤ (wv9 e m).1 + _
          have h9 : opp9 (wv9 e i).2 (e (m + 1)) := h9
          by_cases ho : opp9 (wv9 e m).2 (e (m + 1))
          · rw [if_pos ho]
            omega
          · have := c (by unfold opp9 at *; omega)
            omega
theorem ac_wv : ∀ {v j : Nat}, ac9 e v j → v ≤ (wv9 e j).1 ∧ (wv9 e j).2 = e j ∧ e j ≠ 0 := by
  intro v
  induction v with
  | zero =>
    rintro j ⟨rfl, h⟩
    exact ⟨Nat.zero_le _, rfl, h⟩
  | succ v ih =>
    rintro j ⟨i, hi, ha, ho⟩
    obtain ⟨a, b, c⟩ := ih ha
    have hj : e j ≠ 0 := fun h9 => by unfold opp9 at ho; omega
    have hl : (wv9 e j).2 = e j := by
      cases j with
      | zero => rfl
      | succ j => rw [wv_s hj]
    obtain ⟨-, -, u⟩ := wv_up (i := i) (by rw [b]; exact c) j (by omega)
    have := u (by rw [b, hl]; exact ho)
    exact ⟨by omega, hl, hj⟩
theorem ac_le {v j n : Nat} (h : ac9 e v j) (hj : j ≤ n) : v ≤ (wv9 e n).1 := by
  obtain ⟨a, b, c⟩ := ac_wv h
  have := (wv_up (i := j) (by rw [b]; exact c) n hj).2.1
  omega
theorem mul_pp {a b : Int} (h : 0 < a * b) : (0 < a ∧ 0 < b) ∨ (a < 0 ∧ b < 0) := by
  rcases Int.lt_trichotomy a 0 with ha | ha | ha
  · rcases Int.lt_trichotomy b 0 with hb | hb | hb
    · exact Or.inr ⟨ha, hb⟩
    · rw [hb, Int.mul_zero] at h
      omega
    · have := Int.mul_neg_of_neg_of_pos ha hb
      omega
  · rw [ha, Int.zero_mul] at h
    omega
  · rcases Int.lt_trichotomy b 0 with hb | hb | hb
    · have := Int.mul_neg_of_pos_of_neg ha hb
      omega
    · rw [hb, Int.mul_zero] at h
      omega
    · exact Or.inl ⟨ha, hb⟩
/-- LEMMA Z -/
theorem zet9 (h0 : 0 < e 0) (g0 : 0 < f 0) (h : ∀ k, f (k + 1) ≠ 0 → 0 < e (k + 1) * f (k + 1) - e (k + 2) * f k) : ∀ n, (wv9 f n).1 ≤ (wv9 e (n + 1)).1 := by
  have key : ∀ n, ∃ q j, q ≤ n ∧ (wv9 f n).2 = f q ∧ f q ≠ 0 ∧ (∀ i, q < i → i ≤ n → f i = 0) ∧ j ≤ q + 1 ∧ ac9 e (wv9 f n).1 j ∧ ((0 < e j ∧ 0 < f q) ∨ (e j < 0 ∧ f q < 0)) := by
    intro n
    induction n with
    | zero => exact ⟨0, 0, Nat.le_refl _, rfl, by omega, fun i h1 h2 => absurd h1 (by omega), by omega, ⟨rfl, by omega⟩, Or.inl ⟨h0, g0⟩⟩
    | succ n ih =>
      obtain ⟨q, j, q1, q2, q3, q4, j1, j2, j3⟩ := ih
      by_cases hz : f (n + 1) = 0
      · rw [wv_z hz]
        refine ⟨q, j, by omega, q2, q3, fun i h1 h2 => ?_, j1, j2, j3⟩
        by_cases hi : i = n + 1
        · rw [hi]
          exact hz
        · exact q4 i h1 (by omega)
      · rw [wv_s hz]
        by_cases ho : opp9 (wv9 f n).2 (f (n + 1))
        · rw [q2] at ho
          have hp := h n hz
          have hj : ∃ j', n + 1 ≤ j' ∧ j' ≤ n + 2 ∧ ((0 < e j' ∧ 0 < f (n + 1)) ∨ (e j' < 0 ∧ f (n + 1) < 0)) := by
            by_cases hn : f n = 0
            · rw [hn, Int.mul_zero, Int.sub_zero] at hp
              exact ⟨n + 1, by omega, by omega, mul_pp hp⟩
            · have hq : q = n := by
                rcases Nat.lt_or_ge q n with h9 | h9
                · exact absurd (q4 n h9 (Nat.le_refl _)) hn
                · omega
              subst hq
              by_cases hs : 0 < e (q + 1) * f (q + 1)
              · exact ⟨q + 1, by omega, by omega, mul_pp hs⟩
              · have hm : 0 < e (q + 2) * -f q := by
                  rw [Int.mul_neg]
                  omega
                have := mul_pp hm
                exact ⟨q + 2, by omega, by omega, by unfold opp9 at ho; omega⟩
          obtain ⟨j', a1, a2, a3⟩ := hj
          have hne : j ≠ j' := fun h9 => by
            subst h9
            unfold opp9 at ho
            omega
          refine ⟨n + 1, j', Nat.le_refl _, rfl, hz, fun i h1 h2 => absurd h1 (by omega), by omega, ?_, a3⟩
          show ac9 e ((wv9 f n).1 + (if opp9 (wv9 f n).2 (f (n + 1)) then 1 else 0)) j'
          rw [if_pos (by rw [q2]; exact ho)]
          exact ⟨j, by omega, j2, by unfold opp9 at *; omega⟩
        · refine ⟨n + 1, j, Nat.le_refl _, rfl, hz, fun i h1 h2 => absurd h1 (by omega), by omega, ?_, ?_⟩
          · show ac9 e ((wv9 f n).1 + (if opp9 (wv9 f n).2 (f (n + 1)) then 1 else 0)) j
            rw [if_neg ho]
            exact j2
          · rw [q2] at ho
            unfold opp9 at ho
            omega
  intro n
  obtain ⟨q, j, q1, q2, q3, q4, j1, j2, j3⟩ := key n
  exact ac_le j2 (by omega)
end XSG2
end
section
/-! 99zzzzzzzzzzzzzzzzyzzc.xsg3 -/
/-! signature: both counts of changes together; parity -/
def tw9 (e : Nat → Int) (k : Nat) : Int := if k % 2 = 0 then e k else -e k
section XSG3
variable {e f : Nat → Int}
theorem tw_z {k : Nat} : tw9 e k = 0 ↔ e k = 0 := by
  unfold tw9
  split <;> omega
theorem tw_e {k : Nat} (h : k % 2 = 0) : tw9 e k = e k := if_pos h
theorem tw_o {k : Nat} (h : k % 2 = 1) : tw9 e k = -e k := if_neg (by omega)
/-- both counts: at most the last place that is not 0 -/
theorem vv_le (h0 : e 0 ≠ 0) : ∀ n, ∃ q, q ≤ n ∧ (wv9 e n).2 = e q ∧ (wv9 (tw9 e) n).2 = tw9 e q ∧ e q ≠ 0 ∧ (∀ i, q < i → i ≤ n → e i = 0) ∧ (wv9 e n).1 + (wv9 (tw9 e) n).1 ≤ q := by
  intro n
  induction n with
  | zero => exact ⟨0, Nat.le_refl _, rfl, rfl, h0, fun i h1 h2 => absurd h1 (by omega), Nat.le_refl 0⟩
  | succ n ih =>
    obtain ⟨q, q1, q2, q3, q4, q5, q6⟩ := ih
    by_cases hz : e (n + 1) = 0
    · rw [wv_z hz, wv_z (tw_z.mpr hz)]
      refine ⟨q, by omega, q2, q3, q4, fun i h1 h2 => ?_, q6⟩
      by_cases hi : i = n + 1
      · rw [hi]
        exact hz
      · exact q5 i h1 (by omega)
    · rw [wv_s hz, wv_s (fun h9 => hz (tw_z.mp h9))]
      refine ⟨n + 1, Nat.le_refl _, rfl, rfl, hz, fun i h1 h2 => absurd h1 (by omega), ?_⟩
      show (wv9 e n).1 + (if opp9 (wv9 e n).2 (e (n + 1)) then 1 else 0) + ((wv9 (tw9 e) n).1 + (if opp9 (wv9 (tw9 e) n).2 (tw9 e (n + 1)) then 1 else 0)) ≤ n + 1
      rw [q2, q3]
      by_cases hd : q + 1 = n + 1
      · have hx : ¬ (opp9 (e q) (e (n + 1)) ∧ opp9 (tw9 e q) (tw9 e (n + 1))) := by
          rintro ⟨a, b⟩
          rcases Nat.mod_two_eq_zero_or_one q with h9 | h9
          · rw [tw_e h9, tw_o (show (n + 1) % 2 = 1 by omega)] at b
            unfold opp9 at a b
            omega
          · rw [tw_o h9, tw_e (show (n + 1) % 2 = 0 by omega)] at b
            unfold opp9 at a b
            omega
        by_cases ha : opp9 (e q) (e (n + 1))
        · rw [if_pos ha, if_neg (fun hb => hx ⟨ha, hb⟩)]
          omega
        · rw [if_neg ha]
          split <;> omega
      · split <;> split <;> omega
theorem wv_par (h0 : 0 < e 0) : ∀ n, (wv9 e n).2 ≠ 0 ∧ ((wv9 e n).1 % 2 = 1 ↔ (wv9 e n).2 < 0) := by
  intro n
  induction n with
  | zero =>
    show e 0 ≠ 0 ∧ (0 % 2 = 1 ↔ e 0 < 0)
    omega
  | succ n ih =>
    by_cases hz : e (n + 1) = 0
    · rw [wv_z hz]
      exact ih
    · rw [wv_s hz]
      refine ⟨hz, ?_⟩
      show ((wv9 e n).1 + (if opp9 (wv9 e n).2 (e (n + 1)) then 1 else 0)) % 2 = 1 ↔ e (n + 1) < 0
      by_cases ho : opp9 (wv9 e n).2 (e (n + 1))
      · rw [if_pos ho]
        unfold opp9 at ho
        omega
      · rw [if_neg ho]
        unfold opp9 at ho
        omega
/-- the step of the induction, in numbers: f has the counts a, b with a + b = its last place; e goes one further -/
theorem zet_tw (h0 : 0 < e 0) (g0 : 0 < f 0) (h : ∀ k, f (k + 1) ≠ 0 → 0 < e (k + 1) * f (k + 1) - e (k + 2) * f k) (n : Nat) : (wv9 f n).1 ≤ (wv9 e (n + 1)).1 ∧ (wv9 (tw9 f) n).1 ≤ (wv9 (tw9 e) (n + 1)).1 := by
  refine ⟨zet9 h0 g0 h n, zet9 (e := tw9 e) (f := tw9 f) (by rw [tw_e rfl]; exact h0) (by rw [tw_e rfl]; exact g0) (fun k hk => ?_) n⟩
  have := h k (fun h9 => hk (tw_z.mpr h9))
  rcases Nat.mod_two_eq_zero_or_one k with h9 | h9
  · rw [tw_o (show (k + 1) % 2 = 1 by omega), tw_o (show (k + 1) % 2 = 1 by omega), tw_e (show (k + 2) % 2 = 0 by omega), tw_e h9, Int.neg_mul_neg]
    exact this
  · rw [tw_e (show (k + 1) % 2 = 0 by omega), tw_e (show (k + 1) % 2 = 0 by omega), tw_o (show (k + 2) % 2 = 1 by omega), tw_o h9, Int.neg_mul_neg]
    exact this
end XSG3
end
section
/-! 99zzzzzzzzzzzzzzzzyzzd.xsg4 -/
/-! signature: a diagonal matrix with a border -/
section XSG4
end XSG4
end
section
/-! 99zzzzzzzzzzzzzzzzyzze.xsg5 -/
/-! signature: coefficients by bordering -/
abbrev mQ99 := Nat → Nat → Rat
def qS9 (f : Nat → Rat) : Nat → Rat
  | 0 => 0
  | n + 1 => qS9 f n + f n
/-- a matrix times a column -/
def qV9 (n : Nat) (A : mQ99) (w : Nat → Rat) (i : Nat) : Rat := qS9 (fun k => A i k * w k) n
/-- a row times a column -/
def qD9 (n : Nat) (v w : Nat → Rat) : Rat := qS9 (fun k => v k * w k) n
/-- N_j times a column, for coefficients E -/
def qN9 (n : Nat) (A : mQ99) (E : Nat → Rat) (w : Nat → Rat) : Nat → Nat → Rat
  | 0 => w
  | j + 1 => fun i => E (j + 1) * w i - qV9 n A (qN9 n A E w j) i
/-- the coefficients of the first n rows and columns -/
def qE9 (A : mQ99) : Nat → Nat → Rat
  | 0, k => if k = 0 then 1 else 0
  | n + 1, 0 => 1
  | n + 1, 1 => qE9 A n 1 + A n n
  | n + 1, k + 2 => qE9 A n (k + 2) + A n n * qE9 A n (k + 1) - qD9 n (A n) (qN9 n A (qE9 A n) (fun i => A i n) k)
def dl9 (n i : Nat) : Rat := if i = n then 1 else 0
section XSG5
theorem qS_cg {f g : Nat → Rat} : ∀ {n : Nat}, (∀ i, i < n → f i = g i) → qS9 f n = qS9 g n := by
  intro n
  induction n with
  | zero => exact fun _ => rfl
  | succ n ih =>
    intro h
    show qS9 f n + f n = qS9 g n + g n
    rw [ih (fun i hi => h i (by omega)), h n (by omega)]
theorem qS_neg {f : Nat → Rat} : ∀ {n : Nat}, qS9 (fun i => -f i) n = -qS9 f n := by
  intro n
  induction n with
  | zero => exact Rat.neg_zero.symm
  | succ n ih =>
    show qS9 (fun i => -f i) n + -f n = -(qS9 f n + f n)
    rw [ih]
    grind
theorem qS_0 : ∀ {n : Nat}, qS9 (fun _ => 0) n = 0 := by
  intro n
  induction n with
  | zero => rfl
  | succ n ih =>
    show qS9 (fun _ => 0) n + 0 = 0
    rw [ih]
    exact Rat.add_zero 0
theorem qE_0 {A : mQ99} : ∀ {n : Nat}, qE9 A n 0 = 1 := by
  intro n
  cases n with
  | zero => rfl
  | succ n => rfl
/-- the column of N_j at the border -/
theorem qN_col {n : Nat} {A : mQ99} : ∀ j, qN9 (n + 1) A (qE9 A (n + 1)) (dl9 n) j n = qE9 A n j ∧ ∀ i, i < n → qN9 (n + 1) A (qE9 A (n + 1)) (dl9 n) j i = if j = 0 then 0 else -qN9 n A (qE9 A n) (fun i => A i n) (j - 1) i := by
  have d0 : dl9 n n = 1 := if_pos rfl
  have d1 : ∀ i, i < n → dl9 n i = 0 := fun i hi => if_neg (by omega)
  intro j
  induction j with
  | zero =>
    refine ⟨?_, fun i hi => ?_⟩
    · show dl9 n n = qE9 A n 0
      rw [d0, qE_0]
    · rw [if_pos rfl]
      exact d1 i hi
  | succ j ih =>
    obtain ⟨a, b⟩ := ih
    cases j with
    | zero =>
      have e : ∀ i, qV9 (n + 1) A (qN9 (n + 1) A (qE9 A (n + 1)) (dl9 n) 0) i = A i n := fun i => by
        show qS9 (fun k => A i k * dl9 n k) n + A i n * dl9 n n = A i n
        rw [d0, qS_cg (g := fun _ => 0) (fun k hk => by rw [d1 k hk]; exact Rat.mul_zero _), qS_0]
        grind
      refine ⟨?_, fun i hi => ?_⟩
      · show (qE9 A n 1 + A n n) * dl9 n n - qV9 (n + 1) A (qN9 (n + 1) A (qE9 A (n + 1)) (dl9 n) 0) n = qE9 A n 1
        rw [e, d0]
        grind
      · rw [if_neg (by omega)]
        show (qE9 A n 1 + A n n) * dl9 n i - qV9 (n + 1) A (qN9 (n + 1) A (qE9 A (n + 1)) (dl9 n) 0) i = -(A i n)
        rw [e, d1 i hi]
        grind
    | succ j =>
      have e : ∀ i, qV9 (n + 1) A (qN9 (n + 1) A (qE9 A (n + 1)) (dl9 n) (j + 1)) i = -qS9 (fun k => A i k * qN9 n A (qE9 A n) (fun i => A i n) j k) n + A i n * qE9 A n (j + 1) := fun i => by
        show qS9 (fun k => A i k * qN9 (n + 1) A (qE9 A (n + 1)) (dl9 n) (j + 1) k) n + A i n * qN9 (n + 1) A (qE9 A (n + 1)) (dl9 n) (j + 1) n = _
        rw [a, ← qS_neg]
        refine congrArg (fun s => s + A i n * qE9 A n (j + 1)) (qS_cg (fun k hk => ?_))
        rw [b k hk, if_neg (by omega)]
        show A i k * -qN9 n A (qE9 A n) (fun i => A i n) j k = _
        grind
      refine ⟨?_, fun i hi => ?_⟩
      · show (qE9 A n (j + 2) + A n n * qE9 A n (j + 1) - qD9 n (A n) (qN9 n A (qE9 A n) (fun i => A i n) j)) * dl9 n n - qV9 (n + 1) A (qN9 (n + 1) A (qE9 A (n + 1)) (dl9 n) (j + 1)) n = qE9 A n (j + 2)
        rw [e, d0]
        unfold qD9
        grind
      · rw [if_neg (by omega)]
        show qE9 A (n + 1) (j + 2) * dl9 n i - qV9 (n + 1) A (qN9 (n + 1) A (qE9 A (n + 1)) (dl9 n) (j + 1)) i = -(qE9 A n (j + 1) * A i n - qS9 (fun k => A i k * qN9 n A (qE9 A n) (fun i => A i n) j k) n)
        rw [e, d1 i hi]
        grind
end XSG5
end
section
/-! 99zzzzzzzzzzzzzzzzyzzf.xsg6 -/
/-! signature: what lemma Z wants, by bordering -/
/-- e_j N_j - e_(j+1) N_(j-1) times a column -/
def qW9 (n : Nat) (A : mQ99) (E : Nat → Rat) (w : Nat → Rat) (j i : Nat) : Rat := E j * qN9 n A E w j i - E (j + 1) * (if j = 0 then 0 else qN9 n A E w (j - 1) i)
section XSG6
variable {n : Nat} {A : mQ99}
theorem qS_add {f g : Nat → Rat} : ∀ {n : Nat}, qS9 (fun i => f i + g i) n = qS9 f n + qS9 g n := by
  intro n
  induction n with
  | zero => exact (Rat.add_zero 0).symm
  | succ n ih =>
    show qS9 (fun i => f i + g i) n + (f n + g n) = qS9 f n + f n + (qS9 g n + g n)
    rw [ih]
    grind
theorem qS_mul {c : Rat} {f : Nat → Rat} : ∀ {n : Nat}, qS9 (fun i => c * f i) n = c * qS9 f n := by
  intro n
  induction n with
  | zero => exact (Rat.mul_zero c).symm
  | succ n ih =>
    show qS9 (fun i => c * f i) n + c * f n = c * (qS9 f n + f n)
    rw [ih]
    grind
theorem qD_lin {v x y : Nat → Rat} {a b : Rat} : qD9 n v (fun i => a * x i - b * y i) = a * qD9 n v x - b * qD9 n v y := by
  unfold qD9
  rw [qS_cg (g := fun k => a * (v k * x k) + -b * (v k * y k)) (fun k _ => by grind), qS_add, qS_mul, qS_mul]
  grind
/-- e_k(A^) e_k(A) - e_(k+1)(A^) e_(k-1)(A) = U_k(A) + v W_(k-1)(A) w -/
theorem qQ_s (k : Nat) : qE9 A (n + 1) (k + 1) * qE9 A n (k + 1) - qE9 A (n + 1) (k + 2) * qE9 A n k = (qE9 A n (k + 1) * qE9 A n (k + 1) - qE9 A n (k + 2) * qE9 A n k) + qD9 n (A n) (qW9 n A (qE9 A n) (fun i => A i n) k) := by
  cases k with
  | zero =>
    have e : qD9 n (A n) (qW9 n A (qE9 A n) (fun i => A i n) 0) = qD9 n (A n) (fun i => A i n) := by
      unfold qD9
      refine qS_cg (fun i hi => ?_)
      show A n i * (qE9 A n 0 * A i n - qE9 A n 1 * 0) = A n i * A i n
      rw [qE_0]
      grind
    rw [e, qE_0]
    show (qE9 A n 1 + A n n) * qE9 A n 1 - (qE9 A n 2 + A n n * qE9 A n 1 - qD9 n (A n) (fun i => A i n)) * 1 = _
    grind
  | succ k =>
    have e : qD9 n (A n) (qW9 n A (qE9 A n) (fun i => A i n) (k + 1)) = qE9 A n (k + 1) * qD9 n (A n) (qN9 n A (qE9 A n) (fun i => A i n) (k + 1)) - qE9 A n (k + 2) * qD9 n (A n) (qN9 n A (qE9 A n) (fun i => A i n) k) := qD_lin
    rw [e]
    show (qE9 A n (k + 2) + A n n * qE9 A n (k + 1) - qD9 n (A n) (qN9 n A (qE9 A n) (fun i => A i n) k)) * qE9 A n (k + 2) - (qE9 A n (k + 3) + A n n * qE9 A n (k + 2) - qD9 n (A n) (qN9 n A (qE9 A n) (fun i => A i n) (k + 1))) * qE9 A n (k + 1) = _
    grind
/-- the corner of W at the border -/
theorem qW_cor (k : Nat) : qW9 (n + 1) A (qE9 A (n + 1)) (dl9 n) (k + 1) n = qE9 A (n + 1) (k + 1) * qE9 A n (k + 1) - qE9 A (n + 1) (k + 2) * qE9 A n k := by
  unfold qW9
  rw [if_neg (by omega), (qN_col (k + 1)).1]
  show _ - qE9 A (n + 1) (k + 2) * qN9 (n + 1) A (qE9 A (n + 1)) (dl9 n) k n = _
  rw [(qN_col k).1]
end XSG6
end
section
/-! 99zzzzzzzzzzzzzzzzyzzg.xsg7 -/
/-! signature: N_j as a sum of powers -/
def qA9 (n : Nat) (A : mQ99) (w : Nat → Rat) : Nat → Nat → Rat
  | 0 => w
  | i + 1 => qV9 n A (qA9 n A w i)
def sn9 (i : Nat) : Rat := if i % 2 = 0 then 1 else -1
section XSG7
variable {n : Nat} {A : mQ99} {w : Nat → Rat}
theorem sn_s {i : Nat} : sn9 (i + 1) = -sn9 i := by
  unfold sn9
  rcases Nat.mod_two_eq_zero_or_one i with h | h
  · rw [if_pos h, if_neg (by omega)]
  · rw [if_pos (show (i + 1) % 2 = 0 by omega), if_neg (show ¬ i % 2 = 0 by omega)]
    grind
theorem qS_hd {f : Nat → Rat} : ∀ {m : Nat}, qS9 f (m + 1) = f 0 + qS9 (fun i => f (i + 1)) m := by
  intro m
  induction m with
  | zero =>
    show (0 : Rat) + f 0 = f 0 + 0
    grind
  | succ m ih =>
    show qS9 f (m + 1) + f (m + 1) = f 0 + (qS9 (fun i => f (i + 1)) m + f (m + 1))
    rw [ih]
    grind
theorem qS_sw {f : Nat → Nat → Rat} {m : Nat} : ∀ {k : Nat}, qS9 (fun i => qS9 (fun j => f i j) m) k = qS9 (fun j => qS9 (fun i => f i j) k) m := by
  intro k
  induction k with
  | zero => exact (qS_0).symm
  | succ k ih =>
    show qS9 (fun i => qS9 (fun j => f i j) m) k + qS9 (fun j => f k j) m = qS9 (fun j => qS9 (fun i => f i j) k + f k j) m
    rw [ih, qS_add]
theorem qV_sum {c : Nat → Rat} {x : Nat → Nat → Rat} {m i : Nat} : qV9 n A (fun k => qS9 (fun l => c l * x l k) m) i = qS9 (fun l => c l * qV9 n A (x l) i) m := by
  unfold qV9
  have e1 : ∀ k, k < n → A i k * qS9 (fun l => c l * x l k) m = qS9 (fun l => c l * (A i k * x l k)) m := fun k _ => by
    rw [← qS_mul]
    exact qS_cg (fun l _ => by grind)
  rw [qS_cg e1, qS_sw]
  exact qS_cg (fun l _ => qS_mul)
theorem qN_poly {E : Nat → Rat} (h0 : E 0 = 1) : ∀ j, qN9 n A E w j = fun i => qS9 (fun l => (sn9 l * E (j - l)) * qA9 n A w l i) (j + 1) := by
  intro j
  induction j with
  | zero =>
    funext i
    show w i = 0 + (sn9 0 * E 0) * w i
    rw [h0, show sn9 0 = 1 from rfl]
    grind
  | succ j ih =>
    funext i
    show E (j + 1) * w i - qV9 n A (qN9 n A E w j) i = _
    rw [ih, qV_sum, qS_hd (m := j + 1) (f := fun l => (sn9 l * E (j + 1 - l)) * qA9 n A w l i)]
    have e : qS9 (fun l => (sn9 (l + 1) * E (j + 1 - (l + 1))) * qA9 n A w (l + 1) i) (j + 1) = -qS9 (fun l => (sn9 l * E (j - l)) * qV9 n A (qA9 n A w l) i) (j + 1) := by
      rw [← qS_neg]
      refine qS_cg (fun l _ => ?_)
      rw [sn_s, show j + 1 - (l + 1) = j - l by omega]
      show -sn9 l * E (j - l) * qV9 n A (qA9 n A w l) i = _
      grind
    rw [e, show sn9 0 = 1 from rfl]
    show E (j + 1) * w i - _ = 1 * E (j + 1) * w i + _
    grind
end XSG7
end
section
/-! 99zzzzzzzzzzzzzzzzyzzh.xsg8 -/
/-! signature: traces -/
/-- the trace of the i-th power -/
def qT9 (n : Nat) (A : mQ99) (i : Nat) : Rat := qS9 (fun c => qA9 n A (dl9 c) i c) n
section XSG8
variable {n : Nat} {A : mQ99} {E : Nat → Rat}
theorem tr_N (h0 : E 0 = 1) (j : Nat) : qS9 (fun c => qN9 n A E (dl9 c) j c) n = qS9 (fun l => (sn9 l * E (j - l)) * qT9 n A l) (j + 1) := by
  have e1 : ∀ c, c < n → qN9 n A E (dl9 c) j c = qS9 (fun l => (sn9 l * E (j - l)) * qA9 n A (dl9 c) l c) (j + 1) := fun c _ => by rw [qN_poly h0]
  rw [qS_cg e1, qS_sw]
  exact qS_cg (fun l _ => qS_mul)
theorem tr_0 : ∀ {n : Nat}, qT9 n A 0 = (n : Rat) := by
  intro n
  have key : ∀ m, qS9 (fun c => qA9 n A (dl9 c) 0 c) m = (m : Rat) := by
    intro m
    induction m with
    | zero => rfl
    | succ m ih =>
      show qS9 (fun c => qA9 n A (dl9 c) 0 c) m + dl9 m m = ((m + 1 : Nat) : Rat)
      rw [ih, show dl9 m m = 1 from if_pos rfl]
      simp
  exact key n
end XSG8
end
section
/-! 99zzzzzzzzzzzzzzzzyzzi.xsg9 -/
/-! signature: sums over triangles -/
section XSG9
variable {n : Nat} {A : mQ99} {E w : Nat → Rat}
theorem qA_add {i : Nat} : ∀ l, qA9 n A (qA9 n A w i) l = qA9 n A w (i + l) := by
  intro l
  induction l with
  | zero => rfl
  | succ l ih =>
    show qV9 n A (qA9 n A (qA9 n A w i) l) = qV9 n A (qA9 n A w (i + l))
    rw [ih]
theorem sn_add {i : Nat} : ∀ l, sn9 i * sn9 l = sn9 (i + l) := by
  intro l
  induction l with
  | zero =>
    rw [show sn9 0 = 1 from rfl]
    exact Rat.mul_one _
  | succ l ih =>
    rw [sn_s, show i + (l + 1) = i + l + 1 from rfl, sn_s, ← ih]
    grind
theorem qS_c {c : Rat} : ∀ m, qS9 (fun _ => c) m = (m : Rat) * c := by
  intro m
  induction m with
  | zero =>
    show (0 : Rat) = ((0 : Nat) : Rat) * c
    simp
  | succ m ih =>
    show qS9 (fun _ => c) m + c = ((m + 1 : Nat) : Rat) * c
    rw [ih, show ((m + 1 : Nat) : Rat) = (m : Rat) + 1 by simp]
    grind
theorem qS_tri {g : Nat → Rat} : ∀ m, qS9 (fun i => qS9 (fun l => g (i + l)) (m - i + 1)) (m + 1) = qS9 (fun s => ((s : Rat) + 1) * g s) (m + 1) := by
  intro m
  induction m with
  | zero =>
    show (0 : Rat) + (0 + g (0 + 0)) = 0 + (((0 : Nat) : Rat) + 1) * g 0
    simp
    grind
  | succ m ih =>
    have e1 : qS9 (fun i => qS9 (fun l => g (i + l)) (m + 1 - i + 1)) (m + 1) = qS9 (fun i => qS9 (fun l => g (i + l)) (m - i + 1)) (m + 1) + qS9 (fun _ => g (m + 1)) (m + 1) := by
      rw [← qS_add]
      refine qS_cg (fun i hi => ?_)
      rw [show m + 1 - i + 1 = m - i + 1 + 1 by omega]
      show qS9 (fun l => g (i + l)) (m - i + 1) + g (i + (m - i + 1)) = _
      rw [show i + (m - i + 1) = m + 1 by omega]
    have e2 : qS9 (fun l => g (m + 1 + l)) (m + 1 - (m + 1) + 1) = g (m + 1) := by
      rw [show m + 1 - (m + 1) + 1 = 1 by omega]
      show (0 : Rat) + g (m + 1 + 0) = g (m + 1)
      exact Rat.zero_add _
    show qS9 (fun i => qS9 (fun l => g (i + l)) (m + 1 - i + 1)) (m + 1) + qS9 (fun l => g (m + 1 + l)) (m + 1 - (m + 1) + 1) = qS9 (fun s => ((s : Rat) + 1) * g s) (m + 1) + (((m + 1 : Nat) : Rat) + 1) * g (m + 1)
    rw [e1, e2, ih, qS_c]
    grind
/-- sum (-1)^i N_(m-i) A^i = sum (-1)^s (s + 1) e_(m-s) A^s -/
theorem qN_A (h0 : E 0 = 1) (m x : Nat) : qS9 (fun i => sn9 i * qN9 n A E (qA9 n A w i) (m - i) x) (m + 1) = qS9 (fun s => ((s : Rat) + 1) * (sn9 s * E (m - s) * qA9 n A w s x)) (m + 1) := by
  rw [← qS_tri (g := fun s => sn9 s * E (m - s) * qA9 n A w s x) m]
  refine qS_cg (fun i hi => ?_)
  rw [qN_poly h0]
  show sn9 i * qS9 (fun l => sn9 l * E (m - i - l) * qA9 n A (qA9 n A w i) l x) (m - i + 1) = _
  rw [← qS_mul]
  refine qS_cg (fun l hl => ?_)
  rw [qA_add, ← sn_add, show m - (i + l) = m - i - l by omega]
  grind
end XSG9
end
section
/-! 99zzzzzzzzzzzzzzzzyzzj.xsga -/
/-! signature: the trace of N_j -/
def tA9 (A : mQ99) : mQ99 := fun i j => A j i
section XSGA
variable {n : Nat} {A : mQ99}
theorem qD_cm {v w : Nat → Rat} : qD9 n v w = qD9 n w v := qS_cg (fun k _ => Rat.mul_comm _ _)
theorem qD_cg {v w v2 w2 : Nat → Rat} (h1 : ∀ i, i < n → v i = v2 i) (h2 : ∀ i, i < n → w i = w2 i) : qD9 n v w = qD9 n v2 w2 := qS_cg (fun k hk => by rw [h1 k hk, h2 k hk])
theorem qV_adj {x y : Nat → Rat} : qD9 n x (qV9 n (tA9 A) y) = qD9 n (qV9 n A x) y := by
  unfold qD9 qV9
  have e1 : ∀ i, i < n → x i * qS9 (fun k => tA9 A i k * y k) n = qS9 (fun k => A k i * x i * y k) n := fun i _ => by
    rw [← qS_mul]
    refine qS_cg (fun k _ => ?_)
    show x i * (A k i * y k) = A k i * x i * y k
    grind
  have e2 : ∀ k, k < n → qS9 (fun i => A k i * x i) n * y k = qS9 (fun i => A k i * x i * y k) n := fun k _ => by
    rw [Rat.mul_comm, ← qS_mul]
    refine qS_cg (fun i _ => ?_)
    show y k * (A k i * x i) = A k i * x i * y k
    grind
  rw [qS_cg e1, qS_cg e2, qS_sw]
theorem qA_hd {x : Nat → Rat} (l : Nat) : qA9 n A (qV9 n A x) l = qA9 n A x (l + 1) := by
  have := qA_add (n := n) (A := A) (w := x) (i := 1) l
  rw [Nat.add_comm] at this
  exact this
theorem qA_adj {y : Nat → Rat} : ∀ (l : Nat) (x : Nat → Rat), qD9 n x (qA9 n (tA9 A) y l) = qD9 n (qA9 n A x l) y := by
  intro l
  induction l with
  | zero => exact fun x => rfl
  | succ l ih =>
    intro x
    show qD9 n x (qV9 n (tA9 A) (qA9 n (tA9 A) y l)) = _
    rw [qV_adj, ih, qA_hd]
theorem qD_sum {x : Nat → Rat} {c : Nat → Rat} {X : Nat → Nat → Rat} {m : Nat} : qD9 n x (fun i => qS9 (fun l => c l * X l i) m) = qS9 (fun l => c l * qD9 n x (X l)) m := by
  unfold qD9
  have e1 : ∀ k, k < n → x k * qS9 (fun l => c l * X l k) m = qS9 (fun l => c l * (x k * X l k)) m := fun k _ => by
    rw [← qS_mul]
    exact qS_cg (fun l _ => by grind)
  rw [qS_cg e1, qS_sw]
  exact qS_cg (fun l _ => qS_mul)
theorem qN_adj {E x y : Nat → Rat} (h0 : E 0 = 1) (j : Nat) : qD9 n x (qN9 n (tA9 A) E y j) = qD9 n (qN9 n A E x j) y := by
  rw [qN_poly h0, qD_sum, qD_cm (v := qN9 n A E x j), qN_poly h0, qD_sum]
  refine qS_cg (fun l _ => ?_)
  rw [qA_adj, qD_cm]
theorem qE_tr : ∀ (n k : Nat), qE9 (tA9 A) n k = qE9 A n k := by
  intro n
  induction n with
  | zero => exact fun k => rfl
  | succ n ih =>
    intro k
    have ee : qE9 (tA9 A) n = qE9 A n := funext ih
    cases k with
    | zero => rfl
    | succ k =>
      cases k with
      | zero =>
        show qE9 (tA9 A) n 1 + A n n = qE9 A n 1 + A n n
        rw [ee]
      | succ k =>
        show qE9 (tA9 A) n (k + 2) + A n n * qE9 (tA9 A) n (k + 1) - qD9 n (fun i => A i n) (qN9 n (tA9 A) (qE9 (tA9 A) n) (A n) k) = qE9 A n (k + 2) + A n n * qE9 A n (k + 1) - qD9 n (A n) (qN9 n A (qE9 A n) (fun i => A i n) k)
        rw [ee, qN_adj qE_0, qD_cm (v := A n)]
theorem qD_dl {x : Nat → Rat} {c : Nat} : ∀ {n : Nat}, c < n → qD9 n (dl9 c) x = x c := by
  intro n
  induction n with
  | zero => exact fun h => absurd h (by omega)
  | succ n ih =>
    intro h
    show qD9 n (dl9 c) x + dl9 c n * x n = x c
    by_cases h9 : c = n
    · subst h9
      have e : qD9 c (dl9 c) x = 0 := by
        unfold qD9
        rw [qS_cg (g := fun _ => 0) (fun k hk => by rw [show dl9 c k = 0 from if_neg (by omega)]; exact Rat.zero_mul _), qS_0]
      rw [e, show dl9 c c = 1 from if_pos rfl]
      grind
    · rw [ih (by omega), show dl9 c n = 0 from if_neg (by omega)]
      grind
/-- the row of N_j at the border -/
theorem qN_row {c : Nat} (hc : c < n) (j : Nat) : qN9 (n + 1) A (qE9 A (n + 1)) (dl9 c) j n = if j = 0 then 0 else -qN9 n (tA9 A) (qE9 A n) (A n) (j - 1) c := by
  have e1 := qD_dl (x := qN9 (n + 1) A (qE9 A (n + 1)) (dl9 c) j) (c := n) (n := n + 1) (by omega)
  have e2 := qN_adj (n := n + 1) (A := tA9 A) (E := qE9 A (n + 1)) (x := dl9 n) (y := dl9 c) qE_0 j
  have e3 : tA9 (tA9 A) = A := rfl
  rw [e3, e1, qD_cm, qD_dl (by omega)] at e2
  rw [e2]
  have e4 := (qN_col (n := n) (A := tA9 A) j).2 c hc
  rw [show qE9 (tA9 A) (n + 1) = qE9 A (n + 1) from funext (qE_tr _), show qE9 (tA9 A) n = qE9 A n from funext (qE_tr _)] at e4
  exact e4
theorem qS_tsw {f : Nat → Nat → Rat} : ∀ m, qS9 (fun l => qS9 (fun s => f l s) (m - l + 1)) (m + 1) = qS9 (fun s => qS9 (fun l => f l s) (m - s + 1)) (m + 1) := by
  intro m
  induction m with
  | zero =>
    show (0 : Rat) + (0 + f 0 0) = 0 + (0 + f 0 0)
    rfl
  | succ m ih =>
    have e1 : ∀ g : Nat → Nat → Rat, qS9 (fun l => qS9 (fun s => g l s) (m + 1 - l + 1)) (m + 1) = qS9 (fun l => qS9 (fun s => g l s) (m - l + 1)) (m + 1) + qS9 (fun l => g l (m + 1 - l)) (m + 1) := fun g => by
      rw [← qS_add]
      refine qS_cg (fun i hi => ?_)
      rw [show m + 1 - i + 1 = m - i + 1 + 1 by omega]
      show qS9 (fun s => g i s) (m - i + 1) + g i (m - i + 1) = _
      rw [show m - i + 1 = m + 1 - i by omega]
    have e2 : ∀ g : Nat → Nat → Rat, qS9 (fun s => g (m + 1) s) (m + 1 - (m + 1) + 1) = g (m + 1) 0 := fun g => by
      rw [show m + 1 - (m + 1) + 1 = 1 by omega]
      show (0 : Rat) + g (m + 1) 0 = _
      exact Rat.zero_add _
    have e3 : qS9 (fun l => f l (m + 1 - l)) (m + 1) + f (m + 1) 0 = qS9 (fun s => f (m + 1 - s) s) (m + 1) + f 0 (m + 1) := by
      have e4 : ∀ (k : Nat) (h : Nat → Rat), qS9 (fun i => h (k - i)) (k + 1) = qS9 h (k + 1) := by
        intro k
        induction k with
        | zero => exact fun h => rfl
        | succ k ih2 =>
          intro h
          rw [qS_hd]
          have e5 : qS9 (fun i => h (k + 1 - (i + 1))) (k + 1) = qS9 h (k + 1) := by
            rw [← ih2 h]
            exact qS_cg (fun i _ => by rw [show k + 1 - (i + 1) = k - i by omega])
          rw [e5]
          show h (k + 1) + qS9 h (k + 1) = qS9 h (k + 1) + h (k + 1)
          exact Rat.add_comm _ _
      have e6 := e4 (m + 1) (fun l => f l (m + 1 - l))
      have e7 : qS9 (fun i => (fun l => f l (m + 1 - l)) (m + 1 - i)) (m + 1 + 1) = qS9 (fun s => f (m + 1 - s) s) (m + 1 + 1) := by
        refine qS_cg (fun i hi => ?_)
        show f (m + 1 - i) (m + 1 - (m + 1 - i)) = _
        rw [show m + 1 - (m + 1 - i) = i by omega]
      rw [e7] at e6
      have e8 : qS9 (fun s => f (m + 1 - s) s) (m + 1) + f (m + 1 - (m + 1)) (m + 1) = qS9 (fun l => f l (m + 1 - l)) (m + 1) + f (m + 1) (m + 1 - (m + 1)) := e6
      rw [Nat.sub_self] at e8
      exact e8.symm
    show qS9 (fun l => qS9 (fun s => f l s) (m + 1 - l + 1)) (m + 1) + qS9 (fun s => f (m + 1) s) (m + 1 - (m + 1) + 1) = qS9 (fun s => qS9 (fun l => f l s) (m + 1 - s + 1)) (m + 1) + qS9 (fun l => f l (m + 1)) (m + 1 - (m + 1) + 1)
    rw [e1 f, e1 (fun s l => f l s), e2 f, e2 (fun s l => f l s), ih]
    grind
theorem qV_cg {x y : Nat → Rat} (h : ∀ i, i < n → x i = y i) (i : Nat) : qV9 n A x i = qV9 n A y i := qS_cg (fun k hk => by rw [h k hk])
/-- the block of N_j -/
theorem qN_blk {c : Nat} (hc : c < n) (E2 : Nat → Rat) (h0 : E2 0 = 1) : ∀ j i, i < n → qN9 (n + 1) A E2 (dl9 c) j i = qS9 (fun l => sn9 l * E2 (j - l) * qA9 n A (dl9 c) l i) (j + 1) - qS9 (fun l => sn9 l * qN9 (n + 1) A E2 (dl9 c) (j - 1 - l) n * qA9 n A (fun i => A i n) l i) j := by
  intro j
  induction j with
  | zero =>
    intro i hi
    show dl9 c i = (0 : Rat) + sn9 0 * E2 0 * dl9 c i - 0
    rw [h0, show sn9 0 = 1 from rfl]
    grind
  | succ j ih =>
    intro i hi
    show E2 (j + 1) * dl9 c i - (qS9 (fun k => A i k * qN9 (n + 1) A E2 (dl9 c) j k) n + A i n * qN9 (n + 1) A E2 (dl9 c) j n) = _
    have e1 : qS9 (fun k => A i k * qN9 (n + 1) A E2 (dl9 c) j k) n = qS9 (fun l => sn9 l * E2 (j - l) * qA9 n A (dl9 c) (l + 1) i) (j + 1) - qS9 (fun l => sn9 l * qN9 (n + 1) A E2 (dl9 c) (j - 1 - l) n * qA9 n A (fun i => A i n) (l + 1) i) j := by
      have e2 := qV_sum (n := n) (A := A) (c := fun l => sn9 l * E2 (j - l)) (x := qA9 n A (dl9 c)) (m := j + 1) (i := i)
      have e3 := qV_sum (n := n) (A := A) (c := fun l => sn9 l * qN9 (n + 1) A E2 (dl9 c) (j - 1 - l) n) (x := qA9 n A (fun i => A i n)) (m := j) (i := i)
      have e4 : qS9 (fun k => A i k * qN9 (n + 1) A E2 (dl9 c) j k) n = qS9 (fun k => A i k * qS9 (fun l => sn9 l * E2 (j - l) * qA9 n A (dl9 c) l k) (j + 1) + -(A i k * qS9 (fun l => sn9 l * qN9 (n + 1) A E2 (dl9 c) (j - 1 - l) n * qA9 n A (fun i => A i n) l k) j)) n := qS_cg (fun k hk => by
        rw [ih k hk]
        grind)
      rw [e4, qS_add, qS_neg]
      have e5 : qS9 (fun k => A i k * qS9 (fun l => sn9 l * E2 (j - l) * qA9 n A (dl9 c) l k) (j + 1)) n = qS9 (fun l => sn9 l * E2 (j - l) * qA9 n A (dl9 c) (l + 1) i) (j + 1) := e2
      have e6 : qS9 (fun k => A i k * qS9 (fun l => sn9 l * qN9 (n + 1) A E2 (dl9 c) (j - 1 - l) n * qA9 n A (fun i => A i n) l k) j) n = qS9 (fun l => sn9 l * qN9 (n + 1) A E2 (dl9 c) (j - 1 - l) n * qA9 n A (fun i => A i n) (l + 1) i) j := e3
      rw [e5, e6]
      grind
    have e7 : qS9 (fun l => sn9 l * E2 (j + 1 - l) * qA9 n A (dl9 c) l i) (j + 1 + 1) = E2 (j + 1) * dl9 c i - qS9 (fun l => sn9 l * E2 (j - l) * qA9 n A (dl9 c) (l + 1) i) (j + 1) := by
      rw [qS_hd]
      have e8 : qS9 (fun l => sn9 (l + 1) * E2 (j + 1 - (l + 1)) * qA9 n A (dl9 c) (l + 1) i) (j + 1) = -qS9 (fun l => sn9 l * E2 (j - l) * qA9 n A (dl9 c) (l + 1) i) (j + 1) := by
        rw [← qS_neg]
        refine qS_cg (fun l _ => ?_)
        rw [sn_s, show j + 1 - (l + 1) = j - l by omega]
        grind
      rw [e8]
      show sn9 0 * E2 (j + 1) * dl9 c i + _ = _
      rw [show sn9 0 = 1 from rfl]
      grind
    have e9 : qS9 (fun l => sn9 l * qN9 (n + 1) A E2 (dl9 c) (j + 1 - 1 - l) n * qA9 n A (fun i => A i n) l i) (j + 1) = qN9 (n + 1) A E2 (dl9 c) j n * A i n - qS9 (fun l => sn9 l * qN9 (n + 1) A E2 (dl9 c) (j - 1 - l) n * qA9 n A (fun i => A i n) (l + 1) i) j := by
      rw [qS_hd]
      have e8 : qS9 (fun l => sn9 (l + 1) * qN9 (n + 1) A E2 (dl9 c) (j + 1 - 1 - (l + 1)) n * qA9 n A (fun i => A i n) (l + 1) i) j = -qS9 (fun l => sn9 l * qN9 (n + 1) A E2 (dl9 c) (j - 1 - l) n * qA9 n A (fun i => A i n) (l + 1) i) j := by
        rw [← qS_neg]
        refine qS_cg (fun l _ => ?_)
        rw [sn_s, show j + 1 - 1 - (l + 1) = j - 1 - l by omega]
        grind
      rw [e8, show j + 1 - 1 - 0 = j by omega]
      show sn9 0 * _ * A i n + _ = _
      rw [show sn9 0 = 1 from rfl]
      grind
    rw [e1, e7, e9]
    grind
end XSGA
end
section
/-! 99zzzzzzzzzzzzzzzzyzzk.xsgb -/
/-! signature: tr N_j = (n - j) e_j -/
section XSGB
variable {A : mQ99}
theorem trE_0 {n : Nat} {E : Nat → Rat} : qS9 (fun c => qN9 n A E (dl9 c) 0 c) n = (n : Rat) := tr_0 (A := A) (n := n)
theorem cs_s {m : Nat} : ((m + 1 : Nat) : Rat) = (m : Rat) + 1 := by simp
/-- what the row at the border adds to the trace -/
theorem trE_r {n : Nat} (x : Nat → Rat) (m : Nat) : qS9 (fun c => qN9 (n + 1) A (qE9 A (n + 1)) (dl9 c) (m + 1) n * x c) n = -qD9 n (A n) (qN9 n A (qE9 A n) x m) := by
  have e1 : qS9 (fun c => qN9 (n + 1) A (qE9 A (n + 1)) (dl9 c) (m + 1) n * x c) n = qS9 (fun c => -(x c * qN9 n (tA9 A) (qE9 A n) (A n) m c)) n := qS_cg (fun c hc => by
    rw [qN_row hc, if_neg (by omega), show m + 1 - 1 = m by omega]
    grind)
  have e2 : qS9 (fun c => x c * qN9 n (tA9 A) (qE9 A n) (A n) m c) n = qD9 n x (qN9 n (tA9 A) (qE9 A n) (A n) m) := rfl
  rw [e1, qS_neg, e2, qN_adj qE_0, qD_cm]
theorem trE_r0 {n : Nat} (x : Nat → Rat) : qS9 (fun c => qN9 (n + 1) A (qE9 A (n + 1)) (dl9 c) 0 n * x c) n = 0 := by
  rw [qS_cg (g := fun _ => 0) (fun c hc => by rw [qN_row hc, if_pos rfl]; exact Rat.zero_mul _), qS_0]
/-- the trace of the block -/
theorem trE_b {n : Nat} (j : Nat) : qS9 (fun c => qN9 (n + 1) A (qE9 A (n + 1)) (dl9 c) j c) n = qS9 (fun l => sn9 l * qE9 A (n + 1) (j - l) * qT9 n A l) (j + 1) - qS9 (fun l => sn9 l * qS9 (fun c => qN9 (n + 1) A (qE9 A (n + 1)) (dl9 c) (j - 1 - l) n * qA9 n A (fun i => A i n) l c) n) j := by
  have e1 : qS9 (fun c => qN9 (n + 1) A (qE9 A (n + 1)) (dl9 c) j c) n = qS9 (fun c => qS9 (fun l => sn9 l * qE9 A (n + 1) (j - l) * qA9 n A (dl9 c) l c) (j + 1) + -qS9 (fun l => sn9 l * (qN9 (n + 1) A (qE9 A (n + 1)) (dl9 c) (j - 1 - l) n * qA9 n A (fun i => A i n) l c)) j) n := qS_cg (fun c hc => by
    rw [qN_blk hc (qE9 A (n + 1)) qE_0 j c hc]
    have e2 : qS9 (fun l => sn9 l * qN9 (n + 1) A (qE9 A (n + 1)) (dl9 c) (j - 1 - l) n * qA9 n A (fun i => A i n) l c) j = qS9 (fun l => sn9 l * (qN9 (n + 1) A (qE9 A (n + 1)) (dl9 c) (j - 1 - l) n * qA9 n A (fun i => A i n) l c)) j := qS_cg (fun l _ => Rat.mul_assoc _ _ _)
    rw [e2]
    grind)
  rw [e1, qS_add, qS_neg, qS_sw (m := j + 1) (k := n), qS_sw (m := j) (k := n)]
  have e3 : qS9 (fun l => qS9 (fun c => sn9 l * qE9 A (n + 1) (j - l) * qA9 n A (dl9 c) l c) n) (j + 1) = qS9 (fun l => sn9 l * qE9 A (n + 1) (j - l) * qT9 n A l) (j + 1) := qS_cg (fun l _ => qS_mul)
  have e4 : qS9 (fun l => qS9 (fun c => sn9 l * (qN9 (n + 1) A (qE9 A (n + 1)) (dl9 c) (j - 1 - l) n * qA9 n A (fun i => A i n) l c)) n) j = qS9 (fun l => sn9 l * qS9 (fun c => qN9 (n + 1) A (qE9 A (n + 1)) (dl9 c) (j - 1 - l) n * qA9 n A (fun i => A i n) l c) n) j := qS_cg (fun l _ => qS_mul)
  rw [e3, e4]
  grind
/-- THE TRACE: tr N_j = (n - j) e_j -/
theorem tr_E : ∀ n j, qS9 (fun c => qN9 n A (qE9 A n) (dl9 c) j c) n = ((n : Rat) - (j : Rat)) * qE9 A n j := by
  intro n
  induction n with
  | zero =>
    intro j
    show (0 : Rat) = (((0 : Nat) : Rat) - (j : Rat)) * (if j = 0 then 1 else 0)
    by_cases h : j = 0
    · subst h
      simp
      grind
    · rw [if_neg h]
      exact (Rat.mul_zero _).symm
  | succ n ih =>
    intro j
    have ihT : ∀ j, qS9 (fun l => sn9 l * qE9 A n (j - l) * qT9 n A l) (j + 1) = ((n : Rat) - (j : Rat)) * qE9 A n j := fun j => by
      rw [← ih j, tr_N qE_0]
    cases j with
    | zero =>
      rw [trE_0, qE_0]
      simp
      grind
    | succ j =>
      show qS9 (fun c => qN9 (n + 1) A (qE9 A (n + 1)) (dl9 c) (j + 1) c) n + qN9 (n + 1) A (qE9 A (n + 1)) (dl9 n) (j + 1) n = _
      rw [(qN_col (j + 1)).1, trE_b]
      cases j with
      | zero =>
        have e1 : qS9 (fun l => sn9 l * qS9 (fun c => qN9 (n + 1) A (qE9 A (n + 1)) (dl9 c) (0 + 1 - 1 - l) n * qA9 n A (fun i => A i n) l c) n) (0 + 1) = 0 := by
          show (0 : Rat) + sn9 0 * qS9 (fun c => qN9 (n + 1) A (qE9 A (n + 1)) (dl9 c) 0 n * qA9 n A (fun i => A i n) 0 c) n = 0
          rw [trE_r0]
          grind
        have e2 := ihT 1
        have e3 : qS9 (fun l => sn9 l * qE9 A n (1 - l) * qT9 n A l) (1 + 1) = (0 + sn9 0 * qE9 A n 1 * qT9 n A 0) + sn9 1 * qE9 A n 0 * qT9 n A 1 := rfl
        have e4 : qS9 (fun l => sn9 l * qE9 A (n + 1) (0 + 1 - l) * qT9 n A l) (0 + 1 + 1) = (0 + sn9 0 * (qE9 A n 1 + A n n) * qT9 n A 0) + sn9 1 * 1 * qT9 n A 1 := rfl
        have e5 : qE9 A (n + 1) (0 + 1) = qE9 A n 1 + A n n := rfl
        rw [e3, qE_0, tr_0, show sn9 0 = 1 from rfl, show sn9 1 = -1 from rfl, show ((1 : Nat) : Rat) = 1 from rfl] at e2
        rw [e1, e4, tr_0, e5, show sn9 0 = 1 from rfl, show sn9 1 = -1 from rfl, cs_s, show ((0 + 1 : Nat) : Rat) = 1 from rfl]
        grind
      | succ m =>
        -- the second sum
        have s2 : qS9 (fun l => sn9 l * qS9 (fun c => qN9 (n + 1) A (qE9 A (n + 1)) (dl9 c) (m + 1 + 1 - 1 - l) n * qA9 n A (fun i => A i n) l c) n) (m + 1 + 1) = -qS9 (fun s => ((s : Rat) + 1) * (sn9 s * qE9 A n (m - s) * qD9 n (A n) (qA9 n A (fun i => A i n) s))) (m + 1) := by
          have e1 : qS9 (fun l => sn9 l * qS9 (fun c => qN9 (n + 1) A (qE9 A (n + 1)) (dl9 c) (m + 1 + 1 - 1 - l) n * qA9 n A (fun i => A i n) l c) n) (m + 1 + 1) = qS9 (fun l => sn9 l * qS9 (fun c => qN9 (n + 1) A (qE9 A (n + 1)) (dl9 c) (m + 1 + 1 - 1 - l) n * qA9 n A (fun i => A i n) l c) n) (m + 1) + sn9 (m + 1) * qS9 (fun c => qN9 (n + 1) A (qE9 A (n + 1)) (dl9 c) (m + 1 + 1 - 1 - (m + 1)) n * qA9 n A (fun i => A i n) (m + 1) c) n := rfl
          rw [e1, show m + 1 + 1 - 1 - (m + 1) = 0 by omega, trE_r0]
          have e2 : qS9 (fun l => sn9 l * qS9 (fun c => qN9 (n + 1) A (qE9 A (n + 1)) (dl9 c) (m + 1 + 1 - 1 - l) n * qA9 n A (fun i => A i n) l c) n) (m + 1) = qS9 (fun l => -(sn9 l * qD9 n (A n) (qN9 n A (qE9 A n) (qA9 n A (fun i => A i n) l) (m - l)))) (m + 1) := qS_cg (fun l hl => by
            rw [show m + 1 + 1 - 1 - l = (m - l) + 1 by omega, trE_r]
            grind)
          rw [e2, qS_neg]
          have e3 : qS9 (fun l => sn9 l * qD9 n (A n) (qN9 n A (qE9 A n) (qA9 n A (fun i => A i n) l) (m - l))) (m + 1) = qD9 n (A n) (fun x => qS9 (fun l => sn9 l * qN9 n A (qE9 A n) (qA9 n A (fun i => A i n) l) (m - l) x) (m + 1)) := qD_sum.symm
          have e4 : qD9 n (A n) (fun x => qS9 (fun l => sn9 l * qN9 n A (qE9 A n) (qA9 n A (fun i => A i n) l) (m - l) x) (m + 1)) = qD9 n (A n) (fun x => qS9 (fun s => ((s : Rat) + 1) * (sn9 s * qE9 A n (m - s)) * qA9 n A (fun i => A i n) s x) (m + 1)) := qD_cg (fun i _ => rfl) (fun x _ => by
            show qS9 (fun l => sn9 l * qN9 n A (qE9 A n) (qA9 n A (fun i => A i n) l) (m - l) x) (m + 1) = _
            rw [qN_A qE_0]
            exact qS_cg (fun s _ => by grind))
          have e5 : qD9 n (A n) (fun x => qS9 (fun s => ((s : Rat) + 1) * (sn9 s * qE9 A n (m - s)) * qA9 n A (fun i => A i n) s x) (m + 1)) = qS9 (fun s => ((s : Rat) + 1) * (sn9 s * qE9 A n (m - s)) * qD9 n (A n) (qA9 n A (fun i => A i n) s)) (m + 1) := qD_sum
          have e6 : qS9 (fun s => ((s : Rat) + 1) * (sn9 s * qE9 A n (m - s)) * qD9 n (A n) (qA9 n A (fun i => A i n) s)) (m + 1) = qS9 (fun s => ((s : Rat) + 1) * (sn9 s * qE9 A n (m - s) * qD9 n (A n) (qA9 n A (fun i => A i n) s))) (m + 1) := qS_cg (fun s _ => by grind)
          rw [e3, e4, e5, e6]
          grind
        -- v N_m w as a sum
        have nm : qD9 n (A n) (qN9 n A (qE9 A n) (fun i => A i n) m) = qS9 (fun s => sn9 s * qE9 A n (m - s) * qD9 n (A n) (qA9 n A (fun i => A i n) s)) (m + 1) := by
          rw [qN_poly qE_0]
          exact qD_sum
        -- the first sum
        have s1 : qS9 (fun l => sn9 l * qE9 A (n + 1) (m + 1 + 1 - l) * qT9 n A l) (m + 1 + 1 + 1) = ((n : Rat) - ((m + 1 + 1 : Nat) : Rat)) * qE9 A n (m + 1 + 1) + A n n * (((n : Rat) - ((m + 1 : Nat) : Rat)) * qE9 A n (m + 1)) - qS9 (fun s => ((n : Rat) - (m : Rat) + (s : Rat)) * (sn9 s * qE9 A n (m - s) * qD9 n (A n) (qA9 n A (fun i => A i n) s))) (m + 1) := by
          rw [← ihT (m + 1 + 1), ← ihT (m + 1)]
          have e1 : qS9 (fun l => sn9 l * qE9 A (n + 1) (m + 1 + 1 - l) * qT9 n A l) (m + 1) = qS9 (fun l => (sn9 l * qE9 A n (m + 1 + 1 - l) * qT9 n A l + A n n * (sn9 l * qE9 A n (m + 1 - l) * qT9 n A l)) + -(sn9 l * qT9 n A l * qD9 n (A n) (qN9 n A (qE9 A n) (fun i => A i n) (m - l)))) (m + 1) := qS_cg (fun l hl => by
            rw [show m + 1 + 1 - l = (m - l) + 2 by omega, show m + 1 - l = (m - l) + 1 by omega]
            show sn9 l * (qE9 A n ((m - l) + 2) + A n n * qE9 A n ((m - l) + 1) - qD9 n (A n) (qN9 n A (qE9 A n) (fun i => A i n) (m - l))) * qT9 n A l = _
            grind)
          have e2 : qS9 (fun l => sn9 l * qT9 n A l * qD9 n (A n) (qN9 n A (qE9 A n) (fun i => A i n) (m - l))) (m + 1) = qS9 (fun s => ((n : Rat) - (m : Rat) + (s : Rat)) * (sn9 s * qE9 A n (m - s) * qD9 n (A n) (qA9 n A (fun i => A i n) s))) (m + 1) := by
            have e3 : qS9 (fun l => sn9 l * qT9 n A l * qD9 n (A n) (qN9 n A (qE9 A n) (fun i => A i n) (m - l))) (m + 1) = qS9 (fun l => qS9 (fun s => sn9 l * qT9 n A l * (sn9 s * qE9 A n (m - l - s) * qD9 n (A n) (qA9 n A (fun i => A i n) s))) (m - l + 1)) (m + 1) := qS_cg (fun l _ => by
              rw [qN_poly qE_0, qD_sum, ← qS_mul])
            rw [e3, qS_tsw]
            refine qS_cg (fun s hs => ?_)
            have e4 : qS9 (fun l => sn9 l * qT9 n A l * (sn9 s * qE9 A n (m - l - s) * qD9 n (A n) (qA9 n A (fun i => A i n) s))) (m - s + 1) = qS9 (fun l => (sn9 s * qD9 n (A n) (qA9 n A (fun i => A i n) s)) * (sn9 l * qE9 A n (m - s - l) * qT9 n A l)) (m - s + 1) := qS_cg (fun l _ => by
              rw [show m - l - s = m - s - l by omega]
              grind)
            rw [e4, qS_mul, ihT]
            have e5 : ((m - s : Nat) : Rat) = (m : Rat) - (s : Rat) := by
              have e6 : ((m - s + s : Nat) : Rat) = (m : Rat) := by rw [show m - s + s = m by omega]
              have e7 : ((m - s + s : Nat) : Rat) = ((m - s : Nat) : Rat) + (s : Rat) := by simp
              grind
            rw [e5]
            grind
          have e8 : qS9 (fun l => sn9 l * qE9 A (n + 1) (m + 1 + 1 - l) * qT9 n A l) (m + 1 + 1 + 1) = qS9 (fun l => sn9 l * qE9 A (n + 1) (m + 1 + 1 - l) * qT9 n A l) (m + 1) + sn9 (m + 1) * qE9 A (n + 1) (m + 1 + 1 - (m + 1)) * qT9 n A (m + 1) + sn9 (m + 1 + 1) * qE9 A (n + 1) (m + 1 + 1 - (m + 1 + 1)) * qT9 n A (m + 1 + 1) := rfl
          have e9 : qS9 (fun l => sn9 l * qE9 A n (m + 1 + 1 - l) * qT9 n A l) (m + 1 + 1 + 1) = qS9 (fun l => sn9 l * qE9 A n (m + 1 + 1 - l) * qT9 n A l) (m + 1) + sn9 (m + 1) * qE9 A n (m + 1 + 1 - (m + 1)) * qT9 n A (m + 1) + sn9 (m + 1 + 1) * qE9 A n (m + 1 + 1 - (m + 1 + 1)) * qT9 n A (m + 1 + 1) := rfl
          have e10 : qS9 (fun l => sn9 l * qE9 A n (m + 1 - l) * qT9 n A l) (m + 1 + 1) = qS9 (fun l => sn9 l * qE9 A n (m + 1 - l) * qT9 n A l) (m + 1) + sn9 (m + 1) * qE9 A n (m + 1 - (m + 1)) * qT9 n A (m + 1) := rfl
          rw [e8, e9, e10, e1, qS_add, qS_add, qS_neg, e2, qS_mul, show m + 1 + 1 - (m + 1) = 1 by omega, show m + 1 + 1 - (m + 1 + 1) = 0 by omega, show m + 1 - (m + 1) = 0 by omega, qE_0, qE_0, show qE9 A (n + 1) 1 = qE9 A n 1 + A n n from rfl]
          grind
        have dif : qS9 (fun s => ((n : Rat) - (m : Rat) + (s : Rat)) * (sn9 s * qE9 A n (m - s) * qD9 n (A n) (qA9 n A (fun i => A i n) s))) (m + 1) = qS9 (fun s => ((s : Rat) + 1) * (sn9 s * qE9 A n (m - s) * qD9 n (A n) (qA9 n A (fun i => A i n) s))) (m + 1) + ((n : Rat) - (m : Rat) - 1) * qD9 n (A n) (qN9 n A (qE9 A n) (fun i => A i n) m) := by
          rw [nm, ← qS_mul, ← qS_add]
          exact qS_cg (fun s _ => by grind)
        have eh : qE9 A (n + 1) (m + 1 + 1) = qE9 A n (m + 2) + A n n * qE9 A n (m + 1) - qD9 n (A n) (qN9 n A (qE9 A n) (fun i => A i n) m) := rfl
        rw [s1, s2, dif, eh, cs_s, cs_s, cs_s]
        generalize qS9 (fun s => ((s : Rat) + 1) * (sn9 s * qE9 A n (m - s) * qD9 n (A n) (qA9 n A (fun i => A i n) s))) (m + 1) = S
        generalize qD9 n (A n) (qN9 n A (qE9 A n) (fun i => A i n) m) = D
        show ((n : Rat) - ((m : Rat) + 1 + 1)) * qE9 A n (m + 2) + A n n * (((n : Rat) - ((m : Rat) + 1)) * qE9 A n (m + 1)) - (S + ((n : Rat) - (m : Rat) - 1) * D) - -S + qE9 A n (m + 2) = ((n : Rat) + 1 - ((m : Rat) + 1 + 1)) * (qE9 A n (m + 2) + A n n * qE9 A n (m + 1) - D)
        grind
end XSGB
end
section
/-! 99zzzzzzzzzzzzzzzzyzzl.xsgc -/
/-! signature: more unknowns than equations; bases at right angles; the coefficients hang on the traces alone -/
/-- the product by weights g -/
def qG9 (n : Nat) (g x y : Nat → Rat) : Rat := qS9 (fun i => g i * x i * y i) n
section XSGC
variable {n : Nat}
theorem qD_l2 {v x y : Nat → Rat} {a b : Rat} : qD9 n v (fun i => a * x i + b * y i) = a * qD9 n v x + b * qD9 n v y := by
  unfold qD9
  rw [qS_cg (g := fun k => a * (v k * x k) + b * (v k * y k)) (fun k _ => by grind), qS_add, qS_mul, qS_mul]
theorem lin9 (a : Nat → Nat → Rat) : ∀ (m : Nat) (S : List Nat), S.Nodup → m < S.length → ∃ x : Nat → Rat, (∃ i, i ∈ S ∧ x i ≠ 0) ∧ (∀ i, i ∉ S → x i = 0) ∧ ∀ e, e < m → qD9 n (a e) x = 0 := by
  intro m
  induction m with
  | zero =>
    intro S hS hl
    cases S with
    | nil => exact absurd hl (Nat.lt_irrefl 0)
    | cons s S =>
      refine ⟨dl9 s, ⟨s, List.mem_cons_self, ?_⟩, fun i hi => if_neg (fun h => hi (by rw [h]; exact List.mem_cons_self)), fun e he => absurd he (by omega)⟩
      rw [show dl9 s s = 1 from if_pos rfl]
      exact fun h => absurd h (by decide)
  | succ m ih =>
    intro S hS hl
    obtain ⟨x, ⟨s, hs, hx⟩, x0, xe⟩ := ih S hS (by omega)
    have hl2 : (S.erase s).length = S.length - 1 := List.length_erase_of_mem hs
    obtain ⟨y, ⟨r, hr, hy⟩, y0, ye⟩ := ih (S.erase s) (hS.erase s) (by omega)
    have hm : ∀ i, i ∉ S → i ∉ S.erase s := fun i hi h => hi (List.mem_of_mem_erase h)
    have ys : y s = 0 := y0 s (fun h => (List.Nodup.not_mem_erase hS) h)
    by_cases hb : qD9 n (a m) y = 0
    · refine ⟨y, ⟨r, List.mem_of_mem_erase hr, hy⟩, fun i hi => y0 i (hm i hi), fun e he => ?_⟩
      by_cases h9 : e = m
      · rw [h9]
        exact hb
      · exact ye e (by omega)
    · refine ⟨fun i => qD9 n (a m) y * x i + -qD9 n (a m) x * y i, ⟨s, hs, ?_⟩, fun i hi => ?_, fun e he => ?_⟩
      · show qD9 n (a m) y * x s + -qD9 n (a m) x * y s ≠ 0
        rw [ys]
        intro h
        have h2 : qD9 n (a m) y * x s = 0 := by grind
        rcases Rat.mul_eq_zero.mp h2 with h3 | h3
        · exact hb h3
        · exact hx h3
      · show qD9 n (a m) y * x i + -qD9 n (a m) x * y i = 0
        rw [x0 i hi, y0 i (hm i hi)]
        grind
      · rw [qD_l2]
        by_cases h9 : e = m
        · rw [h9]
          grind
        · rw [xe e (by omega), ye e (by omega)]
          grind
theorem lin_n (a : Nat → Nat → Rat) {m : Nat} (h : m < n) : ∃ x : Nat → Rat, (∃ i, i < n ∧ x i ≠ 0) ∧ ∀ e, e < m → qD9 n (a e) x = 0 := by
  obtain ⟨x, ⟨i, hi, hx⟩, -, h2⟩ := lin9 (n := n) a m (List.range n) List.nodup_range (by rw [List.length_range]; exact h)
  exact ⟨x, ⟨i, List.mem_range.mp hi, hx⟩, h2⟩
/-- an inverse on one side is one on the other -/
theorem sqr9 {P Q : mQ99} (h : ∀ i, i < n → ∀ j, j < n → qS9 (fun k => Q i k * P k j) n = dl9 j i) (x : Nat → Rat) : ∀ i, i < n → qV9 n P (qV9 n Q x) i = x i := by
  obtain ⟨c, ⟨s, hs, hc⟩, h2⟩ := lin_n (n := n + 1) (fun e k => if k = n then x e else P e k) (m := n) (by omega)
  have h3 : ∀ e, e < n → qV9 n P c e + x e * c n = 0 := fun e he => by
    have := h2 e he
    have e1 : qD9 (n + 1) (fun k => if k = n then x e else P e k) c = qS9 (fun k => (if k = n then x e else P e k) * c k) n + (if n = n then x e else P e n) * c n := rfl
    rw [e1, if_pos rfl] at this
    have e2 : qS9 (fun k => (if k = n then x e else P e k) * c k) n = qV9 n P c e := qS_cg (fun k hk => by rw [if_neg (by omega)])
    rw [e2] at this
    exact this
  have qp : ∀ (z : Nat → Rat) (i : Nat), i < n → qV9 n Q (qV9 n P z) i = z i := fun z i hi => by
    unfold qV9
    have e1 : qS9 (fun k => Q i k * qS9 (fun l => P k l * z l) n) n = qS9 (fun k => qS9 (fun l => z l * (Q i k * P k l)) n) n := qS_cg (fun k _ => by
      rw [← qS_mul]
      exact qS_cg (fun l _ => by grind))
    rw [e1, qS_sw]
    have e2 : qS9 (fun l => qS9 (fun k => z l * (Q i k * P k l)) n) n = qD9 n (dl9 i) z := qS_cg (fun l hl => by
      rw [qS_mul, h i hi l hl]
      show z l * (if i = l then 1 else 0) = (if l = i then 1 else 0) * z l
      by_cases h9 : i = l
      · rw [if_pos h9, if_pos h9.symm]
        exact Rat.mul_comm _ _
      · rw [if_neg h9, if_neg (fun h => h9 h.symm)]
        exact Rat.mul_comm _ _)
    rw [e2, qD_dl hi]
  have h4 : c n ≠ 0 := by
    intro h0
    have h5 : ∀ i, i < n → c i = 0 := fun i hi => by
      rw [← qp c i hi]
      have : ∀ k, k < n → qV9 n P c k = 0 := fun k hk => by
        have := h3 k hk
        rw [h0] at this
        grind
      unfold qV9
      rw [qS_cg (g := fun _ => 0) (fun k hk => by
        have := this k hk
        unfold qV9 at this
        rw [this]
        exact Rat.mul_zero _), qS_0]
    by_cases h9 : s = n
    · exact hc (by rw [h9]; exact h0)
    · exact hc (h5 s (by omega))
  have h6 : ∀ e, e < n → x e = qV9 n P (fun k => -(c k * (c n)⁻¹)) e := fun e he => by
    have e1 : qV9 n P (fun k => -(c k * (c n)⁻¹)) e = -(c n)⁻¹ * qV9 n P c e := by
      unfold qV9
      rw [← qS_mul]
      exact qS_cg (fun k _ => by grind)
    have e2 := h3 e he
    have e3 := Rat.mul_inv_cancel (c n) h4
    rw [e1]
    grind
  intro i hi
  have e4 : ∀ k, k < n → qV9 n Q x k = -(c k * (c n)⁻¹) := fun k hk => by
    rw [qV_cg h6 k]
    exact qp _ k hk
  rw [qV_cg e4 i]
  exact (h6 i hi).symm
/-- the traces tell the coefficients -/
theorem qE_T {A B : mQ99} (h : ∀ l, qT9 n A l = qT9 n B l) : ∀ k, qE9 A n k = qE9 B n k := by
  intro k
  induction k using Nat.strongRecOn with
  | _ k ih =>
    cases k with
    | zero => rw [qE_0, qE_0]
    | succ k =>
      have e1 : ∀ C : mQ99, qS9 (fun l => sn9 (l + 1) * qE9 C n (k - l) * qT9 n C (l + 1)) (k + 1) = -((k : Rat) + 1) * qE9 C n (k + 1) := fun C => by
        have a := tr_E (A := C) n (k + 1)
        rw [tr_N qE_0, qS_hd, show sn9 0 = 1 from rfl, tr_0, cs_s] at a
        have b : qS9 (fun l => sn9 (l + 1) * qE9 C n (k + 1 - (l + 1)) * qT9 n C (l + 1)) (k + 1) = qS9 (fun l => sn9 (l + 1) * qE9 C n (k - l) * qT9 n C (l + 1)) (k + 1) := qS_cg (fun l _ => by rw [show k + 1 - (l + 1) = k - l by omega])
        rw [b, show k + 1 - 0 = k + 1 by omega] at a
        grind
      have e2 : qS9 (fun l => sn9 (l + 1) * qE9 A n (k - l) * qT9 n A (l + 1)) (k + 1) = qS9 (fun l => sn9 (l + 1) * qE9 B n (k - l) * qT9 n B (l + 1)) (k + 1) := qS_cg (fun l hl => by rw [ih (k - l) (by omega), h])
      rw [e1, e1] at e2
      have hk : (0 : Rat) < (k : Rat) + 1 := by
        rw [← cs_s]
        exact Rat.natCast_pos.mpr (by omega)
      have e3 : ((k : Rat) + 1) * (qE9 A n (k + 1) - qE9 B n (k + 1)) = 0 := by grind
      rcases Rat.mul_eq_zero.mp e3 with h9 | h9
      · rw [h9] at hk
        exact absurd hk (by decide)
      · grind
end XSGC
/-- A over another basis P (inverse Q) is B -/
def cj9 (n : Nat) (A B P Q : mQ99) : Prop := (∀ i, i < n → ∀ j, j < n → qS9 (fun k => Q i k * P k j) n = dl9 j i) ∧ ∀ (x : Nat → Rat) i, i < n → qV9 n A (qV9 n P x) i = qV9 n P (qV9 n B x) i
section XSGC2
variable {n : Nat} {A B P Q : mQ99}
theorem qA_cg {x y : Nat → Rat} (h : ∀ i, i < n → x i = y i) : ∀ l i, i < n → qA9 n A x l i = qA9 n A y l i := by
  intro l
  induction l with
  | zero => exact h
  | succ l ih => exact fun i _ => qV_cg ih i
theorem cj_A (h : cj9 n A B P Q) (x : Nat → Rat) : ∀ l i, i < n → qA9 n A (qV9 n P x) l i = qV9 n P (qA9 n B x l) i := by
  intro l
  induction l with
  | zero => exact fun i _ => rfl
  | succ l ih =>
    intro i hi
    show qV9 n A (qA9 n A (qV9 n P x) l) i = qV9 n P (qV9 n B (qA9 n B x l)) i
    rw [qV_cg ih i, h.2 _ i hi]
theorem qA_lin {c : Nat → Rat} {x : Nat → Nat → Rat} {m : Nat} : ∀ l i, i < n → qA9 n A (fun k => qS9 (fun d => c d * x d k) m) l i = qS9 (fun d => c d * qA9 n A (x d) l i) m := by
  intro l
  induction l with
  | zero => exact fun i _ => rfl
  | succ l ih =>
    intro i hi
    show qV9 n A (qA9 n A (fun k => qS9 (fun d => c d * x d k) m) l) i = qS9 (fun d => c d * qV9 n A (qA9 n A (x d) l) i) m
    rw [qV_cg ih i, qV_sum]
theorem qV_dl {x : Nat → Rat} : ∀ i, i < n → qS9 (fun d => x d * dl9 d i) n = x i := fun i hi => by
  have : qS9 (fun d => x d * dl9 d i) n = qD9 n (dl9 i) x := qS_cg (fun d _ => by
    show x d * (if i = d then 1 else 0) = (if d = i then 1 else 0) * x d
    by_cases h9 : i = d
    · rw [if_pos h9, if_pos h9.symm]
      exact Rat.mul_comm _ _
    · rw [if_neg h9, if_neg (fun h => h9 h.symm)]
      exact Rat.mul_comm _ _)
  rw [this, qD_dl hi]
theorem cj_T (h : cj9 n A B P Q) (l : Nat) : qT9 n A l = qT9 n B l := by
  unfold qT9
  have e1 : ∀ c, c < n → qA9 n A (dl9 c) l c = qS9 (fun k => qS9 (fun d => qA9 n B (dl9 d) l k * (Q d c * P c k)) n) n := fun c hc => by
    have a1 : ∀ i, i < n → dl9 c i = qV9 n P (qV9 n Q (dl9 c)) i := fun i hi => (sqr9 h.1 (dl9 c) i hi).symm
    rw [qA_cg a1 l c hc, cj_A h _ l c hc]
    have a2 : ∀ i, i < n → qV9 n Q (dl9 c) i = qS9 (fun d => Q d c * dl9 d i) n := fun i hi => by
      rw [qV_dl (x := fun d => Q d c) i hi]
      have : qV9 n Q (dl9 c) i = qD9 n (dl9 c) (Q i) := qS_cg (fun k _ => Rat.mul_comm _ _)
      rw [this, qD_dl hc]
    unfold qV9
    refine qS_cg (fun k hk => ?_)
    have a3 := qA_cg (A := B) a2 l k hk
    have a4 := qA_lin (n := n) (A := B) (c := fun d => Q d c) (x := dl9) (m := n) l k hk
    have a5 : qA9 n B (fun i => qS9 (fun k => Q i k * dl9 c k) n) l k = qS9 (fun d => Q d c * qA9 n B (dl9 d) l k) n := a3.trans a4
    rw [a5, ← qS_mul]
    exact qS_cg (fun d _ => by grind)
  rw [qS_cg e1, qS_sw]
  have e2 : ∀ k, k < n → qS9 (fun c => qS9 (fun d => qA9 n B (dl9 d) l k * (Q d c * P c k)) n) n = qA9 n B (dl9 k) l k := fun k hk => by
    rw [qS_sw]
    have a1 : ∀ d, d < n → qS9 (fun c => qA9 n B (dl9 d) l k * (Q d c * P c k)) n = dl9 k d * qA9 n B (dl9 d) l k := fun d hd => by
      rw [qS_mul, h.1 d hd k hk]
      exact Rat.mul_comm _ _
    rw [qS_cg a1]
    exact qD_dl (x := fun d => qA9 n B (dl9 d) l k) hk
  exact qS_cg e2
theorem cj_E (h : cj9 n A B P Q) (k : Nat) : qE9 A n k = qE9 B n k := qE_T (cj_T h) k
theorem qN_cg {E x y : Nat → Rat} (h : ∀ i, i < n → x i = y i) : ∀ j i, i < n → qN9 n A E x j i = qN9 n A E y j i := by
  intro j
  induction j with
  | zero => exact h
  | succ j ih =>
    intro i hi
    show E (j + 1) * x i - qV9 n A (qN9 n A E x j) i = E (j + 1) * y i - qV9 n A (qN9 n A E y j) i
    rw [h i hi, qV_cg ih i]
theorem cj_N (h : cj9 n A B P Q) {E : Nat → Rat} (x : Nat → Rat) : ∀ j i, i < n → qN9 n A E (qV9 n P x) j i = qV9 n P (qN9 n B E x j) i := by
  intro j
  induction j with
  | zero => exact fun i _ => rfl
  | succ j ih =>
    intro i hi
    show E (j + 1) * qV9 n P x i - qV9 n A (qN9 n A E (qV9 n P x) j) i = qV9 n P (fun i => E (j + 1) * x i - qV9 n B (qN9 n B E x j) i) i
    rw [qV_cg ih i, h.2 _ i hi]
    have e2 : qD9 n (P i) (fun k => E (j + 1) * x k - 1 * qV9 n B (qN9 n B E x j) k) = E (j + 1) * qV9 n P x i - 1 * qV9 n P (qV9 n B (qN9 n B E x j)) i := qD_lin
    have e3 : qD9 n (P i) (fun k => E (j + 1) * x k - 1 * qV9 n B (qN9 n B E x j) k) = qV9 n P (fun i => E (j + 1) * x i - qV9 n B (qN9 n B E x j) i) i := qS_cg (fun k _ => by grind)
    rw [← e3, e2]
    grind
end XSGC2
end
section
/-! 99zzzzzzzzzzzzzzzzyzzm.xsgd -/
/-! signature: frames at right angles; Cayley and Hamilton -/
/-- k vectors at right angles, none of them 0 -/
def ob9 (n : Nat) (g : Nat → Rat) (F : Nat → Nat → Rat) (k : Nat) : Prop := (∀ c, c < k → ∃ i, i < n ∧ F c i ≠ 0) ∧ ∀ c d, c < k → d < k → c ≠ d → qG9 n g (F c) (F d) = 0
section XSGD
variable {n : Nat} {g : Nat → Rat}
theorem qG_cm {x y : Nat → Rat} : qG9 n g x y = qG9 n g y x := qS_cg (fun i _ => by grind)
theorem qG_cg {x y x2 y2 : Nat → Rat} (h1 : ∀ i, i < n → x i = x2 i) (h2 : ∀ i, i < n → y i = y2 i) : qG9 n g x y = qG9 n g x2 y2 := qS_cg (fun i hi => by rw [h1 i hi, h2 i hi])
theorem sq_nn9 (d : Rat) : 0 ≤ d * d := by
  rcases Rat.le_total (a := 0) (b := d) with h | h
  · exact Rat.mul_nonneg h h
  · have h9 : 0 ≤ -d := by grind
    have := Rat.mul_nonneg h9 h9
    grind
theorem sq_ps9 {d : Rat} (h : d ≠ 0) : 0 < d * d := by
  refine Rat.lt_of_le_of_ne (sq_nn9 d) (fun h9 => ?_)
  rcases Rat.mul_eq_zero.mp h9.symm with h2 | h2
  · exact h h2
  · exact h h2
theorem qG_nn {x : Nat → Rat} : ∀ {n : Nat}, (∀ i, i < n → 0 < g i) → 0 ≤ qG9 n g x x := by
  intro n
  induction n with
  | zero => exact fun _ => Rat.le_refl
  | succ n ih =>
    intro hg
    show 0 ≤ qG9 n g x x + g n * x n * x n
    have a := ih (fun i hi => hg i (by omega))
    have b := Rat.mul_nonneg (Rat.le_of_lt (hg n (by omega))) (sq_nn9 (x n))
    grind
theorem qG_ps {x : Nat → Rat} : ∀ {n : Nat}, (∀ i, i < n → 0 < g i) → (∃ i, i < n ∧ x i ≠ 0) → 0 < qG9 n g x x := by
  intro n
  induction n with
  | zero =>
    intro _ h
    obtain ⟨i, hi, -⟩ := h
    omega
  | succ n ih =>
    intro hg h
    show 0 < qG9 n g x x + g n * x n * x n
    obtain ⟨i, hi, hx⟩ := h
    by_cases h9 : i = n
    · have a := qG_nn (x := x) (n := n) (fun i hi => hg i (by omega))
      have b := Rat.mul_pos (hg n (by omega)) (sq_ps9 (d := x n) (by rw [← h9]; exact hx))
      grind
    · have a := ih (fun i hi => hg i (by omega)) ⟨i, by omega, hx⟩
      have b := Rat.mul_nonneg (Rat.le_of_lt (hg n (by omega))) (sq_nn9 (x n))
      grind
theorem ob_go (ℓ : Nat → Nat → Rat) (b : Nat) : ∀ (r k : Nat) (F : Nat → Nat → Rat), ob9 n g F k → k + r + b ≤ n → ∃ F2 : Nat → Nat → Rat, (∀ c, c < k → F2 c = F c) ∧ ob9 n g F2 (k + r) ∧ ∀ c, k ≤ c → c < k + r → ∀ e, e < b → qD9 n (ℓ e) (F2 c) = 0 := by
  intro r
  induction r with
  | zero => exact fun k F h _ => ⟨F, fun c _ => rfl, h, fun c h1 h2 => absurd h1 (by omega)⟩
  | succ r ih =>
    intro k F h hn
    obtain ⟨F1, h1, h2, h3⟩ := ih k F h (by omega)
    obtain ⟨x, hx, h4⟩ := lin_n (n := n) (fun e i => if e < b then ℓ e i else g i * F1 (e - b) i) (m := b + (k + r)) (by omega)
    have x1 : ∀ e, e < b → qD9 n (ℓ e) x = 0 := fun e he => by
      have := h4 e (by omega)
      rw [← this]
      exact qD_cg (fun i _ => (if_pos he).symm) (fun i _ => rfl)
    have x2 : ∀ c, c < k + r → qG9 n g (F1 c) x = 0 := fun c hc => by
      have := h4 (b + c) (by omega)
      rw [← this]
      refine qD_cg (v := fun i => g i * F1 c i) (fun i _ => ?_) (fun i _ => rfl)
      rw [if_neg (by omega), show b + c - b = c by omega]
    have f1 : ∀ c, c < k + r → (fun c => if c = k + r then x else F1 c) c = F1 c := fun c hc => if_neg (by omega)
    have f2 : (fun c => if c = k + r then x else F1 c) (k + r) = x := if_pos rfl
    refine ⟨fun c => if c = k + r then x else F1 c, fun c hc => (f1 c (by omega)).trans (h1 c hc), ⟨fun c hc => ?_, fun c d hc hd hcd => ?_⟩, fun c hc1 hc2 e he => ?_⟩
    · by_cases h9 : c = k + r
      · rw [h9, f2]
        exact hx
      · rw [f1 c (by omega)]
        exact h2.1 c (by omega)
    · by_cases h9 : c = k + r
      · rw [h9, f2, f1 d (by omega), qG_cm]
        exact x2 d (by omega)
      · by_cases h8 : d = k + r
        · rw [h8, f2, f1 c (by omega)]
          exact x2 c (by omega)
        · rw [f1 c (by omega), f1 d (by omega)]
          exact h2.2 c d (by omega) (by omega) hcd
    · by_cases h9 : c = k + r
      · rw [h9, f2]
        exact x1 e he
      · rw [f1 c (by omega)]
        exact h3 c hc1 (by omega) e he
theorem ob_full {F : Nat → Nat → Rat} {k : Nat} (h : ob9 n g F k) (hk : k ≤ n) : ∃ F2 : Nat → Nat → Rat, (∀ c, c < k → F2 c = F c) ∧ ob9 n g F2 n := by
  obtain ⟨F2, a, b, -⟩ := ob_go (n := n) (g := g) (fun _ _ => 0) 0 (n - k) k F h (by omega)
  rw [show k + (n - k) = n by omega] at b
  exact ⟨F2, a, b⟩
theorem ob_rev {F : Nat → Nat → Rat} (h : ob9 n g F n) : ob9 n g (fun c => F (n - 1 - c)) n := ⟨fun c hc => h.1 (n - 1 - c) (by omega), fun c d hc hd hcd => h.2 _ _ (by omega) (by omega) (by omega)⟩
theorem qG_sum {x : Nat → Rat} {c : Nat → Rat} {X : Nat → Nat → Rat} {m : Nat} : qG9 n g x (fun i => qS9 (fun l => c l * X l i) m) = qS9 (fun l => c l * qG9 n g x (X l)) m := qD_sum
/-- a full frame is another basis -/
theorem ob_cj (hg : ∀ i, i < n → 0 < g i) {F : Nat → Nat → Rat} (ho : ob9 n g F n) (A : mQ99) : ∃ (B P Q : mQ99) (g2 : Nat → Rat), cj9 n A B P Q ∧ (∀ c, c < n → ∀ i, i < n → qV9 n P (dl9 c) i = F c i) ∧ (∀ c, c < n → 0 < g2 c) ∧ ∀ x z, qG9 n g (qV9 n P x) (qV9 n P z) = qG9 n g2 x z := by
  have gp : ∀ c, c < n → 0 < qG9 n g (F c) (F c) := fun c hc => qG_ps hg (ho.1 c hc)
  have gF : ∀ c d, c < n → d < n → qG9 n g (F c) (F d) = qG9 n g (F c) (F c) * dl9 d c := fun c d hc hd => by
    by_cases h9 : c = d
    · subst h9
      rw [show dl9 c c = 1 from if_pos rfl]
      exact (Rat.mul_one _).symm
    · rw [ho.2 c d hc hd h9, show dl9 d c = 0 from if_neg h9]
      exact (Rat.mul_zero _).symm
  have qp : ∀ i, i < n → ∀ j, j < n → qS9 (fun k => (qG9 n g (F i) (F i))⁻¹ * (g k * F i k) * F j k) n = dl9 j i := fun i hi j hj => by
    have e1 : qS9 (fun k => (qG9 n g (F i) (F i))⁻¹ * (g k * F i k) * F j k) n = (qG9 n g (F i) (F i))⁻¹ * qG9 n g (F i) (F j) := by
      unfold qG9
      rw [← qS_mul]
      exact qS_cg (fun k _ => by grind)
    have hne : qG9 n g (F i) (F i) ≠ 0 := fun h => by
      have := gp i hi
      rw [h] at this
      exact absurd this (by decide)
    have e2 := Rat.inv_mul_cancel _ hne
    rw [e1, gF i j hi hj, ← Rat.mul_assoc, e2, Rat.one_mul]
  have hP : ∀ x i, qV9 n (fun i c => F c i) x i = qS9 (fun c => x c * F c i) n := fun x i => qS_cg (fun c _ => Rat.mul_comm _ _)
  refine ⟨fun i j => qV9 n (fun c i => (qG9 n g (F c) (F c))⁻¹ * (g i * F c i)) (qV9 n A (F j)) i, fun i c => F c i, fun c i => (qG9 n g (F c) (F c))⁻¹ * (g i * F c i), fun c => qG9 n g (F c) (F c), ⟨qp, fun x i hi => ?_⟩, fun c hc i hi => ?_, gp, fun x z => ?_⟩
  · have e1 : ∀ k, k < n → qV9 n (fun i j => qV9 n (fun c i => (qG9 n g (F c) (F c))⁻¹ * (g i * F c i)) (qV9 n A (F j)) i) x k = qV9 n (fun c i => (qG9 n g (F c) (F c))⁻¹ * (g i * F c i)) (qV9 n A (qV9 n (fun i c => F c i) x)) k := fun k hk => by
      have a1 : ∀ i, i < n → qV9 n A (qV9 n (fun i c => F c i) x) i = qS9 (fun c => x c * qV9 n A (F c) i) n := fun i _ => by
        rw [qV_cg (fun l _ => hP x l) i, qV_sum]
      rw [qV_cg a1 k, qV_sum]
      exact qS_cg (fun c _ => Rat.mul_comm _ _)
    rw [qV_cg e1 i]
    exact (sqr9 (P := fun i c => F c i) qp _ i hi).symm
  · have : qV9 n (fun i c => F c i) (dl9 c) i = qD9 n (dl9 c) (fun c => F c i) := qS_cg (fun k _ => Rat.mul_comm _ _)
    rw [this, qD_dl hc]
  · have e1 : qG9 n g (qV9 n (fun i c => F c i) x) (qV9 n (fun i c => F c i) z) = qG9 n g (fun i => qS9 (fun c => x c * F c i) n) (fun i => qS9 (fun d => z d * F d i) n) := qG_cg (fun i _ => hP x i) (fun i _ => hP z i)
    rw [e1, qG_sum]
    have e2 : ∀ d, d < n → z d * qG9 n g (fun i => qS9 (fun c => x c * F c i) n) (F d) = qG9 n g (F d) (F d) * x d * z d := fun d hd => by
      rw [qG_cm, qG_sum]
      have e3 : ∀ c, c < n → x c * qG9 n g (F d) (F c) = dl9 d c * (qG9 n g (F d) (F d) * x c) := fun c hc => by
        rw [gF d c hd hc]
        show x c * (qG9 n g (F d) (F d) * (if d = c then 1 else 0)) = (if c = d then 1 else 0) * (qG9 n g (F d) (F d) * x c)
        by_cases h9 : d = c
        · rw [if_pos h9, if_pos h9.symm]
          grind
        · rw [if_neg h9, if_neg (fun h => h9 h.symm)]
          grind
      rw [qS_cg e3]
      have e4 := qD_dl (x := fun c => qG9 n g (F d) (F d) * x c) hd
      unfold qD9 at e4
      rw [e4]
      grind
    exact qS_cg e2
/-- a basis whose last vector is y -/
theorem ob_last {m : Nat} {g : Nat → Rat} (hg : ∀ i, i < m + 1 → 0 < g i) {y : Nat → Rat} (hy : ∃ i, i < m + 1 ∧ y i ≠ 0) (A : mQ99) : ∃ (B P Q : mQ99) (g2 : Nat → Rat), cj9 (m + 1) A B P Q ∧ (∀ i, i < m + 1 → qV9 (m + 1) P (dl9 m) i = y i) ∧ (∀ c, c < m + 1 → 0 < g2 c) ∧ ∀ x z, qG9 (m + 1) g (qV9 (m + 1) P x) (qV9 (m + 1) P z) = qG9 (m + 1) g2 x z := by
  obtain ⟨F, f1, f2⟩ := ob_full (n := m + 1) (g := g) (F := fun _ => y) (k := 1) ⟨fun c _ => hy, fun c d hc hd hcd => absurd hcd (by omega)⟩ (by omega)
  obtain ⟨B, P, Q, g2, b1, b2, b3, b4⟩ := ob_cj hg (ob_rev f2) A
  refine ⟨B, P, Q, g2, b1, fun i hi => ?_, b3, b4⟩
  rw [b2 m (by omega) i hi, show m + 1 - 1 - m = 0 by omega, f1 0 (by omega)]
/-- no coefficients behind n; N_n = 0 -/
theorem ch9 : ∀ (n : Nat) (A : mQ99), (∀ k, n < k → qE9 A n k = 0) ∧ ∀ (x : Nat → Rat) j, n ≤ j → ∀ i, i < n → qN9 n A (qE9 A n) x j i = 0 := by
  intro n
  induction n with
  | zero => exact fun A => ⟨fun k hk => if_neg (by omega), fun x j _ i hi => absurd hi (by omega)⟩
  | succ n ih =>
    intro A
    have p1 : ∀ (A : mQ99) k, n + 1 < k → qE9 A (n + 1) k = 0 := fun A k hk => by
      obtain ⟨m, hm⟩ : ∃ m, k = m + 2 := ⟨k - 2, by omega⟩
      subst hm
      show qE9 A n (m + 2) + A n n * qE9 A n (m + 1) - qD9 n (A n) (qN9 n A (qE9 A n) (fun i => A i n) m) = 0
      have e1 : qD9 n (A n) (qN9 n A (qE9 A n) (fun i => A i n) m) = 0 := by
        unfold qD9
        rw [qS_cg (g := fun _ => 0) (fun i hi => by rw [(ih A).2 _ m (by omega) i hi]; exact Rat.mul_zero _), qS_0]
      rw [(ih A).1 (m + 2) (by omega), (ih A).1 (m + 1) (by omega), e1]
      grind
    have p2 : ∀ (B : mQ99) i, i < n + 1 → qN9 (n + 1) B (qE9 B (n + 1)) (dl9 n) (n + 1) i = 0 := fun B i hi => by
      by_cases h9 : i = n
      · rw [h9, (qN_col (n + 1)).1]
        exact (ih B).1 (n + 1) (by omega)
      · rw [(qN_col (n + 1)).2 i (by omega), if_neg (by omega), show n + 1 - 1 = n by omega, (ih B).2 _ n (Nat.le_refl n) i (by omega)]
        grind
    have p3 : ∀ (x : Nat → Rat) i, i < n + 1 → qN9 (n + 1) A (qE9 A (n + 1)) x (n + 1) i = 0 := fun x i hi => by
      by_cases hx : ∃ i, i < n + 1 ∧ x i ≠ 0
      · obtain ⟨B, P, Q, g2, b1, b2, -, -⟩ := ob_last (g := fun _ => 1) (fun _ _ => by decide) hx A
        have e1 := qN_cg (A := A) (E := qE9 A (n + 1)) (fun i hi => (b2 i hi).symm) (n + 1) i hi
        rw [e1, cj_N b1 _ (n + 1) i hi, show qE9 A (n + 1) = qE9 B (n + 1) from funext (cj_E b1), qV_cg (y := fun _ => 0) (fun i hi => p2 B i hi) i]
        unfold qV9
        rw [qS_cg (g := fun _ => 0) (fun k _ => Rat.mul_zero _), qS_0]
      · have e0 : ∀ i, i < n + 1 → x i = 0 := fun i hi => by
          by_cases h9 : x i = 0
          · exact h9
          · exact absurd ⟨i, hi, h9⟩ hx
        have e1 : ∀ j i, i < n + 1 → qN9 (n + 1) A (qE9 A (n + 1)) x j i = 0 := by
          intro j
          induction j with
          | zero => exact e0
          | succ j ihj =>
            intro i hi
            show qE9 A (n + 1) (j + 1) * x i - qV9 (n + 1) A (qN9 (n + 1) A (qE9 A (n + 1)) x j) i = 0
            rw [e0 i hi, qV_cg (y := fun _ => 0) ihj i]
            unfold qV9
            rw [qS_cg (g := fun _ => 0) (fun k _ => Rat.mul_zero _), qS_0]
            grind
        exact e1 (n + 1) i hi
    refine ⟨p1 A, fun x j hj => ?_⟩
    obtain ⟨d, hd⟩ : ∃ d, j = n + 1 + d := ⟨j - (n + 1), by omega⟩
    subst hd
    clear hj
    induction d with
    | zero => exact p3 x
    | succ d ihd =>
      intro i hi
      show qE9 A (n + 1) (n + 1 + d + 1) * x i - qV9 (n + 1) A (qN9 (n + 1) A (qE9 A (n + 1)) x (n + 1 + d)) i = 0
      rw [p1 A _ (by omega), qV_cg (y := fun _ => 0) ihd i]
      unfold qV9
      rw [qS_cg (g := fun _ => 0) (fun k _ => Rat.mul_zero _), qS_0]
      grind
end XSGD
end
section
/-! 99zzzzzzzzzzzzzzzzyzzn.xsge -/
/-! signature: Newton's inequality for forms; what a border does to the changes of sign -/
/-- g A is symmetric -/
def syG9 (n : Nat) (g : Nat → Rat) (A : mQ99) : Prop := ∀ i j, i < n → j < n → g i * A i j = g j * A j i
section XSGE
variable {n : Nat} {g : Nat → Rat} {A : mQ99}
theorem sy_le {m : Nat} (h : syG9 n g A) (hm : m ≤ n) : syG9 m g A := fun i j hi hj => h i j (by omega) (by omega)
theorem sy_adj (h : syG9 n g A) (x y : Nat → Rat) : qG9 n g x (qV9 n A y) = qG9 n g (qV9 n A x) y := by
  unfold qG9 qV9
  have e1 : ∀ i, i < n → g i * x i * qS9 (fun k => A i k * y k) n = qS9 (fun k => x i * y k * (g k * A k i)) n := fun i hi => by
    rw [← qS_mul]
    refine qS_cg (fun k hk => ?_)
    have := h i k hi hk
    rw [← this]
    grind
  have e2 : ∀ k, k < n → g k * qS9 (fun i => A k i * x i) n * y k = qS9 (fun i => x i * y k * (g k * A k i)) n := fun k hk => by
    rw [show g k * qS9 (fun i => A k i * x i) n * y k = (g k * y k) * qS9 (fun i => A k i * x i) n by grind, ← qS_mul]
    exact qS_cg (fun i _ => by grind)
  rw [qS_cg e1, qS_cg e2, qS_sw]
theorem qG_dl {x : Nat → Rat} {c : Nat} (hc : c < n) : qG9 n g (dl9 c) x = g c * x c := by
  have : qG9 n g (dl9 c) x = qD9 n (dl9 c) (fun i => g i * x i) := qS_cg (fun i _ => by grind)
  rw [this, qD_dl hc]
theorem qV_col {j i : Nat} (hj : j < n) : qV9 n A (dl9 j) i = A i j := by
  have : qV9 n A (dl9 j) i = qD9 n (dl9 j) (A i) := qS_cg (fun k _ => Rat.mul_comm _ _)
  rw [this, qD_dl hj]
theorem sy_of (h : ∀ x y, qG9 n g x (qV9 n A y) = qG9 n g (qV9 n A x) y) : syG9 n g A := fun i j hi hj => by
  have := h (dl9 i) (dl9 j)
  rw [qG_dl hi, qG_cm, qG_dl hj, qV_col hj, qV_col hi] at this
  exact this
/-- another basis keeps the form symmetric -/
theorem sy_cj {B P Q : mQ99} {g2 : Nat → Rat} (h : cj9 n A B P Q) (hG : ∀ x z, qG9 n g (qV9 n P x) (qV9 n P z) = qG9 n g2 x z) (hs : syG9 n g A) : syG9 n g2 B := sy_of (fun x y => by
  rw [← hG, ← hG, ← qG_cg (x := qV9 n P x) (fun i _ => rfl) (h.2 y), sy_adj hs, qG_cg (h.2 x) (fun i _ => rfl)])
theorem qW_cg {E x y : Nat → Rat} (h : ∀ i, i < n → x i = y i) (j i : Nat) (hi : i < n) : qW9 n A E x j i = qW9 n A E y j i := by
  unfold qW9
  rw [qN_cg h j i hi, qN_cg h (j - 1) i hi]
theorem cj_W {B P Q : mQ99} (h : cj9 n A B P Q) {E : Nat → Rat} (x : Nat → Rat) (j i : Nat) (hi : i < n) : qW9 n A E (qV9 n P x) j i = qV9 n P (qW9 n B E x j) i := by
  unfold qW9
  by_cases h9 : j = 0
  · rw [if_pos h9, cj_N h x j i hi]
    have e3 : qV9 n P (fun i => E j * qN9 n B E x j i - E (j + 1) * (if j = 0 then 0 else qN9 n B E x (j - 1) i)) i = qD9 n (P i) (fun k => E j * qN9 n B E x j k - 0 * x k) := qS_cg (fun k _ => by dsimp only; rw [if_pos h9]; grind)
    rw [e3, qD_lin]
    show E j * qV9 n P (qN9 n B E x j) i - E (j + 1) * 0 = E j * qV9 n P (qN9 n B E x j) i - 0 * qD9 n (P i) x
    grind
  · rw [if_neg h9, cj_N h x j i hi, cj_N h x (j - 1) i hi]
    have e3 : qV9 n P (fun i => E j * qN9 n B E x j i - E (j + 1) * (if j = 0 then 0 else qN9 n B E x (j - 1) i)) i = qD9 n (P i) (fun k => E j * qN9 n B E x j k - E (j + 1) * qN9 n B E x (j - 1) k) := qS_cg (fun k _ => by dsimp only; rw [if_neg h9])
    rw [e3, qD_lin]
    rfl
/-- from W to U -/
theorem wn_U (hg : ∀ i, i < n → 0 < g i) (hW : ∀ y j, 0 ≤ qG9 n g y (qW9 n A (qE9 A n) y j)) (k : Nat) : 0 ≤ qE9 A n (k + 1) * qE9 A n (k + 1) - qE9 A n (k + 2) * qE9 A n k ∧ (qE9 A n (k + 1) ≠ 0 → 0 < qE9 A n (k + 1) * qE9 A n (k + 1) - qE9 A n (k + 2) * qE9 A n k) := by
  by_cases hk : k < n
  · have e1 : ∀ c, c < n → 0 ≤ qW9 n A (qE9 A n) (dl9 c) (k + 1) c := fun c hc => by
      have a := hW (dl9 c) (k + 1)
      rw [qG_dl hc] at a
      rcases Rat.le_total (a := 0) (b := qW9 n A (qE9 A n) (dl9 c) (k + 1) c) with h | h
      · exact h
      · by_cases h0 : qW9 n A (qE9 A n) (dl9 c) (k + 1) c = 0
        · rw [h0]
          exact Rat.le_refl
        · have b : 0 < -qW9 n A (qE9 A n) (dl9 c) (k + 1) c := Rat.lt_of_le_of_ne (by grind) (by grind)
          have d := Rat.mul_pos (hg c hc) b
          grind
    have e2 : ∀ m, m ≤ n → 0 ≤ qS9 (fun c => qW9 n A (qE9 A n) (dl9 c) (k + 1) c) m := by
      intro m
      induction m with
      | zero => exact fun _ => Rat.le_refl
      | succ m ih =>
        intro hm
        exact Rat.add_nonneg (ih (by omega)) (e1 m (by omega))
    have e3 : qS9 (fun c => qW9 n A (qE9 A n) (dl9 c) (k + 1) c) n = qE9 A n (k + 1) * (((n : Rat) - ((k + 1 : Nat) : Rat)) * qE9 A n (k + 1)) - qE9 A n (k + 2) * (((n : Rat) - (k : Rat)) * qE9 A n k) := by
      have a1 : qS9 (fun c => qW9 n A (qE9 A n) (dl9 c) (k + 1) c) n = qS9 (fun c => qE9 A n (k + 1) * qN9 n A (qE9 A n) (dl9 c) (k + 1) c + -qE9 A n (k + 2) * qN9 n A (qE9 A n) (dl9 c) k c) n := qS_cg (fun c _ => by
        unfold qW9
        rw [if_neg (by omega), show k + 1 - 1 = k by omega]
        grind)
      rw [a1, qS_add, qS_mul, qS_mul, tr_E, tr_E]
      grind
    have e4 := e2 n (Nat.le_refl n)
    rw [e3, cs_s] at e4
    have hnk : 0 < (n : Rat) - (k : Rat) := by
      have : ((k : Int) : Rat) < ((n : Int) : Rat) := Rat.intCast_lt_intCast.mpr (by omega)
      have h2 : (k : Rat) < (n : Rat) := this
      grind
    have e5 : qE9 A n (k + 1) * qE9 A n (k + 1) ≤ ((n : Rat) - (k : Rat)) * (qE9 A n (k + 1) * qE9 A n (k + 1) - qE9 A n (k + 2) * qE9 A n k) := by grind
    have e6 := sq_nn9 (qE9 A n (k + 1))
    generalize qE9 A n (k + 1) * qE9 A n (k + 1) - qE9 A n (k + 2) * qE9 A n k = U at e5 ⊢
    refine ⟨?_, fun hne => ?_⟩
    · rcases Rat.le_total (a := 0) (b := U) with h | h
      · exact h
      · by_cases h0 : U = 0
        · rw [h0]
          exact Rat.le_refl
        · have b : 0 < -U := Rat.lt_of_le_of_ne (by grind) (by grind)
          have d := Rat.mul_pos hnk b
          grind
    · have e7 := sq_ps9 hne
      have e8 : 0 < ((n : Rat) - (k : Rat)) * U := by grind
      exact (Rat.mul_pos_iff_of_pos_left hnk).mp e8
  · have e1 := (ch9 n A).1 (k + 1) (by omega)
    have e2 := (ch9 n A).1 (k + 2) (by omega)
    rw [e1, e2]
    refine ⟨by grind, fun h => absurd rfl h⟩
end XSGE
/-- W is never negative -/
theorem wn9 : ∀ (n : Nat) (A : mQ99) (g : Nat → Rat), (∀ i, i < n → 0 < g i) → syG9 n g A → ∀ y j, 0 ≤ qG9 n g y (qW9 n A (qE9 A n) y j) := by
  intro n
  induction n with
  | zero => exact fun A g _ _ y j => Rat.le_refl
  | succ n ih =>
    intro A g hg hs y j
    cases j with
    | zero =>
      have : qG9 (n + 1) g y (qW9 (n + 1) A (qE9 A (n + 1)) y 0) = qG9 (n + 1) g y y := qG_cg (fun i _ => rfl) (fun i _ => by
        show qE9 A (n + 1) 0 * y i - qE9 A (n + 1) 1 * 0 = y i
        rw [qE_0]
        grind)
      rw [this]
      exact qG_nn hg
    | succ k =>
      by_cases hy : ∃ i, i < n + 1 ∧ y i ≠ 0
      · obtain ⟨B, P, Q, g2, b1, b2, b3, b4⟩ := ob_last hg hy A
        have hB := sy_cj b1 b4 hs
        have e1 : qG9 (n + 1) g y (qW9 (n + 1) A (qE9 A (n + 1)) y (k + 1)) = qG9 (n + 1) g (qV9 (n + 1) P (dl9 n)) (qV9 (n + 1) P (qW9 (n + 1) B (qE9 B (n + 1)) (dl9 n) (k + 1))) := qG_cg (fun i hi => (b2 i hi).symm) (fun i hi => by
          rw [qW_cg (fun i hi => (b2 i hi).symm) (k + 1) i hi, cj_W b1 _ (k + 1) i hi, show qE9 A (n + 1) = qE9 B (n + 1) from funext (cj_E b1)])
        rw [e1, b4, qG_dl (by omega), qW_cor, qQ_s]
        have g9 := b3 n (by omega)
        have gn : ∀ i, i < n → 0 < g2 i := fun i hi => b3 i (by omega)
        have sn := sy_le hB (show n ≤ n + 1 by omega)
        have wB := ih B g2 gn sn
        have u1 := (wn_U gn wB k).1
        have u2 : g2 n * qD9 n (B n) (qW9 n B (qE9 B n) (fun i => B i n) k) = qG9 n g2 (fun i => B i n) (qW9 n B (qE9 B n) (fun i => B i n) k) := by
          unfold qD9 qG9
          rw [← qS_mul]
          refine qS_cg (fun i hi => ?_)
          have := hB n i (by omega) (by omega)
          rw [← Rat.mul_assoc, this]
        have u3 := wB (fun i => B i n) k
        have u4 := Rat.mul_nonneg (Rat.le_of_lt g9) u1
        rw [← u2] at u3
        grind
      · have e0 : ∀ i, i < n + 1 → y i = 0 := fun i hi => by
          by_cases h9 : y i = 0
          · exact h9
          · exact absurd ⟨i, hi, h9⟩ hy
        have : qG9 (n + 1) g y (qW9 (n + 1) A (qE9 A (n + 1)) y (k + 1)) = 0 := by
          unfold qG9
          rw [qS_cg (g := fun _ => 0) (fun i hi => by rw [e0 i hi]; grind), qS_0]
        rw [this]
        exact Rat.le_refl
/-- what lemma Z wants -/
theorem bqG9 {n : Nat} {A : mQ99} {g : Nat → Rat} (hg : ∀ i, i < n + 1 → 0 < g i) (hs : syG9 (n + 1) g A) (k : Nat) (hk : qE9 A n (k + 1) ≠ 0) : 0 < qE9 A (n + 1) (k + 1) * qE9 A n (k + 1) - qE9 A (n + 1) (k + 2) * qE9 A n k := by
  have gn : ∀ i, i < n → 0 < g i := fun i hi => hg i (by omega)
  have wB := wn9 n A g gn (sy_le hs (by omega))
  have u1 := (wn_U gn wB k).2 hk
  have u2 : g n * qD9 n (A n) (qW9 n A (qE9 A n) (fun i => A i n) k) = qG9 n g (fun i => A i n) (qW9 n A (qE9 A n) (fun i => A i n) k) := by
    unfold qD9 qG9
    rw [← qS_mul]
    refine qS_cg (fun i hi => ?_)
    have := hs n i (by omega) (by omega)
    rw [← Rat.mul_assoc, this]
  have u3 := wB (fun i => A i n) k
  rw [← u2] at u3
  have g9 := hg n (by omega)
  rw [qQ_s]
  have u5 := Rat.mul_pos g9 u1
  have u6 : 0 < g n * ((qE9 A n (k + 1) * qE9 A n (k + 1) - qE9 A n (k + 2) * qE9 A n k) + qD9 n (A n) (qW9 n A (qE9 A n) (fun i => A i n) k)) := by grind
  exact (Rat.mul_pos_iff_of_pos_left g9).mp u6
end
section
/-! 99zzzzzzzzzzzzzzzzyzzo.xsgf -/
/-! signature: the changes of sign of a form, and what subspaces say of them -/
def nuQ9 (e : Nat → Rat) (k : Nat) : Int := (e k).num
/-- changes of sign: of the coefficients, and with every second sign turned -/
def vM9 (A : mQ99) (n : Nat) : Nat := (wv9 (nuQ9 (qE9 A n)) n).1
def vP9 (A : mQ99) (n : Nat) : Nat := (wv9 (tw9 (nuQ9 (qE9 A n))) n).1
def sgQ9 (x y : Int) : Prop := (0 < x ↔ 0 < y) ∧ (x < 0 ↔ y < 0)
section XSGF
theorem nu_ps {q : Rat} : 0 < q.num ↔ 0 < q := by
  constructor
  · intro h
    refine Rat.lt_of_le_of_ne (Rat.num_nonneg.mp (by omega)) (fun h9 => ?_)
    rw [← h9] at h
    exact absurd h (by decide)
  · intro h
    have h1 : 0 ≤ q.num := Rat.num_nonneg.mpr (Rat.le_of_lt h)
    have h2 : q.num ≠ 0 := fun h9 => by
      rw [Rat.num_eq_zero.mp h9] at h
      exact absurd h (by decide)
    omega
theorem nu_ng {q : Rat} : q.num < 0 ↔ q < 0 := by
  have := nu_ps (q := -q)
  rw [Rat.neg_num] at this
  constructor
  · intro h
    have := this.mp (by omega)
    grind
  · intro h
    have := this.mpr (by grind)
    omega
theorem sg_op {a b c d : Int} (h1 : sgQ9 a b) (h2 : sgQ9 c d) : opp9 a c ↔ opp9 b d := by
  unfold opp9
  rw [h1.1, h1.2, h2.1, h2.2]
theorem sg_0 {a b : Int} (h : sgQ9 a b) : a = 0 ↔ b = 0 := by
  have := h.1
  have := h.2
  omega
theorem wv_sg {a b : Nat → Int} (h : ∀ k, sgQ9 (a k) (b k)) : ∀ n, (wv9 a n).1 = (wv9 b n).1 ∧ sgQ9 (wv9 a n).2 (wv9 b n).2 := by
  intro n
  induction n with
  | zero => exact ⟨rfl, h 0⟩
  | succ n ih =>
    by_cases h0 : a (n + 1) = 0
    · rw [wv_z h0, wv_z ((sg_0 (h (n + 1))).mp h0)]
      exact ih
    · rw [wv_s h0, wv_s (fun h9 => h0 ((sg_0 (h (n + 1))).mpr h9))]
      refine ⟨?_, h (n + 1)⟩
      show (wv9 a n).1 + (if opp9 (wv9 a n).2 (a (n + 1)) then 1 else 0) = (wv9 b n).1 + (if opp9 (wv9 b n).2 (b (n + 1)) then 1 else 0)
      have := sg_op ih.2 (h (n + 1))
      rw [ih.1]
      by_cases ho : opp9 (wv9 a n).2 (a (n + 1))
      · rw [if_pos ho, if_pos (this.mp ho)]
      · rw [if_neg ho, if_neg (fun h9 => ho (this.mpr h9))]
theorem sg_tw {a b : Nat → Int} (h : ∀ k, sgQ9 (a k) (b k)) (k : Nat) : sgQ9 (tw9 a k) (tw9 b k) := by
  have := h k
  unfold sgQ9 at *
  unfold tw9
  split <;> omega
theorem den_ex (e : Nat → Rat) : ∀ K, ∃ D : Nat, 0 < D ∧ ∀ k, k < K → ∃ z : Int, (z : Rat) = e k * (D : Rat) := by
  intro K
  induction K with
  | zero => exact ⟨1, by omega, fun k hk => absurd hk (by omega)⟩
  | succ K ih =>
    obtain ⟨D, h1, h2⟩ := ih
    have hd : (e K) * ((e K).den : Rat) = ((e K).num : Rat) := by
      have a1 : Rat.divInt (e K).num ((e K).den : Int) = e K := Rat.num_divInt_den (e K)
      rw [Rat.divInt_eq_div] at a1
      have hne : (((e K).den : Int) : Rat) ≠ 0 := fun h => by
        have := (Rat.natCast_eq_zero_iff (a := (e K).den)).mp h
        exact (e K).den_nz this
      have a2 := Rat.div_mul_cancel (a := (((e K).num : Int) : Rat)) hne
      rw [a1] at a2
      exact a2
    refine ⟨D * (e K).den, Nat.mul_pos h1 (e K).den_pos, fun k hk => ?_⟩
    by_cases h9 : k = K
    · subst h9
      refine ⟨(e k).num * (D : Int), ?_⟩
      rw [Rat.intCast_mul, ← hd, Rat.natCast_mul]
      show e k * ((e k).den : Rat) * (D : Rat) = _
      grind
    · obtain ⟨z, hz⟩ := h2 k (by omega)
      refine ⟨z * ((e K).den : Int), ?_⟩
      rw [Rat.intCast_mul, hz, Rat.natCast_mul]
      show e k * (D : Rat) * ((e K).den : Rat) = _
      grind
theorem int_ex {e : Nat → Rat} {K : Nat} (hK : ∀ k, K ≤ k → e k = 0) : ∃ (D : Rat) (z : Nat → Int), 0 < D ∧ (∀ k, ((z k : Int) : Rat) = e k * D) ∧ ∀ k, sgQ9 (z k) (nuQ9 e k) := by
  obtain ⟨D, h1, h2⟩ := den_ex e K
  have h3 : ∀ k, ∃ z : Int, (z : Rat) = e k * (D : Rat) := fun k => by
    by_cases h9 : k < K
    · exact h2 k h9
    · refine ⟨0, ?_⟩
      rw [hK k (by omega), Rat.zero_mul]
      rfl
  have hD : (0 : Rat) < (D : Rat) := Rat.natCast_pos.mpr h1
  refine ⟨(D : Rat), fun k => Classical.choose (h3 k), hD, fun k => Classical.choose_spec (h3 k), fun k => ?_⟩
  have h4 := Classical.choose_spec (h3 k)
  show sgQ9 (Classical.choose (h3 k)) (nuQ9 e k)
  generalize Classical.choose (h3 k) = z at h4
  have p1 : 0 < z ↔ 0 < e k := by
    rw [← Rat.intCast_pos, h4]
    exact Rat.mul_pos_iff_of_pos_right hD
  have p2 : z < 0 ↔ e k < 0 := by
    have : ((z : Int) : Rat) < ((0 : Int) : Rat) ↔ z < 0 := Rat.intCast_lt_intCast
    rw [← this, h4]
    exact Rat.mul_neg_iff_of_pos_right hD
  exact ⟨p1.trans nu_ps.symm, p2.trans nu_ng.symm⟩
theorem zetq {e f : Nat → Rat} {K : Nat} (he : ∀ k, K ≤ k → e k = 0) (hf : ∀ k, K ≤ k → f k = 0) (h0 : e 0 = 1) (g0 : f 0 = 1) (h : ∀ k, f (k + 1) ≠ 0 → 0 < e (k + 1) * f (k + 1) - e (k + 2) * f k) (n : Nat) : (wv9 (nuQ9 f) n).1 ≤ (wv9 (nuQ9 e) (n + 1)).1 ∧ (wv9 (tw9 (nuQ9 f)) n).1 ≤ (wv9 (tw9 (nuQ9 e)) (n + 1)).1 := by
  obtain ⟨D, z, d1, d2, d3⟩ := int_ex he
  obtain ⟨C, y, c1, c2, c3⟩ := int_ex hf
  have z0 : 0 < z 0 := by
    rw [(d3 0).1]
    show 0 < (e 0).num
    rw [h0]
    decide
  have y0 : 0 < y 0 := by
    rw [(c3 0).1]
    show 0 < (f 0).num
    rw [g0]
    decide
  have key := zet_tw (e := z) (f := y) z0 y0 (fun k hk => by
    have hk2 : f (k + 1) ≠ 0 := fun h9 => hk (by
      have := c2 (k + 1)
      rw [h9, Rat.zero_mul] at this
      have : ((y (k + 1) : Int) : Rat) = ((0 : Int) : Rat) := this
      exact Rat.intCast_inj.mp this)
    have a := h k hk2
    have b := Rat.mul_pos (Rat.mul_pos d1 c1) a
    rw [← Rat.intCast_pos, Rat.intCast_sub, Rat.intCast_mul, Rat.intCast_mul, d2, d2, c2, c2]
    grind) n
  rw [(wv_sg c3 n).1, (wv_sg d3 (n + 1)).1, (wv_sg (sg_tw c3) n).1, (wv_sg (sg_tw d3) (n + 1)).1] at key
  exact key
variable {n : Nat} {g : Nat → Rat} {A : mQ99}
theorem v_up (hg : ∀ i, i < n + 1 → 0 < g i) (hs : syG9 (n + 1) g A) : vM9 A n ≤ vM9 A (n + 1) ∧ vP9 A n ≤ vP9 A (n + 1) := zetq (K := n + 2) (fun k hk => (ch9 (n + 1) A).1 k (by omega)) (fun k hk => (ch9 n A).1 k (by omega)) qE_0 qE_0 (bqG9 hg hs) n
theorem v_mono {m : Nat} : ∀ {n : Nat}, m ≤ n → (∀ i, i < n → 0 < g i) → syG9 n g A → vM9 A m ≤ vM9 A n ∧ vP9 A m ≤ vP9 A n := by
  intro n
  induction n with
  | zero =>
    intro h _ _
    rw [show m = 0 by omega]
    exact ⟨Nat.le_refl _, Nat.le_refl _⟩
  | succ n ih =>
    intro h hg hs
    by_cases h9 : m = n + 1
    · rw [h9]
      exact ⟨Nat.le_refl _, Nat.le_refl _⟩
    · have a := ih (by omega) (fun i hi => hg i (by omega)) (sy_le hs (by omega))
      have b := v_up hg hs
      exact ⟨Nat.le_trans a.1 b.1, Nat.le_trans a.2 b.2⟩
theorem v_cj {B P Q : mQ99} (h : cj9 n A B P Q) : vM9 A n = vM9 B n ∧ vP9 A n = vP9 B n := by
  unfold vM9 vP9
  rw [show qE9 A n = qE9 B n from funext (cj_E h)]
  exact ⟨rfl, rfl⟩
theorem v_sum : vM9 A n + vP9 A n ≤ n := by
  obtain ⟨q, q1, -, -, -, -, q2⟩ := vv_le (e := nuQ9 (qE9 A n)) (by
    show (qE9 A n 0).num ≠ 0
    rw [qE_0]
    decide) n
  exact Nat.le_trans q2 q1
theorem v_rk {b : Nat} (hb : ∀ k, b < k → qE9 A n k = 0) : vM9 A n + vP9 A n ≤ b := by
  obtain ⟨q, q1, -, -, q3, -, q2⟩ := vv_le (e := nuQ9 (qE9 A n)) (by
    show (qE9 A n 0).num ≠ 0
    rw [qE_0]
    decide) n
  by_cases h9 : q ≤ b
  · exact Nat.le_trans q2 h9
  · refine absurd ?_ q3
    show (qE9 A n q).num = 0
    rw [hb q (by omega)]
    rfl
end XSGF
end
section
/-! 99zzzzzzzzzzzzzzzzyzzp.xsgg -/
/-! signature: positive on a subspace; a kernel -/
def pdQ9 (n : Nat) (g : Nat → Rat) (A : mQ99) : Prop := ∀ x : Nat → Rat, (∃ i, i < n ∧ x i ≠ 0) → 0 < qG9 n g x (qV9 n A x)
section XSGG
variable {n : Nat} {g : Nat → Rat} {A : mQ99}
theorem qS_cut {f : Nat → Rat} {m : Nat} : ∀ {n : Nat}, m ≤ n → (∀ i, m ≤ i → i < n → f i = 0) → qS9 f n = qS9 f m := by
  intro n
  induction n with
  | zero =>
    intro h _
    rw [show m = 0 by omega]
  | succ n ih =>
    intro h hz
    by_cases h9 : m = n + 1
    · rw [h9]
    · show qS9 f n + f n = qS9 f m
      rw [ih (by omega) (fun i h1 h2 => hz i h1 (by omega)), hz n (by omega) (by omega), Rat.add_zero]
theorem qV_cut {m : Nat} (h : m ≤ n) {x : Nat → Rat} (hx : ∀ i, m ≤ i → i < n → x i = 0) (i : Nat) : qV9 n A x i = qV9 m A x i := qS_cut h (fun k h1 h2 => by rw [hx k h1 h2, Rat.mul_zero])
theorem qG_cut {m : Nat} (h : m ≤ n) {x y : Nat → Rat} (hx : ∀ i, m ≤ i → i < n → x i = 0) : qG9 n g x y = qG9 m g x y := qS_cut h (fun k h1 h2 => by rw [hx k h1 h2]; grind)
theorem pd_le {m : Nat} (h : m ≤ n) (hp : pdQ9 n g A) : pdQ9 m g A := by
  intro x hx
  obtain ⟨i, hi, hne⟩ := hx
  have e : ∀ i, m ≤ i → i < n → (fun i => if i < m then x i else 0) i = 0 := fun i h1 _ => if_neg (by omega)
  have a := hp (fun i => if i < m then x i else 0) ⟨i, by omega, by
    show (if i < m then x i else 0) ≠ 0
    rw [if_pos hi]
    exact hne⟩
  rw [qG_cut h e, qG_cg (x2 := x) (y2 := qV9 m A x) (fun i hi => if_pos hi) (fun i hi => by
    rw [qV_cut h e]
    exact qV_cg (fun k hk => if_pos hk) i)] at a
  exact a
theorem pd_det : ∀ {n : Nat}, (∀ i, i < n → 0 < g i) → pdQ9 n g A → 0 < qE9 A n n := by
  intro n
  induction n with
  | zero =>
    intro _ _
    show (0 : Rat) < 1
    decide
  | succ n ih =>
    intro hg hp
    have D := ih (fun i hi => hg i (by omega)) (pd_le (by omega) hp)
    cases n with
    | zero =>
      have a := hp (dl9 0) ⟨0, by omega, by
        show (if 0 = 0 then (1 : Rat) else 0) ≠ 0
        rw [if_pos rfl]
        exact fun h => absurd h (by decide)⟩
      rw [qG_dl (by omega), qV_col (by omega)] at a
      have b := (Rat.mul_pos_iff_of_pos_left (hg 0 (by omega))).mp a
      show 0 < qE9 A 0 1 + A 0 0
      rw [show qE9 A 0 1 = 0 from rfl, Rat.zero_add]
      exact b
    | succ n =>
      have hD : qE9 A (n + 1) (n + 1) ≠ 0 := fun h => by
        rw [h] at D
        exact absurd D (by decide)
      -- A z = w, z = N_n w / D
      have hz : ∀ i, i < n + 1 → qV9 (n + 1) A (qN9 (n + 1) A (qE9 A (n + 1)) (fun i => A i (n + 1)) n) i = qE9 A (n + 1) (n + 1) * A i (n + 1) := fun i hi => by
        have a := (ch9 (n + 1) A).2 (fun i => A i (n + 1)) (n + 1) (Nat.le_refl _) i hi
        have b : qE9 A (n + 1) (n + 1) * A i (n + 1) - qV9 (n + 1) A (qN9 (n + 1) A (qE9 A (n + 1)) (fun i => A i (n + 1)) n) i = 0 := a
        grind
      have hE : qE9 A (n + 1 + 1) (n + 1 + 1) = A (n + 1) (n + 1) * qE9 A (n + 1) (n + 1) - qD9 (n + 1) (A (n + 1)) (qN9 (n + 1) A (qE9 A (n + 1)) (fun i => A i (n + 1)) n) := by
        show qE9 A (n + 1) (n + 2) + A (n + 1) (n + 1) * qE9 A (n + 1) (n + 1) - qD9 (n + 1) (A (n + 1)) (qN9 (n + 1) A (qE9 A (n + 1)) (fun i => A i (n + 1)) n) = _
        rw [(ch9 (n + 1) A).1 (n + 2) (by omega)]
        grind
      have x1 : ∀ i, i < n + 1 → (fun i => if i = n + 1 then qE9 A (n + 1) (n + 1) else -qN9 (n + 1) A (qE9 A (n + 1)) (fun i => A i (n + 1)) n i) i = -qN9 (n + 1) A (qE9 A (n + 1)) (fun i => A i (n + 1)) n i := fun i hi => if_neg (by omega)
      have x2 : (fun i => if i = n + 1 then qE9 A (n + 1) (n + 1) else -qN9 (n + 1) A (qE9 A (n + 1)) (fun i => A i (n + 1)) n i) (n + 1) = qE9 A (n + 1) (n + 1) := if_pos rfl
      have a := hp (fun i => if i = n + 1 then qE9 A (n + 1) (n + 1) else -qN9 (n + 1) A (qE9 A (n + 1)) (fun i => A i (n + 1)) n i) ⟨n + 1, by omega, by rw [if_pos rfl]; exact hD⟩
      generalize (fun i => if i = n + 1 then qE9 A (n + 1) (n + 1) else -qN9 (n + 1) A (qE9 A (n + 1)) (fun i => A i (n + 1)) n i) = x at a x1 x2
      have v1 : ∀ i, qV9 (n + 1 + 1) A x i = -qV9 (n + 1) A (qN9 (n + 1) A (qE9 A (n + 1)) (fun i => A i (n + 1)) n) i + A i (n + 1) * qE9 A (n + 1) (n + 1) := fun i => by
        show qS9 (fun k => A i k * x k) (n + 1) + A i (n + 1) * x (n + 1) = _
        rw [x2]
        unfold qV9
        rw [← qS_neg]
        refine congrArg (fun s => s + A i (n + 1) * qE9 A (n + 1) (n + 1)) (qS_cg (fun k hk => ?_))
        rw [x1 k hk]
        grind
      have g1 : qG9 (n + 1 + 1) g x (qV9 (n + 1 + 1) A x) = g (n + 1) * qE9 A (n + 1) (n + 1) * qE9 A (n + 1 + 1) (n + 1 + 1) := by
        show qG9 (n + 1) g x (qV9 (n + 1 + 1) A x) + g (n + 1) * x (n + 1) * qV9 (n + 1 + 1) A x (n + 1) = _
        have e0 : qG9 (n + 1) g x (qV9 (n + 1 + 1) A x) = 0 := by
          unfold qG9
          rw [qS_cg (g := fun _ => 0) (fun i hi => by
            rw [v1 i, hz i hi]
            grind), qS_0]
        rw [e0, x2, v1, hE]
        show _ + g (n + 1) * qE9 A (n + 1) (n + 1) * (-qD9 (n + 1) (A (n + 1)) (qN9 (n + 1) A (qE9 A (n + 1)) (fun i => A i (n + 1)) n) + A (n + 1) (n + 1) * qE9 A (n + 1) (n + 1)) = _
        grind
      rw [g1] at a
      exact (Rat.mul_pos_iff_of_pos_left (Rat.mul_pos (hg (n + 1) (by omega)) D)).mp a
theorem pd_V : ∀ {n : Nat}, (∀ i, i < n → 0 < g i) → syG9 n g A → pdQ9 n g A → vP9 A n = n := by
  intro n
  induction n with
  | zero => exact fun _ _ _ => rfl
  | succ n ih =>
    intro hg hs hp
    have a := ih (fun i hi => hg i (by omega)) (sy_le hs (by omega)) (pd_le (by omega) hp)
    have b := (v_up hg hs).2
    have c := v_sum (A := A) (n := n + 1)
    have d := pd_det hg hp
    have hne : nuQ9 (qE9 A (n + 1)) (n + 1) ≠ 0 := by
      have := nu_ps.mpr d
      show (qE9 A (n + 1) (n + 1)).num ≠ 0
      omega
    have t0 : 0 < tw9 (nuQ9 (qE9 A (n + 1))) 0 := by
      rw [tw_e rfl]
      show 0 < (qE9 A (n + 1) 0).num
      rw [qE_0]
      decide
    have p := (wv_par t0 (n + 1)).2
    have w2 : (wv9 (tw9 (nuQ9 (qE9 A (n + 1)))) (n + 1)).2 = tw9 (nuQ9 (qE9 A (n + 1))) (n + 1) := by
      rw [wv_s (fun h => hne (tw_z.mp h))]
    rw [w2] at p
    have ps : 0 < nuQ9 (qE9 A (n + 1)) (n + 1) := nu_ps.mpr d
    have pe : vP9 A (n + 1) % 2 = 1 ↔ tw9 (nuQ9 (qE9 A (n + 1))) (n + 1) < 0 := p
    rcases Nat.mod_two_eq_zero_or_one (n + 1) with h9 | h9
    · rw [tw_e h9] at pe
      omega
    · rw [tw_o h9] at pe
      omega
/-- positive where b numbers are 0: at least n - b -/
theorem vP_ge (hg : ∀ i, i < n → 0 < g i) (hs : syG9 n g A) {b : Nat} (ℓ : Nat → Nat → Rat) (hb : b ≤ n) (h : ∀ x : Nat → Rat, (∃ i, i < n ∧ x i ≠ 0) → (∀ e, e < b → qD9 n (ℓ e) x = 0) → 0 < qG9 n g x (qV9 n A x)) : n - b ≤ vP9 A n := by
  obtain ⟨F1, -, o1, l1⟩ := ob_go (n := n) (g := g) ℓ b (n - b) 0 (fun _ _ => 0) ⟨fun c hc => absurd hc (by omega), fun c d hc => absurd hc (by omega)⟩ (by omega)
  rw [Nat.zero_add] at o1 l1
  obtain ⟨F, f1, o2⟩ := ob_full o1 (by omega)
  obtain ⟨B, P, Q, g2, b1, b2, b3, b4⟩ := ob_cj hg o2 A
  have sB := sy_cj b1 b4 hs
  have hP : ∀ x i, i < n → qV9 n P x i = qS9 (fun c => x c * F c i) n := fun x i hi => qS_cg (fun c hc => by
    have := b2 c hc i hi
    rw [qV_col hc] at this
    rw [this]
    exact Rat.mul_comm _ _)
  have pB : pdQ9 (n - b) g2 B := by
    intro x hx
    obtain ⟨i, hi, hne⟩ := hx
    have e0 : ∀ i, n - b ≤ i → i < n → (fun i => if i < n - b then x i else 0) i = 0 := fun i h1 _ => if_neg (by omega)
    have e1 : ∀ i, i < n - b → (fun i => if i < n - b then x i else 0) i = x i := fun i hi => if_pos hi
    generalize (fun i => if i < n - b then x i else 0) = z at e0 e1
    have a1 : qG9 (n - b) g2 x (qV9 (n - b) B x) = qG9 n g2 z (qV9 n B z) := by
      rw [qG_cut (m := n - b) (by omega) e0]
      refine qG_cg (fun i hi => (e1 i hi).symm) (fun i hi => ?_)
      rw [qV_cut (m := n - b) (by omega) e0]
      exact qV_cg (fun k hk => (e1 k hk).symm) i
    have a2 : qG9 n g2 z (qV9 n B z) = qG9 n g (qV9 n P z) (qV9 n A (qV9 n P z)) := by
      rw [← b4]
      exact qG_cg (fun i _ => rfl) (fun i hi => (b1.2 z i hi).symm)
    rw [a1, a2]
    refine h _ ?_ (fun e he => ?_)
    · by_cases h9 : ∃ i, i < n ∧ qV9 n P z i ≠ 0
      · exact h9
      · have e3 : ∀ i, i < n → qV9 n P z i = 0 := fun i hi => by
          by_cases h8 : qV9 n P z i = 0
          · exact h8
          · exact absurd ⟨i, hi, h8⟩ h9
        have e4 := b4 z z
        have e5 : qG9 n g (qV9 n P z) (qV9 n P z) = 0 := by
          unfold qG9
          rw [qS_cg (g := fun _ => 0) (fun i hi => by rw [e3 i hi]; grind), qS_0]
        have e6 := qG_ps (x := z) b3 ⟨i, by omega, by rw [e1 i hi]; exact hne⟩
        rw [← e4, e5] at e6
        exact absurd e6 (by decide)
    · have e3 : qD9 n (ℓ e) (qV9 n P z) = qD9 n (ℓ e) (fun i => qS9 (fun c => z c * F c i) n) := qD_cg (fun i _ => rfl) (fun i hi => hP z i hi)
      rw [e3, qD_sum, qS_cg (g := fun _ => 0) (fun c hc => by
        by_cases h9 : c < n - b
        · rw [f1 c h9, l1 c (by omega) h9 e he]
          exact Rat.mul_zero _
        · rw [e0 c (by omega) hc]
          exact Rat.zero_mul _), qS_0]
  have c1 := pd_V (fun i hi => b3 i (by omega)) (sy_le sB (by omega)) pB
  have c2 := (v_mono (show n - b ≤ n by omega) b3 sB).2
  rw [(v_cj b1).2]
  omega
/-- 0 where b numbers are 0: no coefficients behind b -/
theorem rk_E (hg : ∀ i, i < n → 0 < g i) (hs : syG9 n g A) {b : Nat} (ℓ : Nat → Nat → Rat) (hb : b ≤ n) (h : ∀ x : Nat → Rat, (∀ e, e < b → qD9 n (ℓ e) x = 0) → ∀ i, i < n → qV9 n A x i = 0) : vM9 A n + vP9 A n ≤ b := by
  obtain ⟨F1, -, o1, l1⟩ := ob_go (n := n) (g := g) ℓ b (n - b) 0 (fun _ _ => 0) ⟨fun c hc => absurd hc (by omega), fun c d hc => absurd hc (by omega)⟩ (by omega)
  rw [Nat.zero_add] at o1 l1
  obtain ⟨F, f1, o2⟩ := ob_full o1 (by omega)
  obtain ⟨B, P, Q, g2, b1, b2, b3, b4⟩ := ob_cj hg (ob_rev o2) A
  have sB := sy_cj b1 b4 hs
  have col : ∀ c, b ≤ c → c < n → ∀ i, i < n → B i c = 0 := fun c hc1 hc2 i hi => by
    have a1 : ∀ i, i < n → qV9 n P (qV9 n B (dl9 c)) i = 0 := fun i hi => by
      rw [← b1.2 (dl9 c) i hi, qV_cg (b2 c hc2) i, f1 (n - 1 - c) (by omega)]
      exact h (F1 (n - 1 - c)) (fun e he => l1 (n - 1 - c) (by omega) (by omega) e he) i hi
    have a2 := b4 (qV9 n B (dl9 c)) (qV9 n B (dl9 c))
    have a3 : qG9 n g (qV9 n P (qV9 n B (dl9 c))) (qV9 n P (qV9 n B (dl9 c))) = 0 := by
      unfold qG9
      rw [qS_cg (g := fun _ => 0) (fun i hi => by rw [a1 i hi]; grind), qS_0]
    by_cases h9 : B i c = 0
    · exact h9
    · have a4 := qG_ps (x := qV9 n B (dl9 c)) b3 ⟨i, hi, by rw [qV_col hc2]; exact h9⟩
      rw [← a2, a3] at a4
      exact absurd a4 (by decide)
  have row : ∀ c, b ≤ c → c < n → ∀ i, i < n → B c i = 0 := fun c hc1 hc2 i hi => by
    have a1 := sB i c hi hc2
    rw [col c hc1 hc2 i hi, Rat.mul_zero] at a1
    rcases Rat.mul_eq_zero.mp a1.symm with h9 | h9
    · have := b3 c hc2
      rw [h9] at this
      exact absurd this (by decide)
    · exact h9
  have eE : ∀ m, b ≤ m → m ≤ n → ∀ k, qE9 B m k = qE9 B b k := by
    intro m
    induction m with
    | zero =>
      intro h1 _ k
      rw [show b = 0 by omega]
    | succ m ih =>
      intro h1 h2 k
      by_cases h9 : b = m + 1
      · rw [h9]
      · rw [← ih (by omega) (by omega) k]
        cases k with
        | zero => rw [qE_0, qE_0]
        | succ k =>
          cases k with
          | zero =>
            show qE9 B m 1 + B m m = qE9 B m 1
            rw [col m (by omega) (by omega) m (by omega)]
            exact Rat.add_zero _
          | succ k =>
            show qE9 B m (k + 2) + B m m * qE9 B m (k + 1) - qD9 m (B m) (qN9 m B (qE9 B m) (fun i => B i m) k) = qE9 B m (k + 2)
            have e1 : qD9 m (B m) (qN9 m B (qE9 B m) (fun i => B i m) k) = 0 := by
              unfold qD9
              rw [qS_cg (g := fun _ => 0) (fun i hi => by rw [row m (by omega) (by omega) i (by omega)]; exact Rat.zero_mul _), qS_0]
            rw [col m (by omega) (by omega) m (by omega), e1]
            grind
  have := v_rk (A := B) (n := n) (b := b) (fun k hk => by rw [eE n hb (Nat.le_refl n) k]; exact (ch9 b B).1 k hk)
  rw [(v_cj b1).1, (v_cj b1).2]
  exact this
theorem qN_neg {E : Nat → Rat} (w : Nat → Rat) : ∀ j i, qN9 n (fun i j => -A i j) (fun k => sn9 k * E k) w j i = sn9 j * qN9 n A E w j i := by
  intro j
  induction j with
  | zero =>
    intro i
    show w i = sn9 0 * w i
    rw [show sn9 0 = 1 from rfl, Rat.one_mul]
  | succ j ih =>
    intro i
    show sn9 (j + 1) * E (j + 1) * w i - qV9 n (fun i j => -A i j) (qN9 n (fun i j => -A i j) (fun k => sn9 k * E k) w j) i = sn9 (j + 1) * (E (j + 1) * w i - qV9 n A (qN9 n A E w j) i)
    have e1 : qV9 n (fun i j => -A i j) (qN9 n (fun i j => -A i j) (fun k => sn9 k * E k) w j) i = -sn9 j * qV9 n A (qN9 n A E w j) i := by
      unfold qV9
      rw [← qS_mul]
      exact qS_cg (fun k _ => by
        rw [ih k]
        grind)
    rw [e1, sn_s]
    grind
theorem qE_neg : ∀ n k, qE9 (fun i j => -A i j) n k = sn9 k * qE9 A n k := by
  intro n
  induction n with
  | zero =>
    intro k
    show (if k = 0 then (1 : Rat) else 0) = sn9 k * (if k = 0 then 1 else 0)
    by_cases h : k = 0
    · subst h
      rw [if_pos rfl, show sn9 0 = 1 from rfl, Rat.one_mul]
    · rw [if_neg h, Rat.mul_zero]
  | succ n ih =>
    intro k
    have ee : qE9 (fun i j => -A i j) n = fun k => sn9 k * qE9 A n k := funext ih
    cases k with
    | zero =>
      rw [qE_0, qE_0, show sn9 0 = 1 from rfl, Rat.one_mul]
    | succ k =>
      cases k with
      | zero =>
        show qE9 (fun i j => -A i j) n 1 + -A n n = sn9 1 * (qE9 A n 1 + A n n)
        rw [ih 1, show sn9 1 = -1 from rfl]
        grind
      | succ k =>
        show qE9 (fun i j => -A i j) n (k + 2) + -A n n * qE9 (fun i j => -A i j) n (k + 1) - qD9 n (fun j => -A n j) (qN9 n (fun i j => -A i j) (qE9 (fun i j => -A i j) n) (fun i => -A i n) k) = sn9 (k + 2) * (qE9 A n (k + 2) + A n n * qE9 A n (k + 1) - qD9 n (A n) (qN9 n A (qE9 A n) (fun i => A i n) k))
        have e1 : qD9 n (fun j => -A n j) (qN9 n (fun i j => -A i j) (qE9 (fun i j => -A i j) n) (fun i => -A i n) k) = sn9 k * qD9 n (A n) (qN9 n A (qE9 A n) (fun i => A i n) k) := by
          rw [ee]
          have e2 : ∀ i, i < n → qN9 n (fun i j => -A i j) (fun k => sn9 k * qE9 A n k) (fun i => -A i n) k i = -(sn9 k * qN9 n A (qE9 A n) (fun i => A i n) k i) := fun i hi => by
            rw [qN_neg]
            have e3 : qN9 n A (qE9 A n) (fun i => -A i n) k i = -qN9 n A (qE9 A n) (fun i => A i n) k i := by
              have key : ∀ j i, qN9 n A (qE9 A n) (fun i => -A i n) j i = -qN9 n A (qE9 A n) (fun i => A i n) j i := by
                intro j
                induction j with
                | zero => exact fun i => rfl
                | succ j ihj =>
                  intro i
                  show qE9 A n (j + 1) * -A i n - qV9 n A (qN9 n A (qE9 A n) (fun i => -A i n) j) i = -(qE9 A n (j + 1) * A i n - qV9 n A (qN9 n A (qE9 A n) (fun i => A i n) j) i)
                  have : qV9 n A (qN9 n A (qE9 A n) (fun i => -A i n) j) i = -qV9 n A (qN9 n A (qE9 A n) (fun i => A i n) j) i := by
                    unfold qV9
                    rw [← qS_neg]
                    exact qS_cg (fun k _ => by
                      rw [ihj k]
                      grind)
                  rw [this]
                  grind
              exact key k i
            rw [e3]
            grind
          unfold qD9
          rw [← qS_mul]
          exact qS_cg (fun i hi => by
            rw [e2 i hi]
            grind)
        have s2 : sn9 (k + 2) = sn9 k := by
          rw [show k + 2 = k + 1 + 1 from rfl, sn_s, sn_s]
          grind
        rw [e1, ih (k + 2), ih (k + 1), s2, sn_s]
        grind
theorem tw_neg : tw9 (nuQ9 (qE9 (fun i j => -A i j) n)) = nuQ9 (qE9 A n) := by
  funext k
  unfold tw9 nuQ9
  rw [qE_neg]
  unfold sn9
  by_cases h : k % 2 = 0
  · rw [if_pos h, if_pos h, Rat.one_mul]
  · rw [if_neg h, if_neg h, show (-1 : Rat) * qE9 A n k = -qE9 A n k by grind, Rat.neg_num]
    omega
end XSGG
end
section
/-! 99zzzzzzzzzzzzzzzzyzzq.xsgh -/
/-! signature: a form in squares -/
/-- the form x A y -/
def fA9 (n : Nat) (A : mQ99) (x y : Nat → Rat) : Rat := qD9 n x (qV9 n A y)
/-- a sum of a vectors -/
def cbQ9 (a : Nat) (f : Nat → Nat → Rat) (c : Nat → Rat) : Nat → Rat := fun i => qS9 (fun l => c l * f l i) a
def smQ9 (n : Nat) (A : mQ99) : Prop := ∀ i j, i < n → j < n → A i j = A j i
section XSGH
variable {n : Nat} {A : mQ99}
theorem sm_sy (h : smQ9 n A) : syG9 n (fun _ => 1) A := fun i j hi hj => by rw [h i j hi hj]
theorem qG_1 {x y : Nat → Rat} : qG9 n (fun _ => 1) x y = qD9 n x y := qS_cg (fun i _ => by grind)
theorem fA_G {x y : Nat → Rat} : qG9 n (fun _ => 1) x (qV9 n A y) = fA9 n A x y := qG_1
theorem fA_cm (h : smQ9 n A) (x y : Nat → Rat) : fA9 n A x y = fA9 n A y x := by
  rw [← fA_G, sy_adj (sm_sy h), qG_cm, fA_G]
theorem fA_cg {x y x2 y2 : Nat → Rat} (h1 : ∀ i, i < n → x i = x2 i) (h2 : ∀ i, i < n → y i = y2 i) : fA9 n A x y = fA9 n A x2 y2 := qD_cg h1 (fun i _ => qV_cg h2 i)
theorem fA_R {x : Nat → Rat} {a : Nat} {f : Nat → Nat → Rat} {c : Nat → Rat} : fA9 n A x (cbQ9 a f c) = qS9 (fun l => c l * fA9 n A x (f l)) a := by
  have e : fA9 n A x (cbQ9 a f c) = qD9 n x (fun i => qS9 (fun l => c l * qV9 n A (f l) i) a) := qD_cg (fun i _ => rfl) (fun i _ => qV_sum)
  rw [e, qD_sum]
  rfl
theorem fA_lR {x y z : Nat → Rat} {a b : Rat} : fA9 n A x (fun i => a * y i + b * z i) = a * fA9 n A x y + b * fA9 n A x z := by
  have e : fA9 n A x (fun i => a * y i + b * z i) = qD9 n x (fun i => a * qV9 n A y i + b * qV9 n A z i) := qD_cg (fun i _ => rfl) (fun i _ => qD_l2)
  rw [e, qD_l2]
  rfl
theorem fA_lL (h : smQ9 n A) {x y z : Nat → Rat} {a b : Rat} : fA9 n A (fun i => a * y i + b * z i) x = a * fA9 n A y x + b * fA9 n A z x := by
  rw [fA_cm h, fA_lR, fA_cm h x y, fA_cm h x z]
theorem fA_L (h : smQ9 n A) {x : Nat → Rat} {a : Nat} {f : Nat → Nat → Rat} {c : Nat → Rat} : fA9 n A (cbQ9 a f c) x = qS9 (fun l => c l * fA9 n A (f l) x) a := by
  rw [fA_cm h, fA_R]
  exact qS_cg (fun l _ => by rw [fA_cm h])
/-- squares alone -/
theorem fA_sq (h : smQ9 n A) {a : Nat} {f : Nat → Nat → Rat} (ho : ∀ i j, i < a → j < a → i ≠ j → fA9 n A (f i) (f j) = 0) (c : Nat → Rat) : fA9 n A (cbQ9 a f c) (cbQ9 a f c) = qS9 (fun l => c l * c l * fA9 n A (f l) (f l)) a := by
  rw [fA_R]
  refine qS_cg (fun l hl => ?_)
  rw [fA_L h]
  have e : ∀ k, k < a → c k * fA9 n A (f k) (f l) = dl9 l k * (c k * fA9 n A (f k) (f l)) := fun k hk => by
    by_cases h9 : k = l
    · rw [show dl9 l k = 1 from if_pos h9, Rat.one_mul]
    · rw [ho k l hk hl h9]
      grind
  rw [qS_cg e]
  have e2 := qD_dl (x := fun k => c k * fA9 n A (f k) (f l)) hl
  unfold qD9 at e2
  rw [e2]
  grind
theorem qS_nn {f : Nat → Rat} : ∀ {a : Nat}, (∀ i, i < a → 0 ≤ f i) → 0 ≤ qS9 f a := by
  intro a
  induction a with
  | zero => exact fun _ => Rat.le_refl
  | succ a ih => exact fun h => Rat.add_nonneg (ih (fun i hi => h i (by omega))) (h a (by omega))
theorem qS_ps {f : Nat → Rat} : ∀ {a : Nat}, (∀ i, i < a → 0 ≤ f i) → (∃ i, i < a ∧ 0 < f i) → 0 < qS9 f a := by
  intro a
  induction a with
  | zero =>
    intro _ h
    obtain ⟨i, hi, -⟩ := h
    omega
  | succ a ih =>
    intro h1 h2
    obtain ⟨i, hi, hp⟩ := h2
    show 0 < qS9 f a + f a
    by_cases h9 : i = a
    · have a1 := qS_nn (a := a) (fun i hi => h1 i (by omega))
      rw [h9] at hp
      grind
    · have a1 := ih (fun i hi => h1 i (by omega)) ⟨i, by omega, hp⟩
      have a2 := h1 a (by omega)
      grind
/-- positive on the sums of a vectors -/
theorem vP_sp (hs : smQ9 n A) {a : Nat} {f : Nat → Nat → Rat} (h : ∀ c : Nat → Rat, (∃ i, i < a ∧ c i ≠ 0) → 0 < fA9 n A (cbQ9 a f c) (cbQ9 a f c)) : a ≤ vP9 A n := by
  have f0 : ∀ z : Nat → Rat, (∀ i, i < n → z i = 0) → fA9 n A z z = 0 := fun z hz => by
    show qS9 (fun k => z k * qV9 n A z k) n = 0
    rw [qS_cg (g := fun _ => 0) (fun i hi => by rw [hz i hi, Rat.zero_mul]), qS_0]
  have ind : ∀ c : Nat → Rat, (∀ i, i < n → cbQ9 a f c i = 0) → ∀ i, i < a → c i = 0 := fun c hc i hi => by
    by_cases h9 : c i = 0
    · exact h9
    · have a1 := h c ⟨i, hi, h9⟩
      rw [f0 _ hc] at a1
      exact absurd a1 (by decide)
  have an : a ≤ n := by
    by_cases h9 : a ≤ n
    · exact h9
    · obtain ⟨c, ⟨i, hi, hc⟩, h2⟩ := lin_n (n := a) (fun e l => f l e) (m := n) (by omega)
      refine absurd (ind c (fun e he => ?_) i hi) hc
      rw [← h2 e he]
      exact qS_cg (fun l _ => Rat.mul_comm _ _)
  obtain ⟨F, -, o1, l1⟩ := ob_go (n := n) (g := fun _ => 1) f a (n - a) 0 (fun _ _ => 0) ⟨fun c hc => absurd hc (by omega), fun c d hc => absurd hc (by omega)⟩ (by omega)
  rw [Nat.zero_add] at o1 l1
  have key := vP_ge (A := A) (n := n) (g := fun _ => 1) (b := n - a) (fun _ _ => by decide) (sm_sy hs) F (by omega) (fun x hx he => by
    rw [fA_G]
    obtain ⟨u, ⟨s, hs1, hu⟩, h2⟩ := lin_n (n := n + 1) (fun e l => if l < a then f l e else if l < n then F (l - a) e else x e) (m := n) (by omega)
    -- u 0 .. a - 1, a .. n - 1, n
    have eq : ∀ e, e < n → cbQ9 a f u e + cbQ9 (n - a) F (fun j => u (a + j)) e + u n * x e = 0 := fun e he => by
      rw [← h2 e he]
      show _ = qS9 (fun l => (if l < a then f l e else if l < n then F (l - a) e else x e) * u l) n + (if n < a then f n e else if n < n then F (n - a) e else x e) * u n
      rw [if_neg (by omega), if_neg (by omega)]
      have sp : ∀ d (φ : Nat → Rat), qS9 φ (a + d) = qS9 φ a + qS9 (fun j => φ (a + j)) d := by
        intro d
        induction d with
        | zero => exact fun φ => (Rat.add_zero _).symm
        | succ d ih =>
          intro φ
          show qS9 φ (a + d) + φ (a + d) = qS9 φ a + (qS9 (fun j => φ (a + j)) d + φ (a + d))
          rw [ih]
          grind
      have e1 := sp (n - a) (fun l => (if l < a then f l e else if l < n then F (l - a) e else x e) * u l)
      rw [show a + (n - a) = n by omega] at e1
      rw [e1]
      have e2 : qS9 (fun l => (if l < a then f l e else if l < n then F (l - a) e else x e) * u l) a = cbQ9 a f u e := qS_cg (fun l hl => by
        rw [if_pos hl]
        exact Rat.mul_comm _ _)
      have e3 : qS9 (fun j => (fun l => (if l < a then f l e else if l < n then F (l - a) e else x e) * u l) (a + j)) (n - a) = cbQ9 (n - a) F (fun j => u (a + j)) e := qS_cg (fun j hj => by
        show (if a + j < a then f (a + j) e else if a + j < n then F (a + j - a) e else x e) * u (a + j) = _
        rw [if_neg (by omega), if_pos (by omega), show a + j - a = j by omega]
        exact Rat.mul_comm _ _)
      rw [e2, e3]
      grind
    -- the numbers of F are 0
    have uF : ∀ j, j < n - a → u (a + j) = 0 := fun j hj => by
      have d1 : qD9 n (F j) (fun e => cbQ9 a f u e + cbQ9 (n - a) F (fun j => u (a + j)) e + u n * x e) = 0 := by
        unfold qD9
        rw [qS_cg (g := fun _ => 0) (fun e he => by dsimp only; rw [eq e he, Rat.mul_zero]), qS_0]
      have d2 : qD9 n (F j) (fun e => cbQ9 a f u e + cbQ9 (n - a) F (fun j => u (a + j)) e + u n * x e) = (qD9 n (F j) (cbQ9 a f u) + qD9 n (F j) (cbQ9 (n - a) F (fun j => u (a + j)))) + u n * qD9 n (F j) x := by
        unfold qD9
        rw [← qS_mul, ← qS_add, ← qS_add]
        exact qS_cg (fun e _ => by grind)
      have d3 : qD9 n (F j) (cbQ9 a f u) = 0 := by
        show qD9 n (F j) (fun i => qS9 (fun l => u l * f l i) a) = 0
        rw [qD_sum, qS_cg (g := fun _ => 0) (fun l hl => by
          have := l1 j (by omega) hj l hl
          rw [qD_cm] at this
          rw [this, Rat.mul_zero]), qS_0]
      have d4 : qD9 n (F j) (cbQ9 (n - a) F (fun j => u (a + j))) = u (a + j) * qD9 n (F j) (F j) := by
        show qD9 n (F j) (fun i => qS9 (fun l => (fun j => u (a + j)) l * F l i) (n - a)) = _
        rw [qD_sum]
        have : ∀ l, l < n - a → (fun j => u (a + j)) l * qD9 n (F j) (F l) = dl9 j l * (u (a + l) * qD9 n (F j) (F l)) := fun l hl => by
          by_cases h9 : l = j
          · rw [show dl9 j l = 1 from if_pos h9, Rat.one_mul]
          · have z := o1.2 j l hj hl (fun h => h9 h.symm)
            rw [qG_1] at z
            rw [z]
            grind
        rw [qS_cg this]
        have e2 := qD_dl (x := fun l => u (a + l) * qD9 n (F j) (F l)) hj
        unfold qD9 at e2 ⊢
        exact e2
      have d5 := he j hj
      rw [d2, d3, d4, d5] at d1
      have d6 := qG_ps (g := fun _ => 1) (x := F j) (n := n) (fun _ _ => by decide) (o1.1 j hj)
      rw [qG_1] at d6
      have d7 : u (a + j) * qD9 n (F j) (F j) = 0 := by grind
      rcases Rat.mul_eq_zero.mp d7 with h9 | h9
      · exact h9
      · rw [h9] at d6
        exact absurd d6 (by decide)
    have eq2 : ∀ e, e < n → cbQ9 a f u e = -u n * x e := fun e he => by
      have a1 := eq e he
      have a2 : cbQ9 (n - a) F (fun j => u (a + j)) e = 0 := by
        show qS9 (fun l => u (a + l) * F l e) (n - a) = 0
        rw [qS_cg (g := fun _ => 0) (fun l hl => by rw [uF l hl, Rat.zero_mul]), qS_0]
      rw [a2] at a1
      grind
    have un : u n ≠ 0 := fun h0 => by
      have a1 : ∀ i, i < a → u i = 0 := ind u (fun e he => by
        rw [eq2 e he, h0]
        grind)
      by_cases h8 : s < a
      · exact hu (a1 s h8)
      · by_cases h9 : s < n
        · have := uF (s - a) (by omega)
          rw [show a + (s - a) = s by omega] at this
          exact hu this
        · exact hu (by rw [show s = n by omega]; exact h0)
    have fx : fA9 n A (cbQ9 a f u) (cbQ9 a f u) = (u n * u n) * fA9 n A x x := by
      have a1 : fA9 n A (cbQ9 a f u) (cbQ9 a f u) = fA9 n A (fun e => -u n * x e + 0 * x e) (fun e => -u n * x e + 0 * x e) := fA_cg (fun e he => by rw [eq2 e he]; grind) (fun e he => by rw [eq2 e he]; grind)
      rw [a1, fA_lR, fA_lL hs]
      grind
    have nz : ∃ i, i < a ∧ u i ≠ 0 := by
      by_cases h9 : ∃ i, i < a ∧ u i ≠ 0
      · exact h9
      · obtain ⟨i, hi, hxi⟩ := hx
        have a1 := eq2 i hi
        have a2 : cbQ9 a f u i = 0 := by
          show qS9 (fun l => u l * f l i) a = 0
          rw [qS_cg (g := fun _ => 0) (fun l hl => by
            have : u l = 0 := by
              by_cases h8 : u l = 0
              · exact h8
              · exact absurd ⟨l, hl, h8⟩ h9
            rw [this, Rat.zero_mul]), qS_0]
        rw [a2] at a1
        have a3 : u n * x i = 0 := by grind
        rcases Rat.mul_eq_zero.mp a3 with h8 | h8
        · exact absurd h8 un
        · exact absurd h8 hxi
    have a4 := h u nz
    rw [fx] at a4
    exact (Rat.mul_pos_iff_of_pos_left (sq_ps9 un)).mp a4)
  omega
theorem vM_sp (hs : smQ9 n A) {a : Nat} {f : Nat → Nat → Rat} (h : ∀ c : Nat → Rat, (∃ i, i < a ∧ c i ≠ 0) → fA9 n A (cbQ9 a f c) (cbQ9 a f c) < 0) : a ≤ vM9 A n := by
  have a1 := vP_sp (A := fun i j => -A i j) (n := n) (fun i j hi hj => by
    show -A i j = -A j i
    rw [hs i j hi hj]) (a := a) (f := f) (fun c hc => by
    have a1 := h c hc
    have a2 : fA9 n (fun i j => -A i j) (cbQ9 a f c) (cbQ9 a f c) = -fA9 n A (cbQ9 a f c) (cbQ9 a f c) := by
      unfold fA9 qD9
      rw [← qS_neg]
      refine qS_cg (fun i _ => ?_)
      have : qV9 n (fun i j => -A i j) (cbQ9 a f c) i = -qV9 n A (cbQ9 a f c) i := by
        unfold qV9
        rw [← qS_neg]
        exact qS_cg (fun k _ => by grind)
      rw [this]
      grind
    rw [a2]
    grind)
  unfold vP9 at a1
  rw [tw_neg] at a1
  exact a1
end XSGH
end
section
/-! 99zzzzzzzzzzzzzzzzyzzr.xsgi -/
/-! signature: as many squares as changes of sign -/
/-- vectors at right angles by the form: a with a positive square, b with a negative one -/
def dt9 (n : Nat) (A : mQ99) (a : Nat) (fp : Nat → Nat → Rat) (b : Nat) (fn : Nat → Nat → Rat) : Prop := (∀ i, i < a → 0 < fA9 n A (fp i) (fp i)) ∧ (∀ i, i < b → fA9 n A (fn i) (fn i) < 0) ∧ (∀ i j, i < a → j < a → i ≠ j → fA9 n A (fp i) (fp j) = 0) ∧ (∀ i j, i < b → j < b → i ≠ j → fA9 n A (fn i) (fn j) = 0) ∧ ∀ i j, i < a → j < b → fA9 n A (fp i) (fn j) = 0
section XSGI
variable {n : Nat} {A : mQ99}
theorem dt_pos (hs : smQ9 n A) {a b : Nat} {fp fn : Nat → Nat → Rat} (h : dt9 n A a fp b fn) (c : Nat → Rat) (hc : ∃ i, i < a ∧ c i ≠ 0) : 0 < fA9 n A (cbQ9 a fp c) (cbQ9 a fp c) := by
  obtain ⟨h1, h2, h3, h4, h5⟩ := h
  rw [fA_sq hs h3]
  obtain ⟨i, hi, hne⟩ := hc
  exact qS_ps (fun l hl => Rat.mul_nonneg (sq_nn9 (c l)) (Rat.le_of_lt (h1 l hl))) ⟨i, hi, Rat.mul_pos (sq_ps9 hne) (h1 i hi)⟩
theorem dt_neg (hs : smQ9 n A) {a b : Nat} {fp fn : Nat → Nat → Rat} (h : dt9 n A a fp b fn) (c : Nat → Rat) (hc : ∃ i, i < b ∧ c i ≠ 0) : fA9 n A (cbQ9 b fn c) (cbQ9 b fn c) < 0 := by
  obtain ⟨h1, h2, h3, h4, h5⟩ := h
  rw [fA_sq hs h4]
  obtain ⟨i, hi, hne⟩ := hc
  have a1 : 0 < qS9 (fun l => -(c l * c l * fA9 n A (fn l) (fn l))) b := qS_ps (fun l hl => by
    have := Rat.mul_nonneg (sq_nn9 (c l)) (show 0 ≤ -fA9 n A (fn l) (fn l) by
      have := h2 l hl
      grind)
    grind) ⟨i, hi, by
    have := Rat.mul_pos (sq_ps9 hne) (show 0 < -fA9 n A (fn i) (fn i) by
      have := h2 i hi
      grind)
    grind⟩
  rw [qS_neg] at a1
  grind
theorem dt_le (hs : smQ9 n A) {a b : Nat} {fp fn : Nat → Nat → Rat} (h : dt9 n A a fp b fn) : a ≤ vP9 A n ∧ b ≤ vM9 A n := ⟨vP_sp hs (dt_pos hs h), vM_sp hs (dt_neg hs h)⟩
/-- as many as there can be -/
theorem dt_max (hs : smQ9 n A) : ∀ (r a b : Nat) (fp fn : Nat → Nat → Rat), dt9 n A a fp b fn → n ≤ a + b + r → ∃ a2 b2 fp2 fn2, dt9 n A a2 fp2 b2 fn2 ∧ ∀ x, (∀ i, i < a2 → fA9 n A (fp2 i) x = 0) → (∀ i, i < b2 → fA9 n A (fn2 i) x = 0) → fA9 n A x x = 0 := by
  intro r
  induction r with
  | zero =>
    intro a b fp fn h hn
    refine ⟨a, b, fp, fn, h, fun x h1 h2 => ?_⟩
    have key : ∀ (a b : Nat) (fp fn : Nat → Nat → Rat), dt9 n A a fp b fn → a + b ≤ n := fun a b fp fn h => by
      have a1 := dt_le hs h
      have a2 := v_sum (A := A) (n := n)
      omega
    obtain ⟨p1, p2, p3, p4, p5⟩ := h
    by_cases h0 : fA9 n A x x = 0
    · exact h0
    · rcases Rat.le_total (a := 0) (b := fA9 n A x x) with h9 | h9
      · have hp : 0 < fA9 n A x x := Rat.lt_of_le_of_ne h9 (fun h => h0 h.symm)
        have e1 : ∀ i, i < a → (fun i => if i = a then x else fp i) i = fp i := fun i hi => if_neg (by omega)
        have e2 : (fun i => if i = a then x else fp i) a = x := if_pos rfl
        have := key (a + 1) b (fun i => if i = a then x else fp i) fn ⟨fun i hi => by
          by_cases h8 : i = a
          · rw [h8, e2]
            exact hp
          · rw [e1 i (by omega)]
            exact p1 i (by omega), p2, fun i j hi hj hij => by
          by_cases h8 : i = a
          · rw [h8, e2, e1 j (by omega), fA_cm hs]
            exact h1 j (by omega)
          · by_cases h7 : j = a
            · rw [h7, e2, e1 i (by omega)]
              exact h1 i (by omega)
            · rw [e1 i (by omega), e1 j (by omega)]
              exact p3 i j (by omega) (by omega) hij, p4, fun i j hi hj => by
          by_cases h8 : i = a
          · rw [h8, e2, fA_cm hs]
            exact h2 j hj
          · rw [e1 i (by omega)]
            exact p5 i j (by omega) hj⟩
        omega
      · have hp : fA9 n A x x < 0 := Rat.lt_of_le_of_ne h9 h0
        have e1 : ∀ i, i < b → (fun i => if i = b then x else fn i) i = fn i := fun i hi => if_neg (by omega)
        have e2 : (fun i => if i = b then x else fn i) b = x := if_pos rfl
        have := key a (b + 1) fp (fun i => if i = b then x else fn i) ⟨p1, fun i hi => by
          by_cases h8 : i = b
          · rw [h8, e2]
            exact hp
          · rw [e1 i (by omega)]
            exact p2 i (by omega), p3, fun i j hi hj hij => by
          by_cases h8 : i = b
          · rw [h8, e2, e1 j (by omega), fA_cm hs]
            exact h2 j (by omega)
          · by_cases h7 : j = b
            · rw [h7, e2, e1 i (by omega)]
              exact h2 i (by omega)
            · rw [e1 i (by omega), e1 j (by omega)]
              exact p4 i j (by omega) (by omega) hij, fun i j hi hj => by
          by_cases h8 : j = b
          · rw [h8, e2]
            exact h1 i hi
          · rw [e1 j (by omega)]
            exact p5 i j hi (by omega)⟩
        omega
  | succ r ih =>
    intro a b fp fn h hn
    by_cases hx : ∃ x, (∀ i, i < a → fA9 n A (fp i) x = 0) ∧ (∀ i, i < b → fA9 n A (fn i) x = 0) ∧ fA9 n A x x ≠ 0
    · obtain ⟨x, h1, h2, h0⟩ := hx
      obtain ⟨p1, p2, p3, p4, p5⟩ := h
      rcases Rat.le_total (a := 0) (b := fA9 n A x x) with h9 | h9
      · have hp : 0 < fA9 n A x x := Rat.lt_of_le_of_ne h9 (fun h => h0 h.symm)
        have e1 : ∀ i, i < a → (fun i => if i = a then x else fp i) i = fp i := fun i hi => if_neg (by omega)
        have e2 : (fun i => if i = a then x else fp i) a = x := if_pos rfl
        exact ih (a + 1) b (fun i => if i = a then x else fp i) fn ⟨fun i hi => by
          by_cases h8 : i = a
          · rw [h8, e2]
            exact hp
          · rw [e1 i (by omega)]
            exact p1 i (by omega), p2, fun i j hi hj hij => by
          by_cases h8 : i = a
          · rw [h8, e2, e1 j (by omega), fA_cm hs]
            exact h1 j (by omega)
          · by_cases h7 : j = a
            · rw [h7, e2, e1 i (by omega)]
              exact h1 i (by omega)
            · rw [e1 i (by omega), e1 j (by omega)]
              exact p3 i j (by omega) (by omega) hij, p4, fun i j hi hj => by
          by_cases h8 : i = a
          · rw [h8, e2, fA_cm hs]
            exact h2 j hj
          · rw [e1 i (by omega)]
            exact p5 i j (by omega) hj⟩ (by omega)
      · have hp : fA9 n A x x < 0 := Rat.lt_of_le_of_ne h9 h0
        have e1 : ∀ i, i < b → (fun i => if i = b then x else fn i) i = fn i := fun i hi => if_neg (by omega)
        have e2 : (fun i => if i = b then x else fn i) b = x := if_pos rfl
        exact ih a (b + 1) fp (fun i => if i = b then x else fn i) ⟨p1, fun i hi => by
          by_cases h8 : i = b
          · rw [h8, e2]
            exact hp
          · rw [e1 i (by omega)]
            exact p2 i (by omega), p3, fun i j hi hj hij => by
          by_cases h8 : i = b
          · rw [h8, e2, e1 j (by omega), fA_cm hs]
            exact h2 j (by omega)
          · by_cases h7 : j = b
            · rw [h7, e2, e1 i (by omega)]
              exact h2 i (by omega)
            · rw [e1 i (by omega), e1 j (by omega)]
              exact p4 i j (by omega) (by omega) hij, fun i j hi hj => by
          by_cases h8 : j = b
          · rw [h8, e2]
            exact h1 i hi
          · rw [e1 j (by omega)]
            exact p5 i j hi (by omega)⟩ (by omega)
    · refine ⟨a, b, fp, fn, h, fun x h1 h2 => ?_⟩
      by_cases h0 : fA9 n A x x = 0
      · exact h0
      · exact absurd ⟨x, h1, h2, h0⟩ hx
/-- what is left when the parts along the vectors are taken away -/
theorem dt_rest (hs : smQ9 n A) {a : Nat} {f : Nat → Nat → Rat} (ho : ∀ i j, i < a → j < a → i ≠ j → fA9 n A (f i) (f j) = 0) (hn : ∀ i, i < a → fA9 n A (f i) (f i) ≠ 0) (x : Nat → Rat) : ∀ i, i < a → fA9 n A (f i) (fun e => 1 * x e + -1 * cbQ9 a f (fun l => fA9 n A (f l) x * (fA9 n A (f l) (f l))⁻¹) e) = 0 := by
  intro i hi
  rw [fA_lR, fA_R]
  have e : ∀ l, l < a → fA9 n A (f l) x * (fA9 n A (f l) (f l))⁻¹ * fA9 n A (f i) (f l) = dl9 i l * (fA9 n A (f l) x * (fA9 n A (f l) (f l))⁻¹ * fA9 n A (f i) (f l)) := fun l hl => by
    by_cases h9 : l = i
    · rw [show dl9 i l = 1 from if_pos h9, Rat.one_mul]
    · rw [ho i l hi hl (fun h => h9 h.symm)]
      grind
  rw [qS_cg e]
  have e2 := qD_dl (x := fun l => fA9 n A (f l) x * (fA9 n A (f l) (f l))⁻¹ * fA9 n A (f i) (f l)) hi
  unfold qD9 at e2
  rw [e2]
  have e3 := Rat.inv_mul_cancel _ (hn i hi)
  grind
/-- the numbers of squares are the changes of sign -/
theorem dt_ex (hs : smQ9 n A) : ∃ fn : Nat → Nat → Rat, (∀ x, (∀ i, i < vM9 A n → fA9 n A (fn i) x = 0) → 0 ≤ fA9 n A x x) ∧ ∀ c : Nat → Rat, (∃ i, i < vM9 A n ∧ c i ≠ 0) → fA9 n A (cbQ9 (vM9 A n) fn c) (cbQ9 (vM9 A n) fn c) < 0 := by
  obtain ⟨a, b, fp, fn, hd, hm⟩ := dt_max hs n 0 0 (fun _ _ => 0) (fun _ _ => 0) ⟨fun i hi => absurd hi (by omega), fun i hi => absurd hi (by omega), fun i j hi => absurd hi (by omega), fun i j hi => absurd hi (by omega), fun i j hi => absurd hi (by omega)⟩ (by omega)
  have hle := dt_le hs hd
  have hneg := dt_neg hs hd
  obtain ⟨p1, p2, p3, p4, p5⟩ := hd
  have n1 : ∀ i, i < a → fA9 n A (fp i) (fp i) ≠ 0 := fun i hi h => by
    have := p1 i hi
    rw [h] at this
    exact absurd this (by decide)
  have n2 : ∀ i, i < b → fA9 n A (fn i) (fn i) ≠ 0 := fun i hi h => by
    have := p2 i hi
    rw [h] at this
    exact absurd this (by decide)
  -- at right angles to all: 0 with every vector
  have rad : ∀ x, (∀ i, i < a → fA9 n A (fp i) x = 0) → (∀ i, i < b → fA9 n A (fn i) x = 0) → ∀ y, fA9 n A x y = 0 := by
    intro x h1 h2 y
    have r1 := dt_rest hs p3 n1 y
    generalize hc1 : (fun l => fA9 n A (fp l) y * (fA9 n A (fp l) (fp l))⁻¹) = c1 at r1
    generalize hy1 : (fun e => 1 * y e + -1 * cbQ9 a fp c1 e) = y1 at r1
    have r2 := dt_rest hs p4 n2 y1
    generalize hc2 : (fun l => fA9 n A (fn l) y1 * (fA9 n A (fn l) (fn l))⁻¹) = c2 at r2
    have r3 : ∀ i, i < a → fA9 n A (fp i) (fun e => 1 * y1 e + -1 * cbQ9 b fn c2 e) = 0 := fun i hi => by
      rw [fA_lR, r1 i hi, fA_R, qS_cg (g := fun _ => 0) (fun l hl => by rw [p5 i l hi hl, Rat.mul_zero]), qS_0]
      grind
    generalize hy2 : (fun e => 1 * y1 e + -1 * cbQ9 b fn c2 e) = y2 at r2 r3
    have q1 := hm y2 r3 r2
    have q2 := hm x h1 h2
    have q3 := hm (fun e => 1 * x e + 1 * y2 e) (fun i hi => by rw [fA_lR, h1 i hi, r3 i hi]; grind) (fun i hi => by rw [fA_lR, h2 i hi, r2 i hi]; grind)
    rw [fA_lR, fA_lL hs, fA_lL hs, q1, q2, fA_cm hs y2 x] at q3
    have q4 : fA9 n A x y2 = 0 := by grind
    have q5 : fA9 n A x y1 = 0 := by
      rw [← hy2, fA_lR, fA_R, qS_cg (g := fun _ => 0) (fun l hl => by rw [fA_cm hs, h2 l hl, Rat.mul_zero]), qS_0] at q4
      grind
    rw [← hy1, fA_lR, fA_R, qS_cg (g := fun _ => 0) (fun l hl => by rw [fA_cm hs, h1 l hl, Rat.mul_zero]), qS_0] at q5
    grind
  have rk := rk_E (A := A) (n := n) (g := fun _ => 1) (b := a + b) (fun _ _ => by decide) (sm_sy hs) (fun e => if e < a then qV9 n A (fp e) else qV9 n A (fn (e - a))) (by
    have a2 := v_sum (A := A) (n := n)
    omega) (fun x hx i hi => by
    have h1 : ∀ i, i < a → fA9 n A (fp i) x = 0 := fun i hi => by
      have := hx i (by omega)
      rw [if_pos hi, qD_cm] at this
      rw [fA_cm hs]
      exact this
    have h2 : ∀ i, i < b → fA9 n A (fn i) x = 0 := fun i hi => by
      have := hx (a + i) (by omega)
      rw [if_neg (by omega), show a + i - a = i by omega, qD_cm] at this
      rw [fA_cm hs]
      exact this
    have := rad x h1 h2 (dl9 i)
    rw [fA_cm hs] at this
    have e : fA9 n A (dl9 i) x = qV9 n A x i := qD_dl hi
    rw [← e]
    exact this)
  have eb : vM9 A n = b := by omega
  rw [eb]
  refine ⟨fn, fun x hx => ?_, hneg⟩
  have r1 := dt_rest hs p3 n1 x
  generalize hc1 : (fun l => fA9 n A (fp l) x * (fA9 n A (fp l) (fp l))⁻¹) = c1 at r1
  have r2 : ∀ i, i < b → fA9 n A (fn i) (fun e => 1 * x e + -1 * cbQ9 a fp c1 e) = 0 := fun i hi => by
    rw [fA_lR, hx i hi, fA_R, qS_cg (g := fun _ => 0) (fun l hl => by rw [fA_cm hs, p5 l i hl hi, Rat.mul_zero]), qS_0]
    grind
  generalize hy1 : (fun e => 1 * x e + -1 * cbQ9 a fp c1 e) = y1 at r1 r2
  have q1 := hm y1 r1 r2
  have ex : fA9 n A x x = fA9 n A (fun e => 1 * y1 e + 1 * cbQ9 a fp c1 e) (fun e => 1 * y1 e + 1 * cbQ9 a fp c1 e) := by
    refine fA_cg (fun e _ => ?_) (fun e _ => ?_)
    · rw [← hy1]
      grind
    · rw [← hy1]
      grind
  have ey : fA9 n A y1 (cbQ9 a fp c1) = 0 := by
    rw [fA_R, qS_cg (g := fun _ => 0) (fun l hl => by rw [fA_cm hs, r1 l hl, Rat.mul_zero]), qS_0]
  have es : 0 ≤ fA9 n A (cbQ9 a fp c1) (cbQ9 a fp c1) := by
    rw [fA_sq hs p3]
    exact qS_nn (fun l hl => Rat.mul_nonneg (sq_nn9 (c1 l)) (Rat.le_of_lt (p1 l hl)))
  rw [ex, fA_lR, fA_lL hs, fA_lL hs, fA_cm hs (cbQ9 a fp c1) y1, q1, ey]
  grind
end XSGI
end
section
/-! 99zzzzzzzzzzzzzzzzyzzs.xsgj -/
/-! signature: two forms at right angles in a space of signs -/
/-- the form of signs t on the columns of W -/
def gF9 (c : Nat) (t : Nat → Rat) (W : mQ99) : mQ99 := fun i j => qS9 (fun e => t e * W e i * W e j) c
/-- how many of the first c signs are positive -/
def cP9 (t : Nat → Rat) : Nat → Nat
  | 0 => 0
  | c + 1 => cP9 t c + (if 0 < t c then 1 else 0)
section XSGJ
variable {n m c : Nat} {t : Nat → Rat} {W B : mQ99}
theorem gF_sm : smQ9 n (gF9 c t W) := fun i j _ _ => qS_cg (fun e _ => by grind)
theorem gF_f (x y : Nat → Rat) : fA9 n (gF9 c t W) x y = qG9 c t (qV9 n W x) (qV9 n W y) := by
  have e1 : ∀ i, i < n → qV9 n (gF9 c t W) y i = qS9 (fun e => t e * W e i * qV9 n W y e) c := fun i _ => by
    show qS9 (fun j => qS9 (fun e => t e * W e i * W e j) c * y j) n = _
    have a1 : ∀ j, j < n → qS9 (fun e => t e * W e i * W e j) c * y j = qS9 (fun e => t e * W e i * (W e j * y j)) c := fun j _ => by
      rw [Rat.mul_comm, ← qS_mul]
      exact qS_cg (fun e _ => by grind)
    rw [qS_cg a1, qS_sw]
    exact qS_cg (fun e _ => qS_mul)
  unfold fA9 qD9
  have e2 : ∀ i, i < n → x i * qV9 n (gF9 c t W) y i = qS9 (fun e => t e * qV9 n W y e * (W e i * x i)) c := fun i hi => by
    rw [e1 i hi, ← qS_mul]
    exact qS_cg (fun e _ => by grind)
  rw [qS_cg e2, qS_sw]
  refine qS_cg (fun e _ => ?_)
  rw [qS_mul]
  show t e * qV9 n W y e * qV9 n W x e = t e * qV9 n W x e * qV9 n W y e
  grind
/-- the positive places by number -/
theorem cP_ix : ∀ c, ∃ ix : Nat → Nat, ∀ e, e < c → 0 < t e → ∃ k, k < cP9 t c ∧ ix k = e := by
  intro c
  induction c with
  | zero => exact ⟨fun _ => 0, fun e he => absurd he (by omega)⟩
  | succ c ih =>
    obtain ⟨ix, h⟩ := ih
    refine ⟨fun k => if k = cP9 t c then c else ix k, fun e he hp => ?_⟩
    show ∃ k, k < cP9 t c + (if 0 < t c then 1 else 0) ∧ _
    by_cases h9 : e = c
    · rw [h9] at hp
      exact ⟨cP9 t c, by rw [if_pos hp]; omega, by dsimp only; rw [if_pos rfl, h9]⟩
    · obtain ⟨k, hk, hk2⟩ := h e (by omega) hp
      exact ⟨k, by omega, by dsimp only; rw [if_neg (by omega)]; exact hk2⟩
theorem cP_sum (ht : ∀ e, e < c → t e = 1 ∨ t e = -1) : cP9 t c + cP9 (fun e => -t e) c = c := by
  induction c with
  | zero => rfl
  | succ c ih =>
    show cP9 t c + (if 0 < t c then 1 else 0) + (cP9 (fun e => -t e) c + (if 0 < -t c then 1 else 0)) = c + 1
    have := ih (fun e he => ht e (by omega))
    rcases ht c (by omega) with h | h
    · rw [h, if_pos (show (0 : Rat) < 1 by decide), if_neg (show ¬ (0 : Rat) < -1 by decide)]
      omega
    · rw [h, if_neg (show ¬ (0 : Rat) < -1 by decide), if_pos (show (0 : Rat) < - -1 by decide)]
      omega
theorem sp_cut {a : Nat} (d : Nat) (φ : Nat → Rat) : qS9 φ (a + d) = qS9 φ a + qS9 (fun j => φ (a + j)) d := by
  induction d with
  | zero => exact (Rat.add_zero _).symm
  | succ d ih =>
    show qS9 φ (a + d) + φ (a + d) = qS9 φ a + (qS9 (fun j => φ (a + j)) d + φ (a + d))
    rw [ih]
    grind
/-- the bound: where the negative squares of W are 0, beside the negative squares of B -/
theorem il9 (ht : ∀ e, e < c → t e = 1 ∨ t e = -1) (iW : ∀ x : Nat → Rat, (∀ e, e < c → qV9 n W x e = 0) → ∀ i, i < n → x i = 0) (iB : ∀ x : Nat → Rat, (∀ e, e < c → qV9 m B x e = 0) → ∀ i, i < m → x i = 0) (hO : ∀ i j, i < n → j < m → qS9 (fun e => W e i * B e j) c = 0) : n + vM9 (gF9 c (fun e => -t e) B) m ≤ cP9 t c + vM9 (gF9 c t W) n := by
  obtain ⟨fn, f1, f2⟩ := dt_ex (n := n) (A := gF9 c t W) gF_sm
  obtain ⟨hn, h1, h2⟩ := dt_ex (n := m) (A := gF9 c (fun e => -t e) B) gF_sm
  obtain ⟨ix, hix⟩ := cP_ix (t := t) c
  generalize hb : vM9 (gF9 c t W) n = b at f1 f2 ⊢
  generalize hd : vM9 (gF9 c (fun e => -t e) B) m = d at h1 h2 ⊢
  by_cases hle : n + d ≤ cP9 t c + b
  · exact hle
  · exfalso
    -- unknowns: x (n of them), y (d of them)
    obtain ⟨u, ⟨s, hs, hu⟩, hq⟩ := lin_n (n := n + d) (fun e l => if e < cP9 t c then (if l < n then W (ix e) l else t (ix e) * qV9 m B (hn (l - n)) (ix e)) else (if l < n then qV9 n (gF9 c t W) (fn (e - cP9 t c)) l else 0)) (m := cP9 t c + b) (by omega)
    -- the vector in the space of signs
    have eU : ∀ e, e < c → qV9 m B (cbQ9 d hn (fun j => u (n + j))) e = qS9 (fun j => u (n + j) * qV9 m B (hn j) e) d := fun e _ => qV_sum
    have u0 : ∀ e, e < c → 0 < t e → qV9 n W u e + t e * qV9 m B (cbQ9 d hn (fun j => u (n + j))) e = 0 := fun e he hp => by
      obtain ⟨k, hk, hk2⟩ := hix e he hp
      have a1 := hq k (by omega)
      unfold qD9 at a1
      rw [sp_cut] at a1
      have a2 : qS9 (fun l => (fun l => if k < cP9 t c then (if l < n then W (ix k) l else t (ix k) * qV9 m B (hn (l - n)) (ix k)) else (if l < n then qV9 n (gF9 c t W) (fn (k - cP9 t c)) l else 0)) l * u l) n = qV9 n W u e := qS_cg (fun l hl => by
        show (if k < cP9 t c then (if l < n then W (ix k) l else t (ix k) * qV9 m B (hn (l - n)) (ix k)) else (if l < n then qV9 n (gF9 c t W) (fn (k - cP9 t c)) l else 0)) * u l = _
        rw [if_pos hk, if_pos hl, hk2])
      have a3 : qS9 (fun j => (fun l => if k < cP9 t c then (if l < n then W (ix k) l else t (ix k) * qV9 m B (hn (l - n)) (ix k)) else (if l < n then qV9 n (gF9 c t W) (fn (k - cP9 t c)) l else 0)) (n + j) * u (n + j)) d = t e * qV9 m B (cbQ9 d hn (fun j => u (n + j))) e := by
        rw [eU e he, ← qS_mul]
        refine qS_cg (fun j hj => ?_)
        show (if k < cP9 t c then (if n + j < n then W (ix k) (n + j) else t (ix k) * qV9 m B (hn (n + j - n)) (ix k)) else (if n + j < n then qV9 n (gF9 c t W) (fn (k - cP9 t c)) (n + j) else 0)) * u (n + j) = _
        rw [if_pos hk, if_neg (by omega), hk2, show n + j - n = j by omega]
        grind
      rw [a2, a3] at a1
      exact a1
    have uf : ∀ i, i < b → fA9 n (gF9 c t W) (fn i) u = 0 := fun i hi => by
      have a1 := hq (cP9 t c + i) (by omega)
      unfold qD9 at a1
      rw [sp_cut] at a1
      have a2 : qS9 (fun l => (fun l => if cP9 t c + i < cP9 t c then (if l < n then W (ix (cP9 t c + i)) l else t (ix (cP9 t c + i)) * qV9 m B (hn (l - n)) (ix (cP9 t c + i))) else (if l < n then qV9 n (gF9 c t W) (fn (cP9 t c + i - cP9 t c)) l else 0)) l * u l) n = qD9 n u (qV9 n (gF9 c t W) (fn i)) := qS_cg (fun l hl => by
        show (if cP9 t c + i < cP9 t c then (if l < n then W (ix (cP9 t c + i)) l else t (ix (cP9 t c + i)) * qV9 m B (hn (l - n)) (ix (cP9 t c + i))) else (if l < n then qV9 n (gF9 c t W) (fn (cP9 t c + i - cP9 t c)) l else 0)) * u l = _
        rw [if_neg (by omega), if_pos hl, show cP9 t c + i - cP9 t c = i by omega]
        exact Rat.mul_comm _ _)
      have a3 : qS9 (fun j => (fun l => if cP9 t c + i < cP9 t c then (if l < n then W (ix (cP9 t c + i)) l else t (ix (cP9 t c + i)) * qV9 m B (hn (l - n)) (ix (cP9 t c + i))) else (if l < n then qV9 n (gF9 c t W) (fn (cP9 t c + i - cP9 t c)) l else 0)) (n + j) * u (n + j)) d = 0 := by
        rw [qS_cg (g := fun _ => 0) (fun j hj => by
          show (if cP9 t c + i < cP9 t c then (if n + j < n then W (ix (cP9 t c + i)) (n + j) else t (ix (cP9 t c + i)) * qV9 m B (hn (n + j - n)) (ix (cP9 t c + i))) else (if n + j < n then qV9 n (gF9 c t W) (fn (cP9 t c + i - cP9 t c)) (n + j) else 0)) * u (n + j) = 0
          rw [if_neg (by omega), if_neg (by omega), Rat.zero_mul]), qS_0]
      rw [a2, a3, Rat.add_zero] at a1
      rw [fA_cm gF_sm]
      exact a1
    have F1 := f1 u uf
    rw [gF_f] at F1
    generalize hy : cbQ9 d hn (fun j => u (n + j)) = y at u0
    -- right angles
    have O1 : qS9 (fun e => qV9 n W u e * qV9 m B y e) c = 0 := by
      have a1 : ∀ e, e < c → qV9 n W u e * qV9 m B y e = qS9 (fun i => u i * (W e i * qV9 m B y e)) n := fun e _ => by
        show qS9 (fun i => W e i * u i) n * qV9 m B y e = _
        rw [Rat.mul_comm, ← qS_mul]
        exact qS_cg (fun i _ => by grind)
      rw [qS_cg a1, qS_sw, qS_cg (g := fun _ => 0) (fun i hi => by
        rw [qS_mul]
        have a2 : qS9 (fun e => W e i * qV9 m B y e) c = 0 := by
          have a3 : ∀ e, e < c → W e i * qV9 m B y e = qS9 (fun j => y j * (W e i * B e j)) m := fun e _ => by
            show W e i * qS9 (fun j => B e j * y j) m = _
            rw [← qS_mul]
            exact qS_cg (fun j _ => by grind)
          rw [qS_cg a3, qS_sw, qS_cg (g := fun _ => 0) (fun j hj => by rw [qS_mul, hO i j hi hj, Rat.mul_zero]), qS_0]
        rw [a2, Rat.mul_zero]), qS_0]
    have F2 : 0 ≤ qS9 (fun e => t e * qV9 m B y e * qV9 m B y e) c := by
      have a1 : fA9 m (gF9 c (fun e => -t e) B) y y ≤ 0 := by
        by_cases h9 : ∃ j, j < d ∧ (fun j => u (n + j)) j ≠ 0
        · have := h2 (fun j => u (n + j)) h9
          rw [hy] at this
          exact Rat.le_of_lt this
        · have y0 : ∀ i, i < m → y i = 0 := fun i _ => by
            rw [← hy]
            show qS9 (fun l => u (n + l) * hn l i) d = 0
            rw [qS_cg (g := fun _ => 0) (fun l hl => by
              have : u (n + l) = 0 := by
                by_cases h8 : u (n + l) = 0
                · exact h8
                · exact absurd ⟨l, hl, h8⟩ h9
              rw [this, Rat.zero_mul]), qS_0]
          have : fA9 m (gF9 c (fun e => -t e) B) y y = 0 := by
            show qS9 (fun k => y k * qV9 m (gF9 c (fun e => -t e) B) y k) m = 0
            rw [qS_cg (g := fun _ => 0) (fun i hi => by rw [y0 i hi, Rat.zero_mul]), qS_0]
          rw [this]
          exact Rat.le_refl
      rw [gF_f] at a1
      have a2 : qG9 c (fun e => -t e) (qV9 m B y) (qV9 m B y) = -qS9 (fun e => t e * qV9 m B y e * qV9 m B y e) c := by
        unfold qG9
        rw [← qS_neg]
        exact qS_cg (fun e _ => by grind)
      rw [a2] at a1
      grind
    -- the square of W u + t B y
    have sq : qS9 (fun e => t e * (qV9 n W u e + t e * qV9 m B y e) * (qV9 n W u e + t e * qV9 m B y e)) c = qG9 c t (qV9 n W u) (qV9 n W u) + qS9 (fun e => t e * qV9 m B y e * qV9 m B y e) c := by
      have a1 : ∀ e, e < c → t e * (qV9 n W u e + t e * qV9 m B y e) * (qV9 n W u e + t e * qV9 m B y e) = t e * qV9 n W u e * qV9 n W u e + t e * qV9 m B y e * qV9 m B y e + 2 * (qV9 n W u e * qV9 m B y e) := fun e he => by
        have : t e * t e = 1 := by
          rcases ht e he with h | h <;> rw [h] <;> grind
        grind
      rw [qS_cg a1, qS_add, qS_add, qS_mul, O1]
      unfold qG9
      grind
    have ng : ∀ e, e < c → 0 ≤ -(t e * (qV9 n W u e + t e * qV9 m B y e) * (qV9 n W u e + t e * qV9 m B y e)) := fun e he => by
      rcases ht e he with h | h
      · rw [u0 e he (by rw [h]; decide)]
        grind
      · rw [h]
        have := sq_nn9 (qV9 n W u e + -1 * qV9 m B y e)
        grind
    have z0 : ∀ e, e < c → qV9 n W u e + t e * qV9 m B y e = 0 := fun e he => by
      by_cases h9 : qV9 n W u e + t e * qV9 m B y e = 0
      · exact h9
      · have hp : 0 < -(t e * (qV9 n W u e + t e * qV9 m B y e) * (qV9 n W u e + t e * qV9 m B y e)) := by
          rcases ht e he with h | h
          · exact absurd (u0 e he (by rw [h]; decide)) h9
          · have := sq_ps9 h9
            rw [h] at this ⊢
            grind
        have a1 := qS_ps ng ⟨e, he, hp⟩
        rw [qS_neg, sq] at a1
        grind
    have sq0 : qG9 c t (qV9 n W u) (qV9 n W u) + qS9 (fun e => t e * qV9 m B y e * qV9 m B y e) c = 0 := by
      rw [← sq, qS_cg (g := fun _ => 0) (fun e he => by rw [z0 e he]; grind), qS_0]
    -- y = 0
    have y9 : ∀ j, j < d → u (n + j) = 0 := fun j hj => by
      by_cases h9 : u (n + j) = 0
      · exact h9
      · have a1 := h2 (fun j => u (n + j)) ⟨j, hj, h9⟩
        rw [hy, gF_f] at a1
        have a2 : qG9 c (fun e => -t e) (qV9 m B y) (qV9 m B y) = -qS9 (fun e => t e * qV9 m B y e * qV9 m B y e) c := by
          unfold qG9
          rw [← qS_neg]
          exact qS_cg (fun e _ => by grind)
        rw [a2] at a1
        grind
    have yz : ∀ i, y i = 0 := fun i => by
      rw [← hy]
      show qS9 (fun l => u (n + l) * hn l i) d = 0
      rw [qS_cg (g := fun _ => 0) (fun l hl => by rw [y9 l hl, Rat.zero_mul]), qS_0]
    have Wz : ∀ e, e < c → qV9 n W u e = 0 := fun e he => by
      have a1 := z0 e he
      have a2 : qV9 m B y e = 0 := by
        show qS9 (fun k => B e k * y k) m = 0
        rw [qS_cg (g := fun _ => 0) (fun k _ => by rw [yz k, Rat.mul_zero]), qS_0]
      rw [a2] at a1
      grind
    have xz := iW u Wz
    by_cases h9 : s < n
    · exact hu (xz s h9)
    · have := y9 (s - n) (by omega)
      rw [show n + (s - n) = s by omega] at this
      exact hu this
theorem vM_ng {A : mQ99} : vM9 (fun i j => -A i j) n = vP9 A n := by
  have := tw_neg (A := fun i j => -A i j) (n := n)
  have e : (fun i j => - (fun i j => -A i j) i j) = A := by
    funext i j
    show - -A i j = A i j
    grind
  rw [e] at this
  unfold vM9 vP9
  rw [this]
theorem gF_ng : gF9 c (fun e => -t e) W = fun i j => -gF9 c t W i j := by
  funext i j
  show qS9 (fun e => -t e * W e i * W e j) c = -qS9 (fun e => t e * W e i * W e j) c
  rw [← qS_neg]
  exact qS_cg (fun e _ => by grind)
/-- THE TWO COLOURS -/
theorem two9 (ht : ∀ e, e < c → t e = 1 ∨ t e = -1) (iW : ∀ x : Nat → Rat, (∀ e, e < c → qV9 n W x e = 0) → ∀ i, i < n → x i = 0) (iB : ∀ x : Nat → Rat, (∀ e, e < c → qV9 m B x e = 0) → ∀ i, i < m → x i = 0) (hO : ∀ i j, i < n → j < m → qS9 (fun e => W e i * B e j) c = 0) (hc : n + m = c) : vP9 (gF9 c t W) n + vM9 (gF9 c (fun e => -t e) B) m + cP9 (fun e => -t e) c = vM9 (gF9 c t W) n + vP9 (gF9 c (fun e => -t e) B) m + cP9 t c := by
  have hO2 : ∀ i j, i < m → j < n → qS9 (fun e => B e i * W e j) c = 0 := fun i j hi hj => by
    rw [← hO j i hj hi]
    exact qS_cg (fun e _ => Rat.mul_comm _ _)
  have ht2 : ∀ e, e < c → -t e = 1 ∨ -t e = -1 := fun e he => by
    rcases ht e he with h | h
    · exact Or.inr (by rw [h])
    · exact Or.inl (by rw [h]; decide)
  have nn : (fun e => - -t e) = t := by
    funext e
    grind
  have i1 := il9 ht iW iB hO
  have i2 := il9 (t := fun e => -t e) ht2 iW iB hO
  have i3 := il9 (t := t) ht iB iW hO2
  have i4 := il9 (t := fun e => -t e) ht2 iB iW hO2
  rw [nn] at i2 i4
  have cs := cP_sum ht
  have e1 : vM9 (gF9 c (fun e => -t e) W) n = vP9 (gF9 c t W) n := by rw [gF_ng, vM_ng]
  have e2 : vM9 (gF9 c t B) m = vP9 (gF9 c (fun e => -t e) B) m := by
    have := vM_ng (A := gF9 c (fun e => -t e) B) (n := m)
    rw [← gF_ng, nn] at this
    exact this
  rw [e1, e2] at i2
  rw [e1, e2] at i3
  omega
end XSGJ
end
section
/-! 99zzzzzzzzzzzzzzzzyzzt.xsgk -/
/-! signature: a part of a net, and its two colours -/
/-- the visit of a crossing that goes ahead -/
def fV9 (G : Nat → Int32) (x : Nat) : Nat := if 0 < G x then 2 * x else 2 * x + 1
def sgI9 (G : Nat → Int32) (x : Nat) : Int := if 0 < G x then 1 else -1
def tI9 (G : Nat → Int32) (w : Nat → Bool) (κ : Bool) (x : Nat) : Int := if w (fV9 G x) = κ then -sgI9 G x else sgI9 G x
/-- the faces of colour κ beside the gaps of the part q are numbered by R: k of them -/
def nbG9 (c : Nat) (S : ow_NP) (G : Nat → Int32) (w q : Nat → Bool) (κ : Bool) (R : Nat → Nat) (k : Nat) : Prop := (∀ v, v < 2 * c → q v = true → R v < k) ∧ (∀ j, j < k → ∃ v, v < 2 * c ∧ q v = true ∧ R v = j) ∧ ∀ x, x < c → q (2 * x) = true → (w (fV9 G x) = κ → R (mt (fV9 G x)) = R (fV9 G x) ∧ R (S.2 (mt (fV9 G x))) = R (S.2 (fV9 G x))) ∧ (w (fV9 G x) = !κ → R (mt (fV9 G x)) = R (S.2 (fV9 G x)) ∧ R (S.2 (mt (fV9 G x))) = R (fV9 G x))
/-- a part: closed, and it hangs together -/
def ptQ9 (c : Nat) (S : ow_NP) (q : Nat → Bool) : Prop := (∀ v, v < 2 * c → q (S.1 v) = q v ∧ q (mt v) = q v) ∧ ∀ u v, u < 2 * c → v < 2 * c → q u = true → q v = true → rch c S u v
/-- the row of a crossing -/
def rwG9 (S : ow_NP) (G : Nat → Int32) (R : Nat → Nat) (x i : Nat) : Rat := dl9 i (R (fV9 G x)) - dl9 i (R (S.2 (fV9 G x)))
/-- the matrix of a part -/
def mtG9 (c : Nat) (S : ow_NP) (G : Nat → Int32) (w q : Nat → Bool) (κ : Bool) (R : Nat → Nat) : mQ99 := fun i j => qS9 (fun x => if q (2 * x) = true then ((tI9 G w κ x : Int) : Rat) * rwG9 S G R x i * rwG9 S G R x j else 0) c
/-- the correction -/
def crG9 (G : Nat → Int32) (w q : Nat → Bool) (κ : Bool) : Nat → Int
  | 0 => 0
  | x + 1 => crG9 G w q κ x + (if q (2 * x) = true then (if w (fV9 G x) = κ then 0 else sgI9 G x) else 0)
def svG9 (c : Nat) (S : ow_NP) (G : Nat → Int32) (w q : Nat → Bool) (κ : Bool) (R : Nat → Nat) (k : Nat) : Int := (vP9 (mtG9 c S G w q κ R) (k - 1) : Int) - (vM9 (mtG9 c S G w q κ R) (k - 1) : Int) - crG9 G w q κ c
theorem enG9 (q : Nat → Bool) : ∀ c, ∃ ix : Nat → Nat, (∀ e, e < nF q c → ix e < c ∧ q (ix e) = true) ∧ (∀ x, x < c → q x = true → ∃ e, e < nF q c ∧ ix e = x) ∧ ∀ F : Nat → Rat, qS9 (fun e => F (ix e)) (nF q c) = qS9 (fun x => if q x = true then F x else 0) c := by
  intro c
  induction c with
  | zero => exact ⟨fun _ => 0, fun e he => absurd he (Nat.not_lt_zero _), fun x hx => absurd hx (Nat.not_lt_zero _), fun F => rfl⟩
  | succ c ih =>
    obtain ⟨ix, h1, h2, h3⟩ := ih
    by_cases hq : q c = true
    · have hn : nF q (c + 1) = nF q c + 1 := by
        show nF q c + (if q c = true then 1 else 0) = _
        rw [if_pos hq]
      have i1 : ∀ e, e < nF q c → (fun e => if e = nF q c then c else ix e) e = ix e := fun e he => if_neg (by omega)
      have i2 : (fun e => if e = nF q c then c else ix e) (nF q c) = c := if_pos rfl
      refine ⟨fun e => if e = nF q c then c else ix e, fun e he => ?_, fun x hx hxq => ?_, fun F => ?_⟩
      · by_cases h9 : e = nF q c
        · rw [h9, i2]
          exact ⟨by omega, hq⟩
        · rw [i1 e (by omega)]
          have := h1 e (by omega)
          exact ⟨by omega, this.2⟩
      · by_cases h9 : x = c
        · exact ⟨nF q c, by omega, by rw [i2, h9]⟩
        · obtain ⟨e, e1, e2⟩ := h2 x (by omega) hxq
          exact ⟨e, by omega, by rw [i1 e e1]; exact e2⟩
      · rw [hn]
        show qS9 (fun e => F ((fun e => if e = nF q c then c else ix e) e)) (nF q c) + F ((fun e => if e = nF q c then c else ix e) (nF q c)) = qS9 (fun x => if q x = true then F x else 0) c + (if q c = true then F c else 0)
        rw [i2, if_pos hq, ← h3 F]
        refine congrArg (fun s => s + F c) (qS_cg (fun e he => ?_))
        rw [i1 e he]
    · have hn : nF q (c + 1) = nF q c := by
        show nF q c + (if q c = true then 1 else 0) = _
        rw [if_neg hq]
        rfl
      refine ⟨ix, fun e he => ?_, fun x hx hxq => ?_, fun F => ?_⟩
      · have := h1 e (by omega)
        exact ⟨by omega, this.2⟩
      · by_cases h9 : x = c
        · rw [h9] at hxq
          exact absurd hxq hq
        · obtain ⟨e, e1, e2⟩ := h2 x (by omega) hxq
          exact ⟨e, by omega, e2⟩
      · rw [hn, h3 F]
        show _ = qS9 (fun x => if q x = true then F x else 0) c + (if q c = true then F c else 0)
        rw [if_neg hq, Rat.add_zero]
section XSGK
variable {c : Nat} {S : ow_NP} {G : Nat → Int32} {w q : Nat → Bool}
theorem fV_lt {x : Nat} (hx : x < c) : fV9 G x < 2 * c := by
  unfold fV9
  split <;> omega
theorem fV_q (hq : ptQ9 c S q) {x : Nat} (hx : x < c) : q (fV9 G x) = q (2 * x) ∧ q (mt (fV9 G x)) = q (2 * x) := by
  have h2 := (hq.1 (2 * x) (by omega)).2
  have e : mt (2 * x) = 2 * x + 1 := by
    unfold mt
    split <;> omega
  have e2 : mt (2 * x + 1) = 2 * x := by
    unfold mt
    split <;> omega
  rw [e] at h2
  unfold fV9
  split
  · exact ⟨rfl, by rw [e]; exact h2⟩
  · exact ⟨h2, by rw [e2]⟩
theorem fV_two {g : Nat → Rat} (x : Nat) : g (fV9 G x) + g (mt (fV9 G x)) = g (2 * x) + g (2 * x + 1) := by
  have e : mt (2 * x) = 2 * x + 1 := by
    unfold mt
    split <;> omega
  have e2 : mt (2 * x + 1) = 2 * x := by
    unfold mt
    split <;> omega
  unfold fV9
  split
  · rw [e]
  · rw [e2]
    exact Rat.add_comm _ _
theorem qS_pair {g : Nat → Rat} : ∀ c, qS9 (fun x => g (2 * x) + g (2 * x + 1)) c = qS9 g (2 * c) := by
  intro c
  induction c with
  | zero => rfl
  | succ c ih =>
    show qS9 (fun x => g (2 * x) + g (2 * x + 1)) c + (g (2 * c) + g (2 * c + 1)) = qS9 g (2 * (c + 1))
    rw [ih, show 2 * (c + 1) = 2 * c + 1 + 1 by omega]
    show _ = qS9 g (2 * c) + g (2 * c) + g (2 * c + 1)
    grind
/-- sums over all visits, one further back -/
theorem qS_back (hv : vn c S) (g : Nat → Rat) : qS9 (fun v => g (S.2 v)) (2 * c) = qS9 g (2 * c) := by
  have e1 : ∀ v, v < 2 * c → g (S.2 v) = qS9 (fun u => dl9 (S.1 u) v * g u) (2 * c) := fun v hv1 => by
    have a : ∀ u, u < 2 * c → dl9 (S.1 u) v * g u = dl9 (S.2 v) u * g u := fun u hu => by
      by_cases h9 : u = S.2 v
      · rw [show dl9 (S.2 v) u = 1 from if_pos h9, show dl9 (S.1 u) v = 1 from if_pos (by rw [h9, (hv v hv1).2.2.2])]
      · rw [show dl9 (S.2 v) u = 0 from if_neg h9, show dl9 (S.1 u) v = 0 from if_neg (fun h => h9 (by rw [h, (hv u hu).2.2.1]))]
    rw [qS_cg a]
    exact (qD_dl (hv v hv1).2.1).symm
  rw [qS_cg e1, qS_sw]
  refine qS_cg (fun u hu => ?_)
  have a : ∀ v, v < 2 * c → dl9 (S.1 u) v * g u = dl9 (S.1 u) v * (fun _ => g u) v := fun v _ => rfl
  rw [qS_cg a]
  exact qD_dl (x := fun _ => g u) (hv u hu).1
/-- what is the same before and behind every crossing of the part is one number -/
theorem one_G (hv : vn c S) (hq : ptQ9 c S q) {κ : Bool} {R : Nat → Nat} {k : Nat} (hR : nbG9 c S G w q κ R k) {h : Nat → Rat} (hh : ∀ x, x < c → q (2 * x) = true → h (R (fV9 G x)) = h (R (S.2 (fV9 G x)))) : ∀ u v, u < 2 * c → v < 2 * c → q u = true → q v = true → h (R u) = h (R v) := by
  have four : ∀ x, x < c → q (2 * x) = true → h (R (mt (fV9 G x))) = h (R (fV9 G x)) ∧ h (R (S.2 (mt (fV9 G x)))) = h (R (mt (fV9 G x))) := fun x hx hxq => by
    have a := hh x hx hxq
    obtain ⟨b1, b2⟩ := hR.2.2 x hx hxq
    by_cases h9 : w (fV9 G x) = κ
    · obtain ⟨c1, c2⟩ := b1 h9
      rw [c1, c2]
      exact ⟨rfl, a.symm⟩
    · obtain ⟨c1, c2⟩ := b2 (by cases hw : w (fV9 G x) <;> cases hκ : κ <;> simp_all)
      rw [c1, c2]
      exact ⟨a.symm, a⟩
  have back : ∀ v, v < 2 * c → q v = true → h (R (S.2 v)) = h (R v) ∧ h (R (mt v)) = h (R v) := fun v hv1 hvq => by
    have hx : v / 2 < c := by omega
    have e : mt (2 * (v / 2)) = 2 * (v / 2) + 1 := by
      unfold mt
      split <;> omega
    have e2 : mt (2 * (v / 2) + 1) = 2 * (v / 2) := by
      unfold mt
      split <;> omega
    have hxq : q (2 * (v / 2)) = true := by
      have := (hq.1 (2 * (v / 2)) (by omega)).2
      rw [e] at this
      by_cases h9 : v % 2 = 0
      · rw [show 2 * (v / 2) = v by omega]
        exact hvq
      · rw [← this, show 2 * (v / 2) + 1 = v by omega]
        exact hvq
    have a := hh (v / 2) hx hxq
    obtain ⟨b1, b2⟩ := four (v / 2) hx hxq
    have hcase : v = fV9 G (v / 2) ∨ v = mt (fV9 G (v / 2)) := by
      unfold fV9
      by_cases h9 : 0 < G (v / 2)
      · rw [if_pos h9, e]
        omega
      · rw [if_neg h9, e2]
        omega
    have hmm : mt (mt (fV9 G (v / 2))) = fV9 G (v / 2) := by
      unfold fV9
      split
      · rw [e, e2]
      · rw [e2, e]
    rcases hcase with h9 | h9
    · rw [h9]
      rw [← h9]
      rw [h9.symm] at a b1
      exact ⟨a.symm, b1⟩
    · have c1 : h (R (S.2 v)) = h (R v) := by
        rw [h9]
        exact b2
      refine ⟨c1, ?_⟩
      have c2 : mt v = fV9 G (v / 2) := by
        have := congrArg mt h9
        rw [hmm] at this
        exact this
      rw [c2, ← b1, ← h9]
  intro u v hu hvl huq hvq
  have r := hq.2 u v hu hvl huq hvq
  have key := r (fun x => x < 2 * c ∧ q x = true ∧ h (R x) = h (R u)) ⟨hu, huq, rfl⟩ (fun j hj ⟨_, j2, j3⟩ => by
    have q1 := (hq.1 j hj).1
    have s1 := hv j hj
    refine ⟨s1.1, by rw [q1]; exact j2, ?_⟩
    have := (back (S.1 j) s1.1 (by rw [q1]; exact j2)).1
    rw [s1.2.2.1] at this
    rw [← this]
    exact j3) (fun j hj ⟨_, j2, j3⟩ => ⟨mt_lt hj, by rw [(hq.1 j hj).2]; exact j2, by rw [(back j hj j2).2]; exact j3⟩)
  exact key.2.2.symm
theorem rw_sum {R : Nat → Nat} {x n : Nat} (z : Nat → Rat) : qS9 (fun i => rwG9 S G R x i * z i) n = (if R (fV9 G x) < n then z (R (fV9 G x)) else 0) - (if R (S.2 (fV9 G x)) < n then z (R (S.2 (fV9 G x))) else 0) := by
  have e1 : ∀ a, qS9 (fun i => dl9 i a * z i) n = if a < n then z a else 0 := fun a => by
    have b : ∀ i, i < n → dl9 i a * z i = dl9 a i * z i := fun i _ => by
      by_cases h9 : a = i
      · rw [show dl9 i a = 1 from if_pos h9, show dl9 a i = 1 from if_pos h9.symm]
      · rw [show dl9 i a = 0 from if_neg h9, show dl9 a i = 0 from if_neg (fun h => h9 h.symm)]
    rw [qS_cg b]
    by_cases h9 : a < n
    · rw [if_pos h9]
      exact qD_dl h9
    · rw [if_neg h9, qS_cg (g := fun _ => 0) (fun i hi => by rw [show dl9 a i = 0 from if_neg (by omega), Rat.zero_mul]), qS_0]
  have e2 : qS9 (fun i => rwG9 S G R x i * z i) n = qS9 (fun i => dl9 i (R (fV9 G x)) * z i + -(dl9 i (R (S.2 (fV9 G x))) * z i)) n := qS_cg (fun i _ => by
    unfold rwG9
    grind)
  rw [e2, qS_add, qS_neg, e1, e1]
  grind
theorem bnot {a b : Bool} (h : ¬ a = b) : a = !b := by cases a <;> cases b <;> simp_all
theorem tI_not {κ : Bool} (x : Nat) : tI9 G w (!κ) x = -tI9 G w κ x := by
  unfold tI9
  by_cases h : w (fV9 G x) = κ
  · rw [if_neg (by rw [h]; cases κ <;> decide), if_pos h]
    omega
  · rw [if_pos (bnot h), if_neg h]
theorem tI_pm {κ : Bool} (x : Nat) : tI9 G w κ x = 1 ∨ tI9 G w κ x = -1 := by
  unfold tI9 sgI9
  split <;> split <;> simp
theorem cP_t {t : Nat → Rat} : ∀ c, (∀ e, e < c → t e = 1 ∨ t e = -1) → ((cP9 t c : Nat) : Rat) - ((cP9 (fun e => -t e) c : Nat) : Rat) = qS9 t c := by
  intro c
  induction c with
  | zero =>
    intro _
    show ((0 : Nat) : Rat) - ((0 : Nat) : Rat) = 0
    exact Rat.sub_self
  | succ c ih =>
    intro h
    have a := ih (fun e he => h e (by omega))
    show ((cP9 t c + (if 0 < t c then 1 else 0) : Nat) : Rat) - ((cP9 (fun e => -t e) c + (if 0 < -t c then 1 else 0) : Nat) : Rat) = qS9 t c + t c
    rw [← a]
    rcases h c (by omega) with h9 | h9
    · rw [h9, if_pos (show (0 : Rat) < 1 by decide), if_neg (show ¬ (0 : Rat) < -1 by decide), cs_s, Nat.add_zero]
      grind
    · rw [h9, if_neg (show ¬ (0 : Rat) < -1 by decide), if_pos (show (0 : Rat) < - -1 by decide), cs_s, Nat.add_zero]
      grind
theorem cr_t {κ : Bool} : ∀ c, ((crG9 G w q κ c : Int) : Rat) - ((crG9 G w q (!κ) c : Int) : Rat) = qS9 (fun x => if q (2 * x) = true then ((tI9 G w κ x : Int) : Rat) else 0) c := by
  intro c
  induction c with
  | zero =>
    show ((0 : Int) : Rat) - ((0 : Int) : Rat) = 0
    exact Rat.sub_self
  | succ c ih =>
    show ((crG9 G w q κ c + (if q (2 * c) = true then (if w (fV9 G c) = κ then 0 else sgI9 G c) else 0) : Int) : Rat) - ((crG9 G w q (!κ) c + (if q (2 * c) = true then (if w (fV9 G c) = !κ then 0 else sgI9 G c) else 0) : Int) : Rat) = qS9 (fun x => if q (2 * x) = true then ((tI9 G w κ x : Int) : Rat) else 0) c + (if q (2 * c) = true then ((tI9 G w κ c : Int) : Rat) else 0)
    rw [← ih, Rat.intCast_add, Rat.intCast_add]
    by_cases hq : q (2 * c) = true
    · rw [if_pos hq, if_pos hq, if_pos hq]
      unfold tI9
      by_cases h : w (fV9 G c) = κ
      · rw [if_pos h, if_neg (show ¬ w (fV9 G c) = !κ by rw [h]; cases κ <;> decide), if_pos h, Rat.intCast_neg]
        show _ + ((0 : Int) : Rat) - _ = _
        rw [show ((0 : Int) : Rat) = 0 from rfl]
        grind
      · rw [if_neg h, if_pos (bnot h), if_neg h]
        rw [show ((0 : Int) : Rat) = 0 from rfl]
        grind
    · rw [if_neg hq, if_neg hq, if_neg hq]
      rw [show ((0 : Int) : Rat) = 0 from rfl]
      grind
end XSGK
end
section
/-! 99zzzzzzzzzzzzzzzzyzzu.xsgl -/
/-! signature: both colours of a part give the same number -/
section XSGL
variable {c : Nat} {S : ow_NP} {G : Nat → Int32} {w q : Nat → Bool}
/-- the rows of a colour have no kernel -/
theorem inj_G (hv : vn c S) (hq : ptQ9 c S q) {κ : Bool} {R : Nat → Nat} {k : Nat} (hk : 1 ≤ k) (hR : nbG9 c S G w q κ R k) {z : Nat → Rat} (hz : ∀ x, x < c → q (2 * x) = true → qS9 (fun i => rwG9 S G R x i * z i) (k - 1) = 0) : ∀ i, i < k - 1 → z i = 0 := by
  have hh : ∀ x, x < c → q (2 * x) = true → (fun a => if a < k - 1 then z a else 0) (R (fV9 G x)) = (fun a => if a < k - 1 then z a else 0) (R (S.2 (fV9 G x))) := fun x hx hxq => by
    have a := hz x hx hxq
    rw [rw_sum] at a
    show (if R (fV9 G x) < k - 1 then z (R (fV9 G x)) else 0) = (if R (S.2 (fV9 G x)) < k - 1 then z (R (S.2 (fV9 G x))) else 0)
    grind
  have one := one_G hv hq hR (h := fun a => if a < k - 1 then z a else 0) hh
  obtain ⟨v0, a1, a2, a3⟩ := hR.2.1 (k - 1) (by omega)
  intro i hi
  obtain ⟨v, b1, b2, b3⟩ := hR.2.1 i (by omega)
  have e := one v v0 b1 a1 b2 a2
  rw [b3, a3] at e
  have e2 : (if i < k - 1 then z i else 0) = (if k - 1 < k - 1 then z (k - 1) else 0) := e
  rw [if_pos hi, if_neg (by omega)] at e2
  exact e2
def dlG9 (G : Nat → Int32) (w : Nat → Bool) (κ : Bool) (x : Nat) : Rat := if w (fV9 G x) = κ then 1 else -1
def epG9 (w : Nat → Bool) (κ : Bool) (v : Nat) : Rat := if w v = κ then 1 else -1
def kG9 (w q : Nat → Bool) (κ : Bool) (R R2 : Nat → Nat) (i j v : Nat) : Rat := if q v = true then epG9 w κ v * dl9 i (R v) * dl9 j (R2 v) else 0
/-- right angles -/
theorem ort_G (hv : vn c S) (hw : gaO c S w) (hq : ptQ9 c S q) {κ : Bool} {R R2 : Nat → Nat} {k k2 : Nat} (hR : nbG9 c S G w q κ R k) (hR2 : nbG9 c S G w q (!κ) R2 k2) (i j : Nat) : qS9 (fun x => if q (2 * x) = true then rwG9 S G R x i * (dlG9 G w κ x * rwG9 S G R2 x j) else 0) c = 0 := by
  have wb : ∀ v, v < 2 * c → w (S.2 v) = !w v := fun v hv1 => by
    have := (hw (S.2 v) (hv v hv1).2.1).1
    rw [(hv v hv1).2.2.2] at this
    rw [this, Bool.not_not]
  have en : ∀ a : Bool, ∀ b : Bool, (if (!a) = b then (1 : Rat) else -1) = -(if a = b then 1 else -1) := fun a b => by
    cases a <;> cases b <;> simp
  have cross : ∀ x, x < c → (if q (2 * x) = true then rwG9 S G R x i * (dlG9 G w κ x * rwG9 S G R2 x j) else 0) = (kG9 w q κ R R2 i j (fV9 G x) + kG9 w q κ R R2 i j (mt (fV9 G x))) - (kG9 w q κ R R2 i j (S.2 (fV9 G x)) + kG9 w q κ R R2 i j (S.2 (mt (fV9 G x)))) := fun x hx => by
    have hf := fV_lt (G := G) hx
    have hm := mt_lt hf
    obtain ⟨q1, q2⟩ := fV_q (G := G) hq hx
    have qb : ∀ v, v < 2 * c → q (S.2 v) = q v := fun v hv1 => by
      have := (hq.1 (S.2 v) (hv v hv1).2.1).1
      rw [(hv v hv1).2.2.2] at this
      exact this.symm
    have qp1 := (qb _ hf).trans q1
    have qp2 := (qb _ hm).trans q2
    unfold kG9
    by_cases hxq : q (2 * x) = true
    · rw [q1, q2, qp1, qp2]
      rw [if_pos hxq, if_pos hxq, if_pos hxq, if_pos hxq, if_pos hxq]
      have w1 := (hw _ hf).2
      have w2 := wb _ hf
      have w3 := wb _ hm
      obtain ⟨b1, b2⟩ := hR.2.2 x hx hxq
      obtain ⟨d1, d2⟩ := hR2.2.2 x hx hxq
      unfold epG9 dlG9 rwG9
      rw [w3, w2, w1, Bool.not_not, en]
      by_cases h9 : w (fV9 G x) = κ
      · obtain ⟨c1, c2⟩ := b1 h9
        obtain ⟨c3, c4⟩ := d2 (by rw [h9, Bool.not_not])
        rw [c1, c2, c3, c4, if_pos h9]
        grind
      · obtain ⟨c1, c2⟩ := b2 (bnot h9)
        obtain ⟨c3, c4⟩ := d1 (bnot h9)
        rw [c1, c2, c3, c4, if_neg h9]
        grind
    · rw [q1, q2, qp1, qp2]
      rw [if_neg hxq, if_neg hxq, if_neg hxq]
      grind
  have e1 : qS9 (fun x => if q (2 * x) = true then rwG9 S G R x i * (dlG9 G w κ x * rwG9 S G R2 x j) else 0) c = qS9 (fun x => (kG9 w q κ R R2 i j (2 * x) + kG9 w q κ R R2 i j (2 * x + 1)) + -(kG9 w q κ R R2 i j (S.2 (2 * x)) + kG9 w q κ R R2 i j (S.2 (2 * x + 1)))) c := qS_cg (fun x hx => by
    have a1 := cross x hx
    have a2 := fV_two (G := G) (g := kG9 w q κ R R2 i j) x
    have a3 := fV_two (G := G) (g := fun v => kG9 w q κ R R2 i j (S.2 v)) x
    rw [a2, a3] at a1
    rw [a1]
    exact Rat.sub_eq_add_neg _ _)
  have p1 := qS_pair (g := kG9 w q κ R R2 i j) c
  have p2 := qS_pair (g := fun v => kG9 w q κ R R2 i j (S.2 v)) c
  have e2 := qS_back hv (kG9 w q κ R R2 i j)
  rw [e1, qS_add, qS_neg, p1, p2, e2]
  grind
theorem gF_mt {κ : Bool} {R : Nat → Nat} {ix : Nat → Nat} {N : Nat} {δ : Nat → Rat} (hδ : ∀ x, δ x * δ x = 1) (hF : ∀ F : Nat → Rat, qS9 (fun e => F (ix e)) N = qS9 (fun x => if q (2 * x) = true then F x else 0) c) : gF9 N (fun e => ((tI9 G w κ (ix e) : Int) : Rat)) (fun e i => δ (ix e) * rwG9 S G R (ix e) i) = mtG9 c S G w q κ R := by
  funext i j
  have a := hF (fun x => ((tI9 G w κ x : Int) : Rat) * rwG9 S G R x i * rwG9 S G R x j)
  show qS9 (fun e => ((tI9 G w κ (ix e) : Int) : Rat) * (δ (ix e) * rwG9 S G R (ix e) i) * (δ (ix e) * rwG9 S G R (ix e) j)) N = qS9 (fun x => if q (2 * x) = true then ((tI9 G w κ x : Int) : Rat) * rwG9 S G R x i * rwG9 S G R x j else 0) c
  rw [← a]
  refine qS_cg (fun e _ => ?_)
  have := hδ (ix e)
  grind
/-- fewer faces than crossings and two -/
theorem eul_G (hv : vn c S) (hw : gaO c S w) (hq : ptQ9 c S q) {κ : Bool} {R R2 : Nat → Nat} {k k2 : Nat} (hk : 1 ≤ k) (hk2 : 1 ≤ k2) (hR : nbG9 c S G w q κ R k) (hR2 : nbG9 c S G w q (!κ) R2 k2) : k + k2 ≤ nF (fun x => q (2 * x)) c + 2 := by
  obtain ⟨ix, i1, i2, i3⟩ := enG9 (fun x => q (2 * x)) c
  generalize nF (fun x => q (2 * x)) c = N at i1 i2 i3 ⊢
  by_cases hle : k + k2 ≤ N + 2
  · exact hle
  · exfalso
    obtain ⟨u, ⟨s, hs, hu⟩, hq0⟩ := lin_n (n := (k - 1) + (k2 - 1)) (fun e l => if l < k - 1 then rwG9 S G R (ix e) l else dlG9 G w κ (ix e) * rwG9 S G R2 (ix e) (l - (k - 1))) (m := N) (by omega)
    have eq : ∀ e, e < N → qS9 (fun i => rwG9 S G R (ix e) i * u i) (k - 1) + dlG9 G w κ (ix e) * qS9 (fun j => rwG9 S G R2 (ix e) j * u (k - 1 + j)) (k2 - 1) = 0 := fun e he => by
      have a := hq0 e he
      unfold qD9 at a
      rw [sp_cut] at a
      have a1 : qS9 (fun l => (fun l => if l < k - 1 then rwG9 S G R (ix e) l else dlG9 G w κ (ix e) * rwG9 S G R2 (ix e) (l - (k - 1))) l * u l) (k - 1) = qS9 (fun i => rwG9 S G R (ix e) i * u i) (k - 1) := qS_cg (fun l hl => by
        dsimp only
        rw [if_pos hl])
      have a2 : qS9 (fun j => (fun l => if l < k - 1 then rwG9 S G R (ix e) l else dlG9 G w κ (ix e) * rwG9 S G R2 (ix e) (l - (k - 1))) (k - 1 + j) * u (k - 1 + j)) (k2 - 1) = dlG9 G w κ (ix e) * qS9 (fun j => rwG9 S G R2 (ix e) j * u (k - 1 + j)) (k2 - 1) := by
        rw [← qS_mul]
        refine qS_cg (fun j hj => ?_)
        dsimp only
        rw [if_neg (by omega), show k - 1 + j - (k - 1) = j by omega]
        grind
      rw [a1, a2] at a
      exact a
    have dd : ∀ x, dlG9 G w κ x * dlG9 G w κ x = 1 := fun x => by
      unfold dlG9
      split <;> grind
    -- the cross terms are 0
    have o : qS9 (fun e => qS9 (fun i => rwG9 S G R (ix e) i * u i) (k - 1) * (dlG9 G w κ (ix e) * qS9 (fun j => rwG9 S G R2 (ix e) j * u (k - 1 + j)) (k2 - 1))) N = 0 := by
      have a1 : ∀ e, e < N → qS9 (fun i => rwG9 S G R (ix e) i * u i) (k - 1) * (dlG9 G w κ (ix e) * qS9 (fun j => rwG9 S G R2 (ix e) j * u (k - 1 + j)) (k2 - 1)) = qS9 (fun i => qS9 (fun j => u i * u (k - 1 + j) * (rwG9 S G R (ix e) i * (dlG9 G w κ (ix e) * rwG9 S G R2 (ix e) j))) (k2 - 1)) (k - 1) := fun e he => by
        rw [Rat.mul_comm, ← qS_mul]
        refine qS_cg (fun i _ => ?_)
        have b : dlG9 G w κ (ix e) * qS9 (fun j => rwG9 S G R2 (ix e) j * u (k - 1 + j)) (k2 - 1) * (rwG9 S G R (ix e) i * u i) = (dlG9 G w κ (ix e) * rwG9 S G R (ix e) i * u i) * qS9 (fun j => rwG9 S G R2 (ix e) j * u (k - 1 + j)) (k2 - 1) := by grind
        rw [b, ← qS_mul]
        exact qS_cg (fun j _ => by grind)
      rw [qS_cg a1, qS_sw, qS_cg (g := fun _ => 0) (fun i _ => by
        rw [qS_sw, qS_cg (g := fun _ => 0) (fun j _ => by
          rw [qS_mul, i3 (fun x => rwG9 S G R x i * (dlG9 G w κ x * rwG9 S G R2 x j)), ort_G hv hw hq hR hR2, Rat.mul_zero]), qS_0]), qS_0]
    have z0 : ∀ e, e < N → qS9 (fun i => rwG9 S G R (ix e) i * u i) (k - 1) = 0 := fun e he => by
      by_cases h9 : qS9 (fun i => rwG9 S G R (ix e) i * u i) (k - 1) = 0
      · exact h9
      · have a1 : ∀ e, e < N → 0 ≤ -(qS9 (fun i => rwG9 S G R (ix e) i * u i) (k - 1) * (dlG9 G w κ (ix e) * qS9 (fun j => rwG9 S G R2 (ix e) j * u (k - 1 + j)) (k2 - 1))) := fun e he => by
          have b := eq e he
          have d := sq_nn9 (qS9 (fun i => rwG9 S G R (ix e) i * u i) (k - 1))
          have b2 : dlG9 G w κ (ix e) * qS9 (fun j => rwG9 S G R2 (ix e) j * u (k - 1 + j)) (k2 - 1) = -qS9 (fun i => rwG9 S G R (ix e) i * u i) (k - 1) := by grind
          rw [b2]
          grind
        have a2 := qS_ps a1 ⟨e, he, by
          have b := eq e he
          have d := sq_ps9 h9
          have b2 : dlG9 G w κ (ix e) * qS9 (fun j => rwG9 S G R2 (ix e) j * u (k - 1 + j)) (k2 - 1) = -qS9 (fun i => rwG9 S G R (ix e) i * u i) (k - 1) := by grind
          rw [b2]
          grind⟩
        rw [qS_neg, o] at a2
        exact absurd a2 (by decide)
    have y0 : ∀ e, e < N → qS9 (fun j => rwG9 S G R2 (ix e) j * u (k - 1 + j)) (k2 - 1) = 0 := fun e he => by
      have a := eq e he
      rw [z0 e he, Rat.zero_add] at a
      have d := dd (ix e)
      grind
    have hx := inj_G hv hq hk hR (z := u) (fun x hx hxq => by
      obtain ⟨e, e1, e2⟩ := i2 x hx hxq
      rw [← e2]
      exact z0 e e1)
    have hy := inj_G hv hq hk2 hR2 (z := fun j => u (k - 1 + j)) (fun x hx hxq => by
      obtain ⟨e, e1, e2⟩ := i2 x hx hxq
      rw [← e2]
      exact y0 e e1)
    by_cases h9 : s < k - 1
    · exact hu (hx s h9)
    · have := hy (s - (k - 1)) (by omega)
      rw [show k - 1 + (s - (k - 1)) = s by omega] at this
      exact hu this
/-- BOTH COLOURS -/
theorem sv_G (hv : vn c S) (hw : gaO c S w) (hq : ptQ9 c S q) {κ : Bool} {R R2 : Nat → Nat} {k k2 : Nat} (hk : 1 ≤ k) (hk2 : 1 ≤ k2) (hR : nbG9 c S G w q κ R k) (hR2 : nbG9 c S G w q (!κ) R2 k2) (he : k + k2 = nF (fun x => q (2 * x)) c + 2) : svG9 c S G w q κ R k = svG9 c S G w q (!κ) R2 k2 := by
  obtain ⟨ix, i1, i2, i3⟩ := enG9 (fun x => q (2 * x)) c
  generalize nF (fun x => q (2 * x)) c = N at i1 i2 i3 he
  have dd : ∀ x, dlG9 G w κ x * dlG9 G w κ x = 1 := fun x => by
    unfold dlG9
    split <;> grind
  have ht : ∀ e, e < N → ((tI9 G w κ (ix e) : Int) : Rat) = 1 ∨ ((tI9 G w κ (ix e) : Int) : Rat) = -1 := fun e _ => by
    rcases tI_pm (G := G) (w := w) (κ := κ) (ix e) with h | h
    · exact Or.inl (by rw [h]; rfl)
    · exact Or.inr (by rw [h]; rfl)
  have key := two9 (c := N) (n := k - 1) (m := k2 - 1) (t := fun e => ((tI9 G w κ (ix e) : Int) : Rat)) (W := fun e i => (fun _ => (1 : Rat)) (ix e) * rwG9 S G R (ix e) i) (B := fun e i => dlG9 G w κ (ix e) * rwG9 S G R2 (ix e) i) ht (fun z hz => inj_G hv hq hk hR (fun x hx hxq => by
    obtain ⟨e, e1, e2⟩ := i2 x hx hxq
    rw [← e2, ← hz e e1]
    exact qS_cg (fun i _ => by grind))) (fun z hz => inj_G hv hq hk2 hR2 (fun x hx hxq => by
    obtain ⟨e, e1, e2⟩ := i2 x hx hxq
    have a := hz e e1
    have a2 : qV9 (k2 - 1) (fun e i => dlG9 G w κ (ix e) * rwG9 S G R2 (ix e) i) z e = dlG9 G w κ (ix e) * qS9 (fun i => rwG9 S G R2 (ix e) i * z i) (k2 - 1) := by
      rw [← qS_mul]
      exact qS_cg (fun i _ => by grind)
    rw [a2] at a
    have d := dd (ix e)
    rw [← e2]
    grind)) (fun i j _ _ => by
    have a := i3 (fun x => rwG9 S G R x i * (dlG9 G w κ x * rwG9 S G R2 x j))
    have o := ort_G hv hw hq hR hR2 i j
    rw [o] at a
    rw [← a]
    exact qS_cg (fun e _ => by grind)) (by omega)
  have m1 := gF_mt (c := c) (S := S) (G := G) (w := w) (q := q) (κ := κ) (R := R) (ix := ix) (N := N) (δ := fun _ => 1) (fun _ => by grind) i3
  have m2 := gF_mt (c := c) (S := S) (G := G) (w := w) (q := q) (κ := !κ) (R := R2) (ix := ix) (N := N) (δ := dlG9 G w κ) dd i3
  have nt : (fun e => -((tI9 G w κ (ix e) : Int) : Rat)) = fun e => ((tI9 G w (!κ) (ix e) : Int) : Rat) := by
    funext e
    rw [tI_not, Rat.intCast_neg]
  rw [m1, nt, m2] at key
  have s1 := cP_t N ht
  rw [nt, i3 (fun x => ((tI9 G w κ x : Int) : Rat)), ← cr_t] at s1
  -- into integers
  have s2 : ((cP9 (fun e => ((tI9 G w κ (ix e) : Int) : Rat)) N : Nat) : Int) - ((cP9 (fun e => ((tI9 G w (!κ) (ix e) : Int) : Rat)) N : Nat) : Int) = crG9 G w q κ c - crG9 G w q (!κ) c := by
    refine Rat.intCast_inj.mp ?_
    rw [Rat.intCast_sub, Rat.intCast_sub]
    exact s1
  unfold svG9
  omega
end XSGL
end
section
/-! 99zzzzzzzzzzzzzzzzyzzv.xsgm -/
/-! signature: the coefficients are whole numbers, and not too large -/
def zS9 (f : Nat → Int) : Nat → Int
  | 0 => 0
  | n + 1 => zS9 f n + f n
def zd9 (n i : Nat) : Int := if i = n then 1 else 0
def zn9 (k : Nat) : Int := if k % 2 = 0 then 1 else -1
/-- column j of N_k, in whole numbers -/
def zN9 (n : Nat) (M : Nat → Nat → Int) (E : Nat → Int) (j : Nat) : Nat → Nat → Int
  | 0 => zd9 j
  | k + 1 => fun i => E (k + 1) * zd9 j i - zS9 (fun m => M i m * zN9 n M E j k m) n
def cM9 (M : Nat → Nat → Int) : mQ99 := fun i j => ((M i j : Int) : Rat)
def ab9 (x : Rat) : Rat := if 0 ≤ x then x else -x
section XSGM
variable {n : Nat} {M : Nat → Nat → Int} {E : Nat → Int}
theorem zS_cs {f : Nat → Int} : ∀ n, ((zS9 f n : Int) : Rat) = qS9 (fun i => ((f i : Int) : Rat)) n := by
  intro n
  induction n with
  | zero => rfl
  | succ n ih =>
    show ((zS9 f n + f n : Int) : Rat) = qS9 (fun i => ((f i : Int) : Rat)) n + ((f n : Int) : Rat)
    rw [Rat.intCast_add, ih]
theorem zS_cg {f g : Nat → Int} : ∀ {n : Nat}, (∀ i, i < n → f i = g i) → zS9 f n = zS9 g n := by
  intro n
  induction n with
  | zero => exact fun _ => rfl
  | succ n ih =>
    intro h
    show zS9 f n + f n = zS9 g n + g n
    rw [ih (fun i hi => h i (by omega)), h n (by omega)]
theorem zd_cs {j i : Nat} : ((zd9 j i : Int) : Rat) = dl9 j i := by
  unfold zd9 dl9
  split <;> rfl
theorem zN_cs (j : Nat) : ∀ k i, ((zN9 n M E j k i : Int) : Rat) = qN9 n (cM9 M) (fun k => ((E k : Int) : Rat)) (dl9 j) k i := by
  intro k
  induction k with
  | zero => exact fun i => zd_cs
  | succ k ih =>
    intro i
    show ((E (k + 1) * zd9 j i - zS9 (fun m => M i m * zN9 n M E j k m) n : Int) : Rat) = ((E (k + 1) : Int) : Rat) * dl9 j i - qV9 n (cM9 M) (qN9 n (cM9 M) (fun k => ((E k : Int) : Rat)) (dl9 j) k) i
    rw [Rat.intCast_sub, Rat.intCast_mul, zd_cs, zS_cs]
    refine congrArg (fun s => ((E (k + 1) : Int) : Rat) * dl9 j i - s) (qS_cg (fun m _ => ?_))
    rw [Rat.intCast_mul, ih m]
    rfl
/-- whole numbers -/
theorem isZ_E : ∀ n, ∃ E : Nat → Int, ∀ k, ((E k : Int) : Rat) = qE9 (cM9 M) n k := by
  intro n
  induction n with
  | zero =>
    refine ⟨fun k => if k = 0 then 1 else 0, fun k => ?_⟩
    show (((if k = 0 then 1 else 0 : Int) : Int) : Rat) = if k = 0 then 1 else 0
    split <;> rfl
  | succ n ih =>
    obtain ⟨E, hE⟩ := ih
    have ee : qE9 (cM9 M) n = fun k => ((E k : Int) : Rat) := (funext hE).symm
    have nz : ∀ k i, ∃ z : Int, ((z : Int) : Rat) = qN9 n (cM9 M) (fun k => ((E k : Int) : Rat)) (fun i => cM9 M i n) k i := by
      intro k
      induction k with
      | zero => exact fun i => ⟨M i n, rfl⟩
      | succ k ihk =>
        intro i
        refine ⟨E (k + 1) * M i n - zS9 (fun m => M i m * Classical.choose (ihk m)) n, ?_⟩
        show _ = ((E (k + 1) : Int) : Rat) * cM9 M i n - qV9 n (cM9 M) (qN9 n (cM9 M) (fun k => ((E k : Int) : Rat)) (fun i => cM9 M i n) k) i
        rw [Rat.intCast_sub, Rat.intCast_mul, zS_cs]
        refine congrArg (fun s => ((E (k + 1) : Int) : Rat) * cM9 M i n - s) (qS_cg (fun m _ => ?_))
        rw [Rat.intCast_mul, Classical.choose_spec (ihk m)]
        rfl
    refine ⟨fun k => match k with
      | 0 => 1
      | 1 => E 1 + M n n
      | k + 2 => E (k + 2) + M n n * E (k + 1) - zS9 (fun i => M n i * Classical.choose (nz k i)) n, fun k => ?_⟩
    cases k with
    | zero => rfl
    | succ k =>
      cases k with
      | zero =>
        show ((E 1 + M n n : Int) : Rat) = qE9 (cM9 M) n 1 + cM9 M n n
        rw [Rat.intCast_add, hE]
        rfl
      | succ k =>
        show ((E (k + 2) + M n n * E (k + 1) - zS9 (fun i => M n i * Classical.choose (nz k i)) n : Int) : Rat) = qE9 (cM9 M) n (k + 2) + cM9 M n n * qE9 (cM9 M) n (k + 1) - qD9 n (cM9 M n) (qN9 n (cM9 M) (qE9 (cM9 M) n) (fun i => cM9 M i n) k)
        rw [Rat.intCast_sub, Rat.intCast_add, Rat.intCast_mul, hE, hE, zS_cs, ee]
        refine congrArg (fun s => ((E (k + 2) : Int) : Rat) + cM9 M n n * ((E (k + 1) : Int) : Rat) - s) (qS_cg (fun i _ => ?_))
        rw [Rat.intCast_mul, Classical.choose_spec (nz k i)]
        rfl
/-- the trace, in whole numbers -/
theorem zN_tr (hE : ∀ k, ((E k : Int) : Rat) = qE9 (cM9 M) n k) (k : Nat) : zS9 (fun i => E k - zN9 n M E i k i) n = (k : Int) * E k := by
  refine Rat.intCast_inj.mp ?_
  have ee : (fun k => ((E k : Int) : Rat)) = qE9 (cM9 M) n := funext hE
  rw [zS_cs]
  have e1 : qS9 (fun i => ((E k - zN9 n M E i k i : Int) : Rat)) n = qS9 (fun i => (fun _ => qE9 (cM9 M) n k) i + -qN9 n (cM9 M) (qE9 (cM9 M) n) (dl9 i) k i) n := qS_cg (fun i _ => by
    rw [Rat.intCast_sub, zN_cs, hE, ee]
    exact Rat.sub_eq_add_neg _ _)
  rw [e1, qS_add, qS_neg, tr_E, qS_c, Rat.intCast_mul, hE]
  show (n : Rat) * qE9 (cM9 M) n k + -(((n : Rat) - (k : Rat)) * qE9 (cM9 M) n k) = (k : Rat) * qE9 (cM9 M) n k
  grind
theorem ab_nn (x : Rat) : 0 ≤ ab9 x := by
  unfold ab9
  split
  · assumption
  · grind
theorem ab_le {x b : Rat} (h1 : x ≤ b) (h2 : -x ≤ b) : ab9 x ≤ b := by
  unfold ab9
  split
  · exact h1
  · exact h2
theorem ab_ge (x : Rat) : x ≤ ab9 x ∧ -x ≤ ab9 x := by
  unfold ab9
  split <;> grind
theorem abQ_add (x y : Rat) : ab9 (x + y) ≤ ab9 x + ab9 y := by
  have a := ab_ge x
  have b := ab_ge y
  exact ab_le (by grind) (by grind)
theorem ab_mul (x y : Rat) : ab9 (x * y) = ab9 x * ab9 y := by
  have key : ∀ x y : Rat, 0 ≤ x → 0 ≤ y → ab9 (x * y) = x * y := fun x y h1 h2 => if_pos (Rat.mul_nonneg h1 h2)
  have ng : ∀ x : Rat, ab9 (-x) = ab9 x := fun x => by
    unfold ab9
    by_cases h : 0 ≤ x
    · by_cases h2 : 0 ≤ -x
      · rw [if_pos h, if_pos h2]
        grind
      · rw [if_pos h, if_neg h2]
        grind
    · rw [if_neg h, if_pos (by grind)]
  rcases Rat.le_total (a := 0) (b := x) with h1 | h1 <;> rcases Rat.le_total (a := 0) (b := y) with h2 | h2
  · rw [key x y h1 h2, show ab9 x = x from if_pos h1, show ab9 y = y from if_pos h2]
  · have h3 : 0 ≤ -y := by grind
    rw [← ng y, ← ng (x * y), show -(x * y) = x * -y by grind, key x (-y) h1 h3, show ab9 x = x from if_pos h1, show ab9 (-y) = -y from if_pos h3]
  · have h3 : 0 ≤ -x := by grind
    rw [← ng x, ← ng (x * y), show -(x * y) = -x * y by grind, key (-x) y h3 h2, show ab9 (-x) = -x from if_pos h3, show ab9 y = y from if_pos h2]
  · have h3 : 0 ≤ -x := by grind
    have h4 : 0 ≤ -y := by grind
    rw [← ng x, ← ng y, show x * y = -x * -y by grind, key (-x) (-y) h3 h4, show ab9 (-x) = -x from if_pos h3, show ab9 (-y) = -y from if_pos h4]
theorem qS_le {f g : Nat → Rat} : ∀ {n : Nat}, (∀ i, i < n → f i ≤ g i) → qS9 f n ≤ qS9 g n := by
  intro n
  induction n with
  | zero => exact fun _ => Rat.le_refl
  | succ n ih =>
    intro h
    have a := ih (fun i hi => h i (by omega))
    have b := h n (by omega)
    show qS9 f n + f n ≤ qS9 g n + g n
    grind
theorem ab_sum {f : Nat → Rat} : ∀ n, ab9 (qS9 f n) ≤ qS9 (fun i => ab9 (f i)) n := by
  intro n
  induction n with
  | zero =>
    show ab9 0 ≤ 0
    exact ab_le Rat.le_refl (by grind)
  | succ n ih =>
    have a := abQ_add (qS9 f n) (f n)
    show ab9 (qS9 f n + f n) ≤ qS9 (fun i => ab9 (f i)) n + ab9 (f n)
    grind
theorem mul_le9 {a b c d : Rat} (h1 : a ≤ b) (h2 : c ≤ d) (h3 : 0 ≤ c) (h4 : 0 ≤ b) : a * c ≤ b * d := by
  have x := Rat.mul_le_mul_of_nonneg_right h1 h3
  have y := Rat.mul_le_mul_of_nonneg_left h2 h4
  grind
theorem pw_add9 (s : Rat) (a : Nat) : ∀ b, s ^ (a + b) = s ^ a * s ^ b := by
  intro b
  induction b with
  | zero => rw [Nat.add_zero, Rat.pow_zero, Rat.mul_one]
  | succ b ih => rw [show a + (b + 1) = a + b + 1 from rfl, Rat.pow_succ, ih, Rat.pow_succ, Rat.mul_assoc]
/-- powers of a matrix whose rows are small -/
theorem qA_bd {A : mQ99} {s : Rat} (hs : 0 ≤ s) (h : ∀ i, i < n → qS9 (fun j => ab9 (A i j)) n ≤ s) {w : Nat → Rat} (hw : ∀ i, i < n → ab9 (w i) ≤ 1) : ∀ l i, i < n → ab9 (qA9 n A w l i) ≤ s ^ l := by
  intro l
  induction l with
  | zero =>
    intro i hi
    rw [Rat.pow_zero]
    exact hw i hi
  | succ l ih =>
    intro i hi
    show ab9 (qS9 (fun k => A i k * qA9 n A w l k) n) ≤ s ^ (l + 1)
    have a1 := ab_sum (f := fun k => A i k * qA9 n A w l k) n
    have a2 : qS9 (fun k => ab9 (A i k * qA9 n A w l k)) n ≤ qS9 (fun k => s ^ l * ab9 (A i k)) n := qS_le (fun k hk => by
      rw [ab_mul]
      have := Rat.mul_le_mul_of_nonneg_left (ih k hk) (ab_nn (A i k))
      grind)
    rw [qS_mul] at a2
    have a3 := Rat.mul_le_mul_of_nonneg_left (h i hi) (show 0 ≤ s ^ l from Rat.pow_nonneg hs)
    rw [Rat.pow_succ]
    grind
theorem ab_1 (x : Rat) (h : x = 1 ∨ x = -1 ∨ x = 0) : ab9 x ≤ 1 := by
  rcases h with h | h | h <;> rw [h] <;> exact ab_le (by decide) (by decide)
theorem qT_bd {A : mQ99} {s t : Rat} (hs : 0 ≤ s) (h : ∀ i, i < n → qS9 (fun j => ab9 (A i j)) n ≤ s) (ht : qS9 (fun i => qS9 (fun j => ab9 (A i j)) n) n ≤ t) (l : Nat) : ab9 (qT9 n A (l + 1)) ≤ t * s ^ l := by
  unfold qT9
  have a1 := ab_sum (f := fun c => qA9 n A (dl9 c) (l + 1) c) n
  have a2 : qS9 (fun c => ab9 (qA9 n A (dl9 c) (l + 1) c)) n ≤ qS9 (fun c => s ^ l * qS9 (fun j => ab9 (A c j)) n) n := qS_le (fun c hc => by
    show ab9 (qS9 (fun k => A c k * qA9 n A (dl9 c) l k) n) ≤ _
    have b1 := ab_sum (f := fun k => A c k * qA9 n A (dl9 c) l k) n
    have b2 : qS9 (fun k => ab9 (A c k * qA9 n A (dl9 c) l k)) n ≤ qS9 (fun k => s ^ l * ab9 (A c k)) n := qS_le (fun k hk => by
      rw [ab_mul]
      have := Rat.mul_le_mul_of_nonneg_left (qA_bd hs h (w := dl9 c) (fun i _ => ab_1 _ (by unfold dl9; split <;> simp)) l k hk) (ab_nn (A c k))
      grind)
    rw [qS_mul] at b2
    grind)
  rw [qS_mul] at a2
  have a3 := Rat.mul_le_mul_of_nonneg_left ht (show 0 ≤ s ^ l from Rat.pow_nonneg hs)
  grind
/-- the coefficients -/
theorem qE_bd {A : mQ99} {s : Rat} (hs : 0 ≤ s) (h : ∀ i, i < n → qS9 (fun j => ab9 (A i j)) n ≤ s) (ht : qS9 (fun i => qS9 (fun j => ab9 (A i j)) n) n ≤ 2 * s) : ∀ k, ab9 (qE9 A n k) ≤ ((k : Rat) + 1) * s ^ k := by
  intro k
  induction k using Nat.strongRecOn with
  | _ k ih =>
    cases k with
    | zero =>
      rw [qE_0, Rat.pow_zero]
      refine ab_le ?_ ?_
      · show (1 : Rat) ≤ (((0 : Nat) : Rat) + 1) * 1
        rw [show ((0 : Nat) : Rat) = 0 from rfl]
        grind
      · show -(1 : Rat) ≤ (((0 : Nat) : Rat) + 1) * 1
        rw [show ((0 : Nat) : Rat) = 0 from rfl]
        grind
    | succ k =>
      have a := tr_E (A := A) n (k + 1)
      rw [tr_N qE_0, qS_hd, show sn9 0 = 1 from rfl, tr_0, cs_s] at a
      have b : qS9 (fun l => sn9 (l + 1) * qE9 A n (k + 1 - (l + 1)) * qT9 n A (l + 1)) (k + 1) = qS9 (fun l => sn9 (l + 1) * qE9 A n (k - l) * qT9 n A (l + 1)) (k + 1) := qS_cg (fun l _ => by rw [show k + 1 - (l + 1) = k - l by omega])
      rw [b, show k + 1 - 0 = k + 1 by omega] at a
      have e : ((k : Rat) + 1) * qE9 A n (k + 1) = -qS9 (fun l => sn9 (l + 1) * qE9 A n (k - l) * qT9 n A (l + 1)) (k + 1) := by grind
      have hk : (0 : Rat) < (k : Rat) + 1 := by
        rw [← cs_s]
        exact Rat.natCast_pos.mpr (by omega)
      have c1 : ab9 (qS9 (fun l => sn9 (l + 1) * qE9 A n (k - l) * qT9 n A (l + 1)) (k + 1)) ≤ qS9 (fun l => (2 * s ^ (k + 1)) * (((k - l : Nat) : Rat) + 1)) (k + 1) := by
        refine Rat.le_trans (ab_sum _) (qS_le (fun l hl => ?_))
        rw [ab_mul, ab_mul]
        have d1 := ih (k - l) (by omega)
        have d2 := qT_bd hs h ht l
        have d3 : ab9 (sn9 (l + 1)) ≤ 1 := ab_1 _ (by unfold sn9; split <;> simp)
        have d4 := mul_le9 d3 d1 (ab_nn _) (by decide)
        have d5 := mul_le9 d4 d2 (ab_nn _) (by
          have z1 : 0 ≤ s ^ (k - l) := Rat.pow_nonneg hs
          have z2 : (0 : Rat) ≤ ((k - l : Nat) : Rat) := Rat.natCast_nonneg
          have z3 := Rat.mul_nonneg (show (0 : Rat) ≤ ((k - l : Nat) : Rat) + 1 by grind) z1
          grind)
        have d6 : s ^ (k + 1) = s ^ (k - l) * (s * s ^ l) := by
          rw [show k + 1 = (k - l) + (l + 1) by omega, pw_add9, Rat.pow_succ]
          grind
        rw [d6]
        grind
      have c2 : ∀ m : Nat, m ≤ k → qS9 (fun l => ((k - l : Nat) : Rat) + 1) (m + 1) * 2 = ((m : Rat) + 1) * (2 * (k : Rat) + 2 - (m : Rat)) := by
        intro m
        induction m with
        | zero =>
          intro _
          show ((0 : Rat) + (((k - 0 : Nat) : Rat) + 1)) * 2 = (((0 : Nat) : Rat) + 1) * (2 * (k : Rat) + 2 - ((0 : Nat) : Rat))
          rw [show k - 0 = k by omega, show ((0 : Nat) : Rat) = 0 from rfl]
          grind
        | succ m ihm =>
          intro hm
          have f := ihm (by omega)
          show (qS9 (fun l => ((k - l : Nat) : Rat) + 1) (m + 1) + (((k - (m + 1) : Nat) : Rat) + 1)) * 2 = _
          have e5 : ((k - (m + 1) : Nat) : Rat) = (k : Rat) - ((m : Rat) + 1) := by
            have e6 : ((k - (m + 1) + (m + 1) : Nat) : Rat) = (k : Rat) := by rw [show k - (m + 1) + (m + 1) = k by omega]
            rw [← cs_s]
            have e7 : ((k - (m + 1) + (m + 1) : Nat) : Rat) = ((k - (m + 1) : Nat) : Rat) + ((m + 1 : Nat) : Rat) := Rat.natCast_add _ _
            grind
          rw [e5, cs_s]
          grind
      have c3 := c2 k (Nat.le_refl k)
      rw [qS_mul] at c1
      have c4 : ((k : Rat) + 1) * ab9 (qE9 A n (k + 1)) = ab9 (qS9 (fun l => sn9 (l + 1) * qE9 A n (k - l) * qT9 n A (l + 1)) (k + 1)) := by
        have f1 : ab9 (((k : Rat) + 1) * qE9 A n (k + 1)) = ab9 (qS9 (fun l => sn9 (l + 1) * qE9 A n (k - l) * qT9 n A (l + 1)) (k + 1)) := by
          rw [e, show -qS9 (fun l => sn9 (l + 1) * qE9 A n (k - l) * qT9 n A (l + 1)) (k + 1) = -1 * qS9 (fun l => sn9 (l + 1) * qE9 A n (k - l) * qT9 n A (l + 1)) (k + 1) by grind, ab_mul, show ab9 (-1) = 1 by unfold ab9; rw [if_neg (by decide)]; grind, Rat.one_mul]
        rw [ab_mul, show ab9 ((k : Rat) + 1) = (k : Rat) + 1 from if_pos (Rat.le_of_lt hk)] at f1
        exact f1
      rw [cs_s]
      refine Rat.le_of_mul_le_mul_left (c := (k : Rat) + 1) ?_ hk
      rw [c4]
      refine Rat.le_trans c1 ?_
      have c5 : ∀ p Q κ : Rat, Q * 2 = (κ + 1) * (2 * κ + 2 - κ) → 2 * p * Q = (κ + 1) * ((κ + 1 + 1) * p) := fun p Q κ h => by grind
      rw [c5 _ _ _ c3]
      exact Rat.le_refl
end XSGM
end
