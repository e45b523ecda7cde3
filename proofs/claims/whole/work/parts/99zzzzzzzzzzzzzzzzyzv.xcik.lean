/-! chain: both tables tell the same -/
/-- the class's table tells D -/
def tcD (D : Int → Int → Int) (y : ow_MS) : Prop := ∃ (c' n' : Nat) (CT : Nat → Int → Int), n' ≤ c' ∧ c' ≤ 8 ∧ y.1 43019 = iI ((c' : Int) - 2 * n') ∧ y.1 43020 = nI n' ∧ tabT y CT ∧ (∀ o d, (c' < o ∨ d < -16 ∨ 24 < d) → CT o d = 0) ∧ ∀ i q : Int, D i q = if 0 ≤ i + n' then CT (i + n').toNat (q - c' + 3 * n') else 0
/-- the reference's table tells D -/
def trD (D : Int → Int → Int) (z : ow_MS) : Prop := ∃ ng : Nat, ng ≤ 8 ∧ z.1 88 = nI ng ∧ (∀ r q : Nat, r < 10 → q < 80 → z.2.1 87 (80 * r + q) = iI (D ((r : Int) - ng) ((q : Int) - 40))) ∧ ∀ i q : Int, (i + ng < 0 ∨ 9 < i + ng ∨ q < -40 ∨ 40 ≤ q) → D i q = 0
section XCL2
theorem sN_z {f : Nat → Int} {n : Nat} (h : ∀ i, i < n → f i = 0) : sN9 f n = 0 := (sN_cg (g := fun _ => 0) h).trans sN_0
/-- a window that holds all that is not 0 -/
theorem sN_win {g : Int → Int} {lo a : Int} {n m : Nat} (h : ∀ d, (d < lo ∨ lo + m ≤ d) → g d = 0) (ha : a ≤ lo) (hb : lo + m ≤ a + n) : sN9 (fun q => g ((q : Int) + a)) n = sN9 (fun q => g ((q : Int) + lo)) m := by
  obtain ⟨k, hk⟩ : ∃ k : Nat, lo = a + k := ⟨(lo - a).toNat, by omega⟩
  obtain ⟨t, ht⟩ : ∃ t : Nat, n = k + (m + t) := ⟨n - k - m, by omega⟩
  rw [ht, sN_sp, sN_sp, sN_z (f := fun q => g ((q : Int) + a)) (fun i hi => h _ (by omega)), sN_z (f := fun i => (fun i => (fun q : Nat => g ((q : Int) + a)) (k + i)) (m + i)) (fun i hi => h _ (by omega)), Int.zero_add, Int.add_zero]
  refine sN_cg (fun i hi => ?_)
  show g (((k + i : Nat) : Int) + a) = g ((i : Int) + lo)
  congr 1
  omega
theorem sN_rows {f : Nat → Nat → Int} {w : Nat} (hw : 0 < w) : ∀ n, sN9 (fun i => f (i / w) (i % w)) (w * n) = sN9 (fun o => sN9 (fun e => f o e) w) n := by
  intro n
  induction n with
  | zero => rfl
  | succ n ih =>
    rw [Nat.mul_succ, sN_sp, ih]
    show _ + _ = _ + sN9 (fun e => f n e) w
    congr 1
    refine sN_cg (fun e he => ?_)
    show f ((w * n + e) / w) ((w * n + e) % w) = f n e
    rw [Nat.mul_add_div hw, Nat.div_eq_of_lt he, Nat.mul_add_mod, Nat.mod_eq_of_lt he]
    rfl
theorem sN_sw9 {f : Nat → Nat → Int} {m : Nat} : ∀ n, sN9 (fun q => sN9 (fun r => f r q) m) n = sN9 (fun r => sN9 (fun q => f r q) n) m := by
  intro n
  induction n with
  | zero => exact (sN_z (fun i _ => rfl)).symm
  | succ n ih =>
    show sN9 (fun q => sN9 (fun r => f r q) m) n + sN9 (fun r => f r n) m = sN9 (fun r => sN9 (fun q => f r q) n + f r n) m
    rw [ih, sN_a]
theorem be_ex {p : Int} {S : Nat → gn9 → Prop} {D : gn9 → fc9} {r : Nat} (h : fi9 S) : ∃ b, be9 p S D r b := by
  obtain ⟨E, N, hE⟩ := fi_en h
  exact ⟨(N (r + 1) : Int) - rn9 p E N D (r + 1) - rn9 p E N D r, E, N, hE, by omega⟩
theorem rt_bL {p : Nat} {A : rn_L} {sg : Nat → Bool} {T : ow_NT} {w : vT → Bool} {mi r q : Nat} (hp : prT p) (hN : isoN A sg (fun x => x) T) (hv : vn T.1 T.2.2.1) (hT : pm1 T) (hw : gaA A w) (hb : bdA A) (hc : T.1 ≤ 8) (h9 : ∀ s, s < 2 ^ T.1 → LcN A sg s ≤ 9) (hr : r ≤ T.1) : bL9 p A sg (fun x => x) T.1 1 (dgq T.1 mi q) r (rtR p A sg T.1 mi r q) := by
  have hO := nm_id hN hv
  have hCu := cuA (prp_of hp) (iv_of hp) (isoV_of hN hv) hT hw hb hO
  have hLT := LT_R hN hT hv hc hb h9
  have hB : ∃ b, bL9 p A sg (fun x => x) T.1 1 (dgq T.1 mi q) r b := be_ex (Sg_en hCu)
  obtain ⟨b, hB⟩ := hB
  obtain ⟨-, m2, m3⟩ := be_MT (prp_of hp) (iv_of hp) hCu hLT (by omega) hB
  have hcc : RKR p A sg T.1 (dgq T.1 mi q) T.1 = 0 := by
    unfold RKR RK9
    rw [sz9_0 h9 hc (Or.inl (by omega))]
    exact rk_w0 _ _
  have key : rtR p A sg T.1 mi r q = b := by
    unfold rtR
    have e1 : (if r < T.1 then (RKR p A sg T.1 (dgq T.1 mi q) r : Int) else 0) = (RKR p A sg T.1 (dgq T.1 mi q) r : Int) := by
      by_cases h : r < T.1
      · rw [if_pos h]
      · rw [if_neg h, show r = T.1 by omega, hcc]
        rfl
    rw [e1]
    cases r with
    | zero =>
      have m2 : (sz9 T.1 (LcN A sg) (dgq T.1 mi q) 0 : Int) = b + RKR p A sg T.1 (dgq T.1 mi q) 0 := m2 rfl
      rw [if_pos rfl]
      omega
    | succ h =>
      have m3 : (sz9 T.1 (LcN A sg) (dgq T.1 mi q) (h + 1) : Int) = b + RKR p A sg T.1 (dgq T.1 mi q) (h + 1) + RKR p A sg T.1 (dgq T.1 mi q) h := m3 h rfl
      rw [if_neg (by omega), Nat.add_sub_cancel]
      omega
  rw [key]
  exact hB
theorem tab_eq {p : Nat} {A : rn_L} {sg : Nat → Bool} {c : Nat} {z y : ow_MS} {ans ans' : Int32} (hp : prT p) (hP : prC A sg) (hok : okF A.flatten c) (hr : rfN p A sg c z ans) (hc : clN p sg A c y ans') : ans = ans' ∧ ∃ D, tcD D y ∧ trD D z := by
  obtain ⟨T, w, hN, hv, hT, hw, hb⟩ := hP
  have hcT : T.1 = c := by
    have := hN.2.1
    have := okF_len hok
    omega
  subst hcT
  obtain ⟨r1, r2, r3, r4, r5, r6⟩ := hr
  obtain ⟨c', n', κ, CT, ⟨k1, k2, k3, k4⟩, k5, k6, k7, k8, k9, k10⟩ := hc
  have hO := nm_id hN hv
  have ent : ∀ r q : Nat, r ≤ T.1 → rtR p A sg T.1 (ng9 A sg) r q = if r < κ then 0 else CT (r - κ) ((q : Int) - 40 - c' + 3 * n') := by
    intro r q hr
    rw [k10 _ hO r _ _ (rt_bL hp hN hv hT hw hb r1 r3 hr)]
    by_cases h : r < κ
    · rw [if_pos h, if_pos h]
    · rw [if_neg h, if_neg h]
      congr 1
      unfold dgq
      omega
  constructor
  · rw [r6, k8]
    refine congrArg iI ?_
    have e1 : sN9 (fun i => CT (i / 56) (((i % 56 : Nat) : Int) - 20)) 504 = sN9 (fun o => sN9 (fun e => CT o ((e : Int) - 20)) 56) 9 := sN_rows (f := fun o e => CT o ((e : Int) - 20)) (w := 56) (by omega) 9
    have e2 : ∀ o, sN9 (fun e : Nat => CT o ((e : Int) - 20)) 56 = sN9 (fun e : Nat => CT o ((e : Int) + (-16))) 41 := fun o => by
      have := sN_win (g := fun d => CT o d) (lo := -16) (a := -20) (n := 56) (m := 41) (fun d hd => k9 o d (by omega)) (by omega) (by omega)
      rw [← this]
      exact sN_cg (fun i hi => congrArg (CT o) (by omega))
    have e3 : ∀ o, sN9 (fun q : Nat => CT o ((q : Int) - 40 - c' + 3 * n')) 80 = sN9 (fun e : Nat => CT o ((e : Int) + (-16))) 41 := fun o => by
      have := sN_win (g := fun d => CT o d) (lo := -16) (a := -40 - c' + 3 * n') (n := 80) (m := 41) (fun d hd => k9 o d (by omega)) (by omega) (by omega)
      rw [← this]
      exact sN_cg (fun i hi => congrArg (CT o) (by omega))
    generalize hH : (fun o : Nat => sN9 (fun e : Nat => CT o ((e : Int) + (-16))) 41) = H
    have hHo : ∀ o, sN9 (fun e : Nat => CT o ((e : Int) + (-16))) 41 = H o := fun o => by rw [← hH]
    have hH0 : ∀ o, c' < o → H o = 0 := fun o ho => by
      rw [← hHo]
      exact sN_z (fun i _ => k9 _ _ (Or.inl ho))
    rw [e1, sN_sw9]
    have e4 : sN9 (fun o => sN9 (fun e => CT o ((e : Int) - 20)) 56) 9 = sN9 H 9 := sN_cg (fun o _ => (e2 o).trans (hHo o))
    have e5 : sN9 (fun r => sN9 (fun q => rtR p A sg T.1 (ng9 A sg) r q) 80) (T.1 + 1) = sN9 (fun r => if r < κ then 0 else H (r - κ)) (T.1 + 1) := by
      refine sN_cg (fun r hr => ?_)
      by_cases h : r < κ
      · rw [if_pos h]
        refine sN_z (fun q hq => ?_)
        rw [ent r q (by omega), if_pos h]
      · rw [if_neg h, ← hHo, ← e3]
        refine sN_cg (fun q hq => ?_)
        rw [ent r q (by omega), if_neg h]
    rw [e4, e5]
    have e6 := sN_win (g := fun d => if d < 0 then 0 else H d.toNat) (lo := 0) (a := -κ) (n := T.1 + 1) (m := c' + 1) (fun d hd => by
      by_cases h : d < 0
      · rw [if_pos h]
      · rw [if_neg h]
        exact hH0 _ (by omega)) (by omega) (by omega)
    have e7 := sN_win (g := fun d => if d < 0 then 0 else H d.toNat) (lo := 0) (a := 0) (n := 9) (m := c' + 1) (fun d hd => by
      by_cases h : d < 0
      · rw [if_pos h]
      · rw [if_neg h]
        exact hH0 _ (by omega)) (by omega) (by omega)
    have e8 : sN9 (fun r => if r < κ then 0 else H (r - κ)) (T.1 + 1) = sN9 (fun q : Nat => (fun d : Int => if d < 0 then 0 else H d.toNat) ((q : Int) + -κ)) (T.1 + 1) := by
      refine sN_cg (fun r hr => ?_)
      dsimp only
      by_cases h : r < κ
      · rw [if_pos h, if_pos (by omega)]
      · rw [if_neg h, if_neg (by omega)]
        exact congrArg H (by omega)
    have e9 : sN9 H 9 = sN9 (fun q : Nat => (fun d : Int => if d < 0 then 0 else H d.toNat) ((q : Int) + 0)) 9 := by
      refine sN_cg (fun r hr => ?_)
      dsimp only
      rw [if_neg (by omega)]
      exact congrArg H (by omega)
    rw [e8, e9, e6, e7]
  · refine ⟨fun i q => if 0 ≤ i + n' then CT (i + n').toNat (q - c' + 3 * n') else 0, ⟨c', n', CT, k1, k2, k5, k6, k7, k9, fun i q => rfl⟩, ng9 A sg, by omega, r4, fun r q hr hq => ?_, fun i q h => ?_⟩
    · rw [r5 r q hr hq]
      dsimp only
      by_cases h1 : r ≤ T.1
      · rw [if_pos h1, ent r q h1]
        by_cases h : r < κ
        · rw [if_pos h, if_neg (by omega)]
        · rw [if_neg h, if_pos (by omega)]
          congr 2
          · omega
      · rw [if_neg h1]
        by_cases h : r < κ
        · rw [if_neg (by omega)]
        · rw [if_pos (by omega), k9 _ _ (Or.inl (by omega))]
    · dsimp only
      by_cases h0 : 0 ≤ i + n'
      · rw [if_pos h0]
        exact k9 _ _ (by omega)
      · rw [if_neg h0]
end XCL2
