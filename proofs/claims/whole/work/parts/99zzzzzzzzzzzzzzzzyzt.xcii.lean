/-! chain: the reference exactly -/
noncomputable def rtR (p : Int) (A : rn_L) (sg : Nat → Bool) (c mi r q : Nat) : Int := (sz9 c (LcN A sg) (dgq c mi q) r : Int) - (if r < c then (RKR p A sg c (dgq c mi q) r : Int) else 0) - (if r = 0 then 0 else (RKR p A sg c (dgq c mi q) (r - 1) : Int))
/-- the reference's table -/
def rfN (p : Nat) (A : rn_L) (sg : Nat → Bool) (c : Nat) (z : ow_MS) (ans : Int32) : Prop := c ≤ 8 ∧ ng9 A sg ≤ c ∧ (∀ s, s < 2 ^ c → LcN A sg s ≤ 9) ∧ z.1 88 = nI (ng9 A sg) ∧ (∀ r q, r < 10 → q < 80 → z.2.1 87 (80 * r + q) = iI (if r ≤ c then rtR p A sg c (ng9 A sg) r q else 0)) ∧ ans = iI (sN9 (fun q => sN9 (fun r => rtR p A sg c (ng9 A sg) r q) (c + 1)) 80)
/-- the tables stay -/
def tkR (z z1 : ow_MS) : Prop := z1.1 88 = z.1 88 ∧ z1.2.1 87 = z.2.1 87
theorem tkR_fr {P : Nat → Prop} {z z1 : ow_MS} (hf : fr P z z1) (h1 : ¬ P 87) (h2 : ¬ P 88) : tkR z z1 := ⟨(hf 88 h2).1, (hf 87 h1).2.1⟩
theorem tkR_tr {z z1 z2 : ow_MS} (h : tkR z z1) (h1 : tkR z1 z2) : tkR z z2 := ⟨h1.1.trans h.1, h1.2.trans h.2⟩
/-- what chain wants of a diagram -/
def prC (A : rn_L) (sg : Nat → Bool) : Prop := ∃ T w, isoN A sg (fun x => x) T ∧ vn T.1 T.2.2.1 ∧ pm1 T ∧ gaA A w ∧ bdA A
section XCK8
theorem wr_take {A : rn_L} {sg : Nat → Bool} : ∀ n, n ≤ A.flatten.length → wrN A sg n = (((A.flatten.take n).filter (fun p => decide (p.2 = 0) && true)).length : Int) - 2 * (((A.flatten.take n).filter (fun p => decide (p.2 = 0) && sg p.1)).length : Int) := by
  intro n
  induction n with
  | zero => exact fun _ => rfl
  | succ n ih =>
    intro h
    have i := ih (by omega)
    have e := vAt_of (A := A) (v := n) (by omega)
    rw [List.take_add_one, e]
    show wrN A sg n + (if uns A n = 0 then (if sg (crs A n) then -1 else 1) else 0) = _
    rw [i]
    simp only [Option.toList_some, List.filter_append, List.length_append]
    unfold uns crs
    generalize vAt A n = v
    obtain ⟨x, u⟩ := v
    dsimp only
    by_cases hu : u = 0
    · subst hu
      cases hs : sg x <;> simp [hs] <;> omega
    · simp [hu]
theorem on_true : ∀ c, ons9 (fun _ => true) c = c := by
  intro c
  induction c with
  | zero => rfl
  | succ c ih =>
    show ons9 (fun _ => true) c + (if true = true then 1 else 0) = c + 1
    rw [ih, if_pos rfl]
theorem on_le {s : Nat → Bool} : ∀ c, ons9 s c ≤ c := by
  intro c
  induction c with
  | zero => exact Nat.le_refl 0
  | succ c ih =>
    show ons9 s c + (if s c = true then 1 else 0) ≤ c + 1
    split <;> omega
theorem wr_ng {A : rn_L} {sg : Nat → Bool} {nm : Nat → Nat} {c : Nat} (hb : bdA A) (hO : nmO A nm c) : wrN A sg A.flatten.length = (c : Int) - 2 * ng9 A sg ∧ ng9 A sg ≤ c := by
  have h2 : ∀ p, p ∈ A.flatten → p.2 < 2 := fun p hp => (hb.2.1 p hp).2
  have e1 : ng9 A (fun _ => true) = c := by
    rw [ng_ons hb.1 h2 hO]
    exact on_true c
  have e2 : ng9 A sg ≤ c := by
    rw [ng_ons hb.1 h2 hO]
    exact on_le c
  have := wr_take (A := A) (sg := sg) A.flatten.length (Nat.le_refl _)
  rw [List.take_length] at this
  unfold ng9 at e1 e2 ⊢
  rw [this, e1]
  exact ⟨rfl, e2⟩
variable {X : (Nat → Nat → Int32) → Prop} {z : ow_MS} {St : plT}
section XCK9
theorem re_isPrime {x : Int32} : Te (fun K => qe_X13_isPrime K x z) (fun r => r.2 = z ∧ (r.1 = 0 ∧ (¬ ∃ p, x = nI p ∧ prT p ∧ p ≤ 997) ∨ r.1 = 1 ∧ ∃ p, x = nI p ∧ prT p ∧ p ≤ 997)) := by
  let Q : Int32 × ow_MS → Prop := fun r => r.2 = z ∧ (r.1 = 0 ∧ (¬ ∃ p, x = nI p ∧ prT p ∧ p ≤ 997) ∨ r.1 = 1 ∧ ∃ p, x = nI p ∧ prT p ∧ p ≤ 997)
  have c30 : (¬ ∃ p, x = nI p ∧ prT p ∧ p ≤ 997) → ∀ (x2 : Int32), Tt (fun K i => q_X13_isPrime K i 3 x 0 x2 0 z) Q := by
    intro hno x2
    refine u_X13_isPrime_3 ?_; unfold qm_X13_isPrime_3
    exact w_ifT rfl (w_okZ (Or.inl rfl) (w_some ⟨rfl, Or.inl ⟨rfl, hno⟩⟩))
  have c1 : (¬ ∃ p, x = nI p ∧ prT p ∧ p ≤ 997) → Tt (fun K i => q_X13_isPrime K i 1 x 0 0 0 z) Q := by
    intro hno
    refine u_X13_isPrime_1 ?_; unfold qm_X13_isPrime_1
    refine u_X13_isPrime_2 ?_; unfold qm_X13_isPrime_2
    exact c30 hno _
  refine e_X13_isPrime ?_
  refine u_X13_isPrime_0 ?_; unfold qm_X13_isPrime_0
  refine w_if (fun h8 => c1 ?_) (fun h2 => w_if (fun h8 => c1 ?_) (fun h9 => ?_))
  · rintro ⟨p, rfl, hp, h9⟩
    have := (nI_ltI (b := 2) (by omega) (by omega)).mp h8
    have := hp.1
    omega
  · rintro ⟨p, rfl, hp, h9⟩
    have := (nI_ltI (a := 997) (by omega) (by omega)).mp h8
    omega
  obtain ⟨p, hp31, rfl⟩ := nI_of (x := x) (fun h8 => h2 (by
    rw [Int32.lt_iff_toInt_lt] at h8 ⊢
    exact Int.lt_trans h8 (by decide)))
  have hp2 : 2 ≤ p := by
    rcases Nat.lt_or_ge p 2 with h8 | h8
    · exact absurd (nI_lt (b := 2) h8 (by omega)) h2
    · exact h8
  have hp9 : p ≤ 997 := by
    rcases Nat.lt_or_ge 997 p with h8 | h8
    · exact absurd (nI_lt (a := 997) h8 hp31) h9
    · exact h8
  have key : ∀ (d k : Nat), k + d = 32 → 2 ≤ k → (∀ j, 2 ≤ j → j < k → p % j ≠ 0) → Tt (fun K i => q_X13_isPrime K i 3 (nI p) 1 (nI k) 0 z) Q := by
    intro d
    induction d with
    | zero =>
      intro k hk hk2 hall
      have hk : k = 32 := by omega
      subst hk
      refine u_X13_isPrime_3 ?_; unfold qm_X13_isPrime_3
      rw [pk_mul]
      refine w_ifF (by decide) (w_ltT (by omega) (by omega) (w_okZ (Or.inr rfl) (w_some ⟨rfl, Or.inr ⟨rfl, p, rfl, ⟨hp2, fun j hj hjj => hall j hj ?_⟩, hp9⟩⟩)))
      rcases Nat.lt_or_ge j 32 with h8 | h8
      · exact h8
      · have := Nat.mul_le_mul h8 h8
        omega
    | succ d ih =>
      intro k hk hk2 hall
      have hkk : k * k ≤ 1024 := Nat.mul_le_mul (show k ≤ 32 by omega) (show k ≤ 32 by omega)
      refine u_X13_isPrime_3 ?_; unfold qm_X13_isPrime_3
      rw [pk_mul, pk_rem hp31 (by omega) (by omega)]
      refine w_ifF (by decide) (w_lt (by omega) (by omega) (fun hlt => w_okZ (Or.inr rfl) (w_some ⟨rfl, Or.inr ⟨rfl, p, rfl, ⟨hp2, fun j hj hjj => hall j hj ?_⟩, hp9⟩⟩)) (fun hge => w_nzI (fun e => by have := (nI_eq (a := k) (b := 0) (by omega) (by omega)).mp e; omega) (w_if (fun h0 => ?_) (fun h0 => ?_))))
      · rcases Nat.lt_or_ge j k with h8 | h8
        · exact h8
        · have := Nat.mul_le_mul h8 h8
          omega
      · refine u_X13_isPrime_4 ?_; unfold qm_X13_isPrime_4
        refine c30 ?_ _
        rintro ⟨p', e', hp', h9'⟩
        have e' := nI_inj9 (a := p) (b := p') (by omega) (by omega) e'
        subst e'
        have h0 := (nI_eq (a := p % k) (b := 0) (by have := Nat.mod_lt p (show 0 < k by omega); omega) (by omega)).mp h0
        exact hp'.2 k hk2 (by omega) h0
      · refine u_X13_isPrime_4 ?_; unfold qm_X13_isPrime_4
        rw [nI_1]
        refine ih (k + 1) (by omega) (by omega) (fun j hj hjk => ?_)
        by_cases hjk2 : j = k
        · rw [hjk2]
          exact fun e => h0 (by rw [e]; rfl)
        · exact hall j hj (by omega)
  refine u_X13_isPrime_2 ?_; unfold qm_X13_isPrime_2
  exact key 30 2 (by omega) (by omega) (fun j h1 h2 => absurd h1 (by omega))
end XCK9
theorem xq_chain {d p0 : Int32} (h : gI X z) (hR : relR z St) (hP : ∀ e A sg, e < 40 → St e = some (A, sg) → prC A sg) : Te (fun K => qe_X13_chain K d p0 z) (fun r => (r.2.1 1 = nI 1 ∧ tkR z r.2 ∧ ∀ e, e < 40 → d = nI e → St e = none) ∨ ∃ e A sg, e < 40 ∧ d = nI e ∧ St e = some (A, sg) ∧ (r.2.1 1 = nI 2 ∧ tkR z r.2 ∧ (¬ ∃ p, p0 = nI p ∧ prT p ∧ p ≤ 997) ∨ ∃ p, p0 = nI p ∧ prT p ∧ p ≤ 997 ∧ ∃ c P mm, okF A.flatten c ∧ mk A mm P ∧ (r.2.1 1 = nI 3 ∧ tkR z r.2 ∧ 9 < c + P ∨ r.2.1 1 = 0 ∧ c + P ≤ 9 ∧ rfN p A sg c r.2 r.1))) := by
  let Q : Int32 × ow_MS → Prop := fun r => (r.2.1 1 = nI 1 ∧ tkR z r.2 ∧ ∀ e, e < 40 → d = nI e → St e = none) ∨ ∃ e A sg, e < 40 ∧ d = nI e ∧ St e = some (A, sg) ∧ (r.2.1 1 = nI 2 ∧ tkR z r.2 ∧ (¬ ∃ p, p0 = nI p ∧ prT p ∧ p ≤ 997) ∨ ∃ p, p0 = nI p ∧ prT p ∧ p ≤ 997 ∧ ∃ c P mm, okF A.flatten c ∧ mk A mm P ∧ (r.2.1 1 = nI 3 ∧ tkR z r.2 ∧ 9 < c + P ∨ r.2.1 1 = 0 ∧ c + P ≤ 9 ∧ rfN p A sg c r.2 r.1))
  have h1 := gI_1 (c := 0) h
  have hR1 := relR_1 (c := 0) hR
  refine e_X13_chain ?_
  refine u_X13_chain_0 ?_; unfold qm_X13_chain_0
  refine w_wrF (w_hasX hR1 (fun h0 => w_ifT rfl (w_mono (w_failX h1 fr_1) (fun r hr => Or.inl ⟨hr.2.1, tkR_fr hr.2.2 (by unfold rPs rSc; omega) (by unfold rPs rSc; omega), h0⟩))) (fun e A sg he hx hs hv hne => w_ifF (by decide) (w_cs1 re_isPrime (fun a9 y9 ⟨e9, k9⟩ => ?_))))
  subst hx
  have e9 : y9 = usF z 1 0 := e9
  have k9 : a9 = 0 ∧ (¬ ∃ p, p0 = nI p ∧ prT p ∧ p ≤ 997) ∨ a9 = 1 ∧ ∃ p, p0 = nI p ∧ prT p ∧ p ≤ 997 := k9
  subst e9
  refine w_if (fun h9 => w_mono (w_failX h1 fr_1) (fun r hr => Or.inr ⟨e, A, sg, he, rfl, hs, Or.inl ⟨hr.2.1, tkR_fr hr.2.2 (by unfold rPs rSc; omega) (by unfold rPs rSc; omega), ?_⟩⟩)) (fun h9 => ?_)
  · rcases k9 with k9 | k9
    · exact k9.2
    · have k8 : a9 = 1 := k9.1
      rw [k8] at h9
      exact absurd h9 (by decide)
  obtain ⟨p, rfl, hp, hp9⟩ : ∃ p, p0 = nI p ∧ prT p ∧ p ≤ 997 := by
    rcases k9 with k9 | k9
    · exact absurd k9.1 h9
    · exact k9.2
  obtain ⟨T, w0, hN, hvn, hT, hga, hbd⟩ := hP e A sg he hs
  have hO := nm_id hN hvn
  have hCu := cuA (prp_of hp) (iv_of hp) (isoV_of hN hvn) hT hga hbd hO
  refine w_cs0 (to_open pn1 he hv) (fun z2 ⟨o2, f2⟩ => ?_)
  have g2 : gI X z2 := gI_net pn1 f2 (fun g hg => by omega) h1
  have hl := o2.len
  have hC := o2.2.2.2
  have hd := wkF_ok o2.wk
  obtain ⟨c, hok, hc⟩ := o2.2.2.1
  have hV := okF_len hok
  have hcT : T.1 = c := by
    have := hN.2.1
    omega
  subst hcT
  have t2 : z2.1 1 = 0 := by
    rw [(f2 1 (by omega)).1]
    exact po_usF_at
  refine w_cs0 (tn_split pn1 (by omega) (by omega) hd o2.1) (fun z3 ⟨f3, P, hpt⟩ => ?_)
  obtain ⟨mm, hmk, hmm⟩ := mk_of (by omega) hpt
  obtain ⟨p1, p2, p3, p4⟩ := hpt
  have tk3 : tkR z z3 := tkR_tr (tkR_fr (fr_F (P := fun g => g = 1) rfl) (by omega) (by omega)) (tkR_tr (tkR_fr f2 (by omega) (by omega)) (tkR_fr f3 (by unfold frP; omega) (by unfold frP; omega)))
  have t3 : z3.1 1 = 0 := by rw [(f3 1 (by unfold frP; omega)).1]; exact t2
  have o3 : oNet z3 1000 A sg := oNet_fr f3 (fun g hg => by unfold frP at hg; omega) o2
  have g3 : gI X z3 := gI_net pn1 f3 (fun g hg => by unfold frP at hg; omega) g2
  refine w_rdF o3.1.V (w_nzI (by decide) ?_)
  rw [hV, half_V (by omega)]
  refine w_rdF p1 ?_
  rw [nI_add]
  refine w_le (b := 9) (by omega) (by omega) (fun hcP => ?_) (fun h9 => w_mono (w_failX (z0 := z3) g3 fr_rf) (fun r hr => Or.inr ⟨e, A, sg, he, rfl, hs, Or.inr ⟨p, rfl, hp, hp9, T.1, P, mm, hok, hmk, Or.inl ⟨hr.2.1, tkR_tr tk3 (tkR_fr hr.2.2 (by unfold rPs rSc; omega) (by unfold rPs rSc; omega)), by omega⟩⟩⟩))
  have hP1 : 1 ≤ P := by
    have hA0 : 0 < A.length := by
      cases A with
      | nil => exact absurd rfl hne
      | cons a A => exact Nat.succ_pos _
    rcases p3.1 0 hA0 with h8 | ⟨q, hq, -⟩
    · exact absurd h8 (p4 0 hA0)
    · omega
  have hK : chOK A sg T.1 P := ch_ok hok hC p3 p4 (by omega) hP1 hcP
  refine w_cs1 (tp_writhe2 pn1 o3) (fun a4 y4 e4 => ?_)
  cases e4
  obtain ⟨ew, hmi⟩ := wr_ng (sg := sg) hbd hO
  rw [ew]
  have emi : (nI T.1 - iI ((T.1 : Int) - 2 * ng9 A sg)) / 2 = nI (ng9 A sg) := half_ng ⟨T.1, by omega⟩ ⟨ng9 A sg, by omega⟩ hmi
  rw [emi]
  generalize hmiE : ng9 A sg = mi at hmi
  refine w_nzI (by decide) (w_wrF ?_)
  have o5 : oNet (usF z3 88 (nI mi)) 1000 A sg := oNet_fr (fr_F (P := fun g => g = 88) rfl) (fun g hg => by omega) o3
  refine w_cs0 (re_makeStates pn1 o5 hK) (fun z6 ⟨I6, f6⟩ => ?_)
  have h88 : z6.1 88 = nI mi := by rw [(f6 88 (by unfold stH; omega)).1]; exact po_usF_at
  refine w_cs0 (re_placeAll hK (stX_I I6) h88 hmi) (fun z7 ⟨I7, f7, hz7⟩ => ?_)
  have o7 : oNet z7 1000 A sg := oNet_fr f7 (fun g hg => by unfold plH at hg; omega) (oNet_fr f6 (fun g hg => by unfold stH at hg; omega) o5)
  have hf7 : fr (fun g => g = 47 ∨ 81 ≤ g ∧ g ≤ 93) z3 z7 := fr_tr (fr_F (by omega)) (fr_tr (fr_mono (fun g hg => by unfold stH at hg; omega) f6) (fr_mono (fun g hg => by unfold plH at hg; omega) f7))
  have g7 : gI X z7 := gI_fr hf7 (fun g hg => by unfold per; omega) g3
  have hC7 : rkX z7 1000 A sg T.1 mi := ⟨o7, stX_fr f7 (by unfold plH; omega) (by unfold plH; omega) (by unfold plH; omega) I6, I7, by rw [(f7 88 (by unfold plH; omega)).1]; exact h88⟩
  let F : Nat → Prop := fun g => g = 86 ∨ g = 87 ∨ 89 ≤ g ∧ g ≤ 93
  have cF : ∀ {y : ow_MS}, fr F z7 y → rkX y 1000 A sg T.1 mi := fun hf => rkX_fr pn1 hf (fun g hg => hg) hC7
  have gF : ∀ {y : ow_MS}, fr F z7 y → gI X y := fun hf => gI_fr hf (fun g hg => by have hg : g = 86 ∨ g = 87 ∨ 89 ≤ g ∧ g ≤ 93 := hg; unfold per; omega) g7
  have hc8 : T.1 ≤ 8 := hK.2.1
  have t7 : z7.1 1 = 0 := by
    rw [(hf7 1 (by omega)).1]
    exact t3
  have hn9 := hK.2.2.2.1
  let rt9 : Nat → Nat → Int := fun r q => rtR p A sg T.1 mi r q
  let rk8 : Nat → Nat → Nat := fun r q => RKR p A sg T.1 (dgq T.1 mi q) r
  have c1 : ∀ (d q : Nat) (x4 : Int32) (y : ow_MS), q + d = 80 → fr F z7 y → (∀ q', q' < 80 → y.2.1 86 (80 * T.1 + q') = 0) → (∀ r q', r < 10 → q' < 80 → y.2.1 87 (80 * r + q') = iI (if r ≤ T.1 ∧ q' < q then rt9 r q' else 0)) → x4 = iI (sN9 (fun q' => sN9 (fun r => rt9 r q') (T.1 + 1)) q) → Tt (fun K i => q_X13_chain K i 1 (nI e) (nI p) (nI T.1) x4 (nI q) 0 0 0 y) Q := by
    intro d
    induction d with
    | zero =>
      intro q x4 y hq hf h86 h87 hx4
      have hq : q = 80 := by omega
      subst hq
      refine u_X13_chain_1 ?_; unfold qm_X13_chain_1
      refine w_leT (a := 80) (by omega) (by omega) (w_some (Or.inr ⟨e, A, sg, he, rfl, hs, Or.inr ⟨p, rfl, hp, hp9, T.1, P, mm, hok, hmk, Or.inr ⟨?_, hcP, ?_⟩⟩⟩))
      · show y.1 1 = 0
        rw [(hf 1 (show ¬ (1 = 86 ∨ 1 = 87 ∨ 89 ≤ 1 ∧ 1 ≤ 93) by omega)).1]
        exact t7
      · refine ⟨hc8, by rw [hmiE]; exact hmi, hn9, ?_, fun r q hr hq => ?_, ?_⟩
        · rw [hmiE]
          exact (cF hf).2.2.2
        · rw [hmiE]
          refine (h87 r q hr hq).trans ?_
          by_cases h9 : r ≤ T.1
          · rw [if_pos h9, if_pos ⟨h9, hq⟩]
          · rw [if_neg h9, if_neg (fun h8 => h9 h8.1)]
        · rw [hmiE]
          exact hx4
    | succ d ih =>
      intro q x4 y hq hf h86 h87 hx4
      have c3 : ∀ (d2 r : Nat) (x4 : Int32) (y : ow_MS), r + d2 = T.1 + 1 → fr F z7 y → (∀ q', q' < 80 → y.2.1 86 (80 * T.1 + q') = 0) → (∀ r', r' < T.1 → y.2.1 86 (80 * r' + q) = nI (rk8 r' q)) → (∀ r' q', r' < 10 → q' < 80 → y.2.1 87 (80 * r' + q') = iI (if r' ≤ T.1 ∧ (q' < q ∨ q' = q ∧ r' < r) then rt9 r' q' else 0)) → x4 = iI (sN9 (fun q' => sN9 (fun r => rt9 r q') (T.1 + 1)) q + sN9 (fun r => rt9 r q) r) → Tt (fun K i => q_X13_chain K i 3 (nI e) (nI p) (nI T.1) x4 (nI q) (nI r) 0 0 y) Q := by
        intro d2
        induction d2 with
        | zero =>
          intro r x4 y hr hf h86 h86q h87 hx4
          have hr : r = T.1 + 1 := by omega
          subst hr
          refine u_X13_chain_3 ?_; unfold qm_X13_chain_3
          rw [show nI q + 1 = nI (q + 1) from nI_1 _]
          refine w_ltT (by omega) (by omega) (ih (q + 1) x4 y (by omega) hf h86 (fun r' q' hr' hq' => ?_) hx4)
          rw [h87 r' q' hr' hq']
          by_cases h9 : r' ≤ T.1 ∧ q' < q + 1
          · rw [if_pos h9, if_pos ⟨h9.1, by omega⟩]
          · rw [if_neg h9, if_neg (fun h8 => h9 ⟨h8.1, by omega⟩)]
        | succ d2 ih3 =>
          intro r x4 y hr hf h86 h86q h87 hx4
          have e1 : (80 : Int32) * nI r + nI q = nI (80 * r + q) := by rw [show (80 : Int32) * nI r = nI (80 * r) from pk_mul 80 r, nI_add]
          have hrT : r ≤ T.1 := by omega
          have c4 : ∀ (t0 t1 : Int32), t1 - t0 = iI (rt9 r q) → Tt (fun K i => q_X13_chain K i 4 (nI e) (nI p) (nI T.1) x4 (nI q) (nI r) t0 t1 y) Q := by
            intro t0 t1 ht
            refine u_X13_chain_4 ?_; unfold qm_X13_chain_4
            rw [e1, show nI r + 1 = nI (r + 1) from nI_1 _, ht]
            refine w_wrI ml87 rfl (by omega) (ih3 (r + 1) _ _ (by omega) (fr_I2 hf (Or.inr (Or.inl rfl))) (fun q' hq' => ?_) (fun r' hr' => ?_) (fun r' q' hr' hq' => ?_) ?_)
            · exact (congrFun (po_usI_ot (by omega)) _).trans (h86 q' hq')
            · exact (congrFun (po_usI_ot (by omega)) _).trans (h86q r' hr')
            · by_cases h9 : r' = r ∧ q' = q
              · obtain ⟨rfl, rfl⟩ := h9
                rw [if_pos ⟨hrT, Or.inr ⟨rfl, by omega⟩⟩]
                exact po_usI_at
              · refine (po_usI_ne (fun h8 => h9 (by omega))).trans ((h87 r' q' hr' hq').trans ?_)
                by_cases h7 : r' ≤ T.1 ∧ (q' < q ∨ q' = q ∧ r' < r)
                · rw [if_pos h7, if_pos ⟨h7.1, by omega⟩]
                · rw [if_neg h7, if_neg (fun h8 => h7 ⟨h8.1, by omega⟩)]
            · rw [hx4, iI_add]
              show _ = iI (_ + (sN9 (fun r => rt9 r q) r + rt9 r q))
              rw [Int.add_assoc]
          have e85 : y.2.1 85 (80 * r + q) = nI (sz9 T.1 (LcN A sg) (dgq T.1 mi q) r) := (cF hf).2.2.1.1 r q (by omega) (by omega)
          have e86 : y.2.1 86 (80 * r + q) = iI (if r < T.1 then (rk8 r q : Int) else 0) := by
            by_cases h9 : r < T.1
            · rw [if_pos h9, h86q r h9, nI_iI]
            · have h9 : r = T.1 := by omega
              subst h9
              rw [if_neg (by omega)]
              exact h86 q (by omega)
          refine u_X13_chain_3 ?_; unfold qm_X13_chain_3
          rw [e1]
          refine w_ltF (by omega) (by omega) (w_rdI ml85 rfl (by omega) e85 (w_rdI ml86 rfl (by omega) e86 (w_eqN (b := 0) (by omega) (by omega) (fun hr0 => c4 _ _ ?_) (fun hr0 => ?_))))
          · show _ = iI (_ - _ - if r = 0 then 0 else _)
            rw [if_pos hr0, Int.sub_zero, nI_iI, iI_sub]
            exact Int32.sub_zero _
          · refine w_rdI (i := 80 * (r - 1) + q) ml86 (by rw [show nI r - 1 = nI (r - 1) from pk_sub (b := 1) (by omega), show (80 : Int32) * nI (r - 1) = nI (80 * (r - 1)) from pk_mul 80 _, nI_add]) (by omega) (h86q (r - 1) (by omega)) (c4 _ _ ?_)
            show _ = iI (_ - _ - if r = 0 then 0 else _)
            rw [if_neg hr0, nI_iI, nI_iI, iI_sub, iI_sub]
      have c2 : ∀ (d2 r : Nat) (y : ow_MS), r + d2 = T.1 → fr F z7 y → (∀ q', q' < 80 → y.2.1 86 (80 * T.1 + q') = 0) → (∀ r', r' < r → y.2.1 86 (80 * r' + q) = nI (rk8 r' q)) → (∀ r q', r < 10 → q' < 80 → y.2.1 87 (80 * r + q') = iI (if r ≤ T.1 ∧ q' < q then rt9 r q' else 0)) → Tt (fun K i => q_X13_chain K i 2 (nI e) (nI p) (nI T.1) x4 (nI q) (nI r) 0 0 y) Q := by
        intro d2
        induction d2 with
        | zero =>
          intro r y hr hf h86 h86q h87
          have hr : r = T.1 := by omega
          subst hr
          refine u_X13_chain_2 ?_; unfold qm_X13_chain_2
          refine w_leT (by omega) (by omega) (c3 (T.1 + 1) 0 x4 y (by omega) hf h86 h86q (fun r' q' hr' hq' => ?_) ?_)
          · rw [h87 r' q' hr' hq']
            by_cases h7 : r' ≤ T.1 ∧ q' < q
            · rw [if_pos h7, if_pos ⟨h7.1, by omega⟩]
            · rw [if_neg h7, if_neg (fun h8 => h7 ⟨h8.1, by omega⟩)]
          · rw [hx4]
            exact congrArg iI (Int.add_zero _).symm
        | succ d2 ih2 =>
          intro r y hr hf h86 h86q h87
          refine u_X13_chain_2 ?_; unfold qm_X13_chain_2
          refine w_leF (by omega) (by omega) (w_cs1 (re_rankOf pn1 hK (cF hf) hmi hN hT hvn hbd hCu (by omega) (by omega) hp hp9) (fun a8 y8 ⟨f8, e8⟩ => ?_))
          have f8 : fr rdH y y8 := f8
          have e8 : a8 = nI (rk8 r q) := e8
          have k86 : y8.2.1 86 = y.2.1 86 := (f8 86 (by unfold rdH; omega)).2.1
          have k87 : y8.2.1 87 = y.2.1 87 := (f8 87 (by unfold rdH; omega)).2.1
          rw [show (80 : Int32) * nI r = nI (80 * r) from pk_mul 80 r, nI_add, show nI r + 1 = nI (r + 1) from nI_1 _]
          refine w_wrI ml86 rfl (by omega) (ih2 (r + 1) _ (by omega) (fr_I2 (fr_tr hf (fr_mono (fun g hg => by unfold rdH at hg; exact Or.inr (Or.inr hg)) f8)) (Or.inl rfl)) (fun q' hq' => ?_) (fun r' hr' => ?_) (fun r' q' hr' hq' => ?_))
          · refine (po_usI_ne (by omega)).trans ?_
            rw [k86]
            exact h86 q' hq'
          · by_cases h9 : r' = r
            · subst h9
              rw [e8]
              exact po_usI_at
            · refine (po_usI_ne (by omega)).trans ?_
              rw [k86]
              exact h86q r' (by omega)
          · refine (congrFun (po_usI_ot (by omega)) _).trans ?_
            rw [k87]
            exact h87 r' q' hr' hq'
      refine u_X13_chain_1 ?_; unfold qm_X13_chain_1
      exact w_leF (a := 80) (by omega) (by omega) (c2 T.1 0 y (by omega) hf h86 (fun r' hr' => absurd hr' (by omega)) h87)
  refine c1 80 0 0 z7 (by omega) fr_rf (fun q' hq' => (hz7 _ (by omega)).1) (fun r q' hr hq' => ?_) rfl
  rw [if_neg (fun h8 => by omega)]
  exact (hz7 _ (by omega)).2
end XCK8
