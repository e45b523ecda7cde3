/-! signature, the class: the characteristic polynomial, exactly -/
section XSGO
theorem zS_mul {c : Int} {f : Nat → Int} : ∀ {n : Nat}, zS9 (fun i => c * f i) n = c * zS9 f n := by
  intro n
  induction n with
  | zero => exact (Int.mul_zero c).symm
  | succ n ih =>
    show zS9 (fun i => c * f i) n + c * f n = c * (zS9 f n + f n)
    rw [ih, Int.mul_add]
variable {vl : Nat → Nat} {y : ow_MS} {M : Nat → Nat → Int} {E : Nat → Int}
theorem zN_s {n j k i : Nat} : zS9 (fun m => M i m * zN9 n M E j k m) n = E (k + 1) * zd9 j i - zN9 n M E j (k + 1) i := by
  show _ = E (k + 1) * zd9 j i - (E (k + 1) * zd9 j i - zS9 (fun m => M i m * zN9 n M E j k m) n)
  omega
theorem te_findChar {n : Nat} (hn : n ≤ 8) (hM : ∀ i j, i < n → j < n → y.2.2 6005 (8 * i + j) = Int64.ofInt (M i j)) (hE : ∀ k, ((E k : Int) : Rat) = qE9 (cM9 M) n k) (hb : ∀ k, k ≤ n → rI9 ((k : Int) * E k)) : Te (fun K => ce_X4_findCharacteristic vl K 6000 (nI n) y) (fun y1 => fr fcP y y1 ∧ ∀ m, m ≤ n → y1.2.2 6008 (n - m) = Int64.ofInt (zn9 m * E m)) := by
  have E0 : E 0 = 1 := by
    have := hE 0
    rw [qE_0] at this
    exact Rat.intCast_inj.mp this
  let Q : ow_MS → Prop := fun y1 => fr fcP y y1 ∧ ∀ m, m ≤ n → y1.2.2 6008 (n - m) = Int64.ofInt (zn9 m * E m)
  -- what stands before step k
  let Ch : Nat → ow_MS → Prop := fun k z => fr fcP y z ∧ ∀ m, m < k → z.2.2 6008 (n - m) = Int64.ofInt (zn9 m * E m)
  have c1 : ∀ (d k : Nat) (z : ow_MS), k + d = n + 1 → 1 ≤ k → Ch k z → (∀ i j, i < n → j < n → z.2.2 6006 (8 * i + j) = Int64.ofInt (zn9 (k - 1) * (zN9 n M E j (k - 1) i - E (k - 1) * zd9 j i))) → Tt (fun K t => c_X4_findCharacteristic vl K t 1 (nI n) (nI k) 0 0 0 0 0 0 6000 z) Q := by
    intro d
    induction d with
    | zero =>
      intro k z hk _ hz _
      refine u_X4_findCharacteristic_1 ?_; unfold cm_X4_findCharacteristic_1
      exact w_ltT (by omega) (by omega) (w_some ⟨hz.1, fun m hm => hz.2 m (by omega)⟩)
    | succ d ih =>
      intro k z hk hk1 hz hp
      have hnz : (nI k).toInt64 ≠ 0 := by
        have key : ∀ k : Fin 9, 1 ≤ k.val → (nI k.val).toInt64 ≠ 0 := by decide +kernel
        exact key ⟨k, by omega⟩ hk1
      have hk64 : (nI k).toInt64 = Int64.ofInt (k : Int) := by
        have key : ∀ k : Fin 9, (nI k.val).toInt64 = Int64.ofInt (k.val : Int) := by decide +kernel
        exact key ⟨k, by omega⟩
      have e1 : nI n - nI k = nI (n - k) := pk_sub (by omega)
      have zk : zn9 k = -zn9 (k - 1) := by
        have := zn_s (k := k - 1)
        rw [show k - 1 + 1 = k by omega] at this
        exact this
      have M0 : ∀ z : ow_MS, fr fcP y z → ∀ i j, i < n → j < n → z.2.2 6005 (8 * i + j) = Int64.ofInt (M i j) := fun z hf i j hi hj => by
        rw [(hf 6005 (by unfold fcP; omega)).2.2]
        exact hM i j hi hj
      -- rows of the product
      have c3 : ∀ (e i : Nat) (w3 : Int64) (z : ow_MS), i + e = n → Ch k z → w3 = Int64.ofInt (zn9 (k - 1) * zS9 (fun a => E k - zN9 n M E a k a) i) → (∀ a b, a < n → b < n → z.2.2 6006 (8 * a + b) = Int64.ofInt (zn9 (k - 1) * zN9 n M E b (k - 1) a)) → (∀ a b, a < i → b < n → z.2.2 6007 (8 * a + b) = Int64.ofInt (zn9 k * (zN9 n M E b k a - E k * zd9 b a))) → Tt (fun K t => c_X4_findCharacteristic vl K t 3 (nI n) (nI k) 0 (nI i) 0 0 w3 0 6000 z) Q := by
        intro e
        induction e with
        | zero =>
          intro i w3 z hi hz hw3 hp hq
          have hi : i = n := by omega
          subst hi
          rw [zN_tr hE] at hw3
          have bk := hb k (by omega)
          have dv : (-w3) / (nI k).toInt64 = Int64.ofInt (zn9 k * E k) := by
            have h1 : rI9 (zn9 k * ((k : Int) * E k)) := rI_zn k bk
            have h2 : -w3 = Int64.ofInt (zn9 k * ((k : Int) * E k)) := by
              rw [hw3, ← Int64.ofInt_neg, zk, Int.neg_mul]
            have h3 : zn9 k * ((k : Int) * E k) = (zn9 k * E k) * (k : Int) := by
              rw [Int.mul_comm (k : Int), Int.mul_assoc]
            rw [h2, hk64, ← Int64.ofInt_tdiv (by have := h1.1; show (-9223372036854775808 : Int) ≤ _; omega) (by have := h1.2; show _ ≤ (9223372036854775807 : Int); omega) (by show (-9223372036854775808 : Int) ≤ _; omega) (by show _ ≤ (9223372036854775807 : Int); omega), h3, Int.mul_tdiv_cancel _ (by omega)]
          refine u_X4_findCharacteristic_3 ?_; unfold cm_X4_findCharacteristic_3
          rw [e1, nI_1, dv]
          refine w_leT (by omega) (by omega) (w_nzJ hnz (w_ctJ ch_6008 rfl (by omega) (w_cpJ (a := 0) (b := 0) (n := 64) ch_6007 ch_6006 rfl rfl rfl (by omega) (by omega) (ih (k + 1) _ (by omega) (by omega) ⟨?_, fun m hm => ?_⟩ (fun a b ha hb2 => ?_)))))
          · intro g hg
            have h1 := (fr_J2 (i := i - k) (y := Int64.ofInt (zn9 k * E k)) hz.1 (show fcP (6000 + 8) from Or.inr (Or.inr rfl))) g hg
            refine ⟨h1.1, h1.2.1, ?_⟩
            have hne : g ≠ 6000 + 6 := fun h9 => hg (by rw [h9]; exact Or.inl rfl)
            exact (if_neg hne).trans h1.2.2
          · show (if (6008 : Nat) = 6000 + 6 then va_cpy ((usJ z (6000 + 8) (i - k) (Int64.ofInt (zn9 k * E k))).2.2 (6000 + 7)) ((usJ z (6000 + 8) (i - k) (Int64.ofInt (zn9 k * E k))).2.2 (6000 + 6)) 0 0 64 else (usJ z (6000 + 8) (i - k) (Int64.ofInt (zn9 k * E k))).2.2 6008) (i - m) = _
            rw [if_neg (by omega)]
            by_cases h9 : m = k
            · rw [h9]
              exact usJ_at
            · rw [show (usJ z (6000 + 8) (i - k) (Int64.ofInt (zn9 k * E k))).2.2 6008 (i - m) = z.2.2 6008 (i - m) from usJ_ne (by omega)]
              exact hz.2 m (by omega)
          · show (if (6006 : Nat) = 6000 + 6 then va_cpy ((usJ z (6000 + 8) (i - k) (Int64.ofInt (zn9 k * E k))).2.2 (6000 + 7)) ((usJ z (6000 + 8) (i - k) (Int64.ofInt (zn9 k * E k))).2.2 (6000 + 6)) 0 0 64 else (usJ z (6000 + 8) (i - k) (Int64.ofInt (zn9 k * E k))).2.2 6006) (8 * a + b) = _
            rw [if_pos (by omega)]
            have cp : ∀ F H : Nat → Int64, va_cpy F H 0 0 64 (8 * a + b) = F (8 * a + b) := fun F H => by
              show (if 0 ≤ 8 * a + b ∧ 8 * a + b < 0 + 64 then F (0 + (8 * a + b - 0)) else H (8 * a + b)) = _
              rw [if_pos ⟨by omega, by omega⟩, show 0 + (8 * a + b - 0) = 8 * a + b by omega]
            rw [cp, usJ_o9 (by omega), show k + 1 - 1 = k by omega]
            exact hq a b ha hb2
        | succ e ihe =>
          intro i w3 z hi hz hw3 hp hq
          have c4 : ∀ (e2 j : Nat) (z : ow_MS), j + e2 = n → Ch k z → (∀ a b, a < n → b < n → z.2.2 6006 (8 * a + b) = Int64.ofInt (zn9 (k - 1) * zN9 n M E b (k - 1) a)) → (∀ a b, b < n → a < i ∨ a = i ∧ b < j → z.2.2 6007 (8 * a + b) = Int64.ofInt (zn9 k * (zN9 n M E b k a - E k * zd9 b a))) → Tt (fun K t => c_X4_findCharacteristic vl K t 4 (nI n) (nI k) 0 (nI i) (nI j) 0 w3 0 6000 z) Q := by
            intro e2
            induction e2 with
            | zero =>
              intro j z hj hz hp hq
              refine u_X4_findCharacteristic_4 ?_; unfold cm_X4_findCharacteristic_4
              rw [ix8, nI_1]
              refine w_leT (by omega) (by omega) (w_crJ ch_6007 rfl (by omega) (hq i i (by omega) (Or.inr ⟨rfl, by omega⟩)) (ihe (i + 1) _ z (by omega) hz ?_ hp (fun a b ha hb2 => hq a b hb2 (by omega))))
              rw [hw3, ← Int64.ofInt_add]
              refine congrArg Int64.ofInt ?_
              show _ = zn9 (k - 1) * (zS9 (fun a => E k - zN9 n M E a k a) i + (E k - zN9 n M E i k i))
              rw [zk, show zd9 i i = 1 from if_pos rfl, Int.mul_add, Int.mul_one, Int.neg_mul, ← Int.mul_neg]
              congr 2
              omega
            | succ e2 ih2 =>
              intro j z hj hz hp hq
              have c5 : ∀ (e3 m : Nat) (w7 : Int64), m + e3 = n → w7 = Int64.ofInt (zn9 (k - 1) * zS9 (fun m => M i m * zN9 n M E j (k - 1) m) m) → Tt (fun K t => c_X4_findCharacteristic vl K t 5 (nI n) (nI k) 0 (nI i) (nI j) (nI m) w3 w7 6000 z) Q := by
                intro e3
                induction e3 with
                | zero =>
                  intro m w7 hm hw7
                  have hm : m = n := by omega
                  rw [hm, zN_s, show k - 1 + 1 = k by omega] at hw7
                  have hw8 : w7 = Int64.ofInt (zn9 k * (zN9 n M E j k i - E k * zd9 j i)) := by
                    rw [hw7, zk, Int.neg_mul, ← Int.mul_neg]
                    refine congrArg (fun t => Int64.ofInt (zn9 (k - 1) * t)) ?_
                    omega
                  refine u_X4_findCharacteristic_5 ?_; unfold cm_X4_findCharacteristic_5
                  rw [ix8, nI_1 j]
                  refine w_leT (by omega) (by omega) (w_ctJ ch_6007 rfl (by omega) (ih2 (j + 1) _ (by omega) ⟨fr_J2 hz.1 (Or.inr (Or.inl rfl)), fun m hm => ?_⟩ (fun a b ha hb2 => ?_) (fun a b hb2 hab => ?_)))
                  · rw [usJ_o9 (by omega)]
                    exact hz.2 m hm
                  · rw [usJ_o9 (by omega)]
                    exact hp a b ha hb2
                  · by_cases h9 : a = i ∧ b = j
                    · obtain ⟨h8, h7⟩ := h9
                      subst h8
                      subst h7
                      exact usJ_at.trans hw8
                    · rw [show (usJ z (6000 + 7) (8 * i + j) w7).2.2 6007 (8 * a + b) = z.2.2 6007 (8 * a + b) from usJ_ne (by omega)]
                      exact hq a b hb2 (by omega)
                | succ e3 ih3 =>
                  intro m w7 hm hw7
                  refine u_X4_findCharacteristic_5 ?_; unfold cm_X4_findCharacteristic_5
                  refine w_leF (by omega) (by omega) (w_crJ ch_6005 (ix8 i m) (by omega) (M0 z hz.1 i m (by omega) (by omega)) (w_crJ ch_6006 (ix8 m j) (by omega) (hp m j (by omega) (by omega)) ?_))
                  rw [nI_1]
                  refine ih3 (m + 1) _ (by omega) ?_
                  rw [hw7, ← Int64.ofInt_mul, ← Int64.ofInt_add]
                  refine congrArg Int64.ofInt ?_
                  show _ = zn9 (k - 1) * (zS9 (fun m => M i m * zN9 n M E j (k - 1) m) m + M i m * zN9 n M E j (k - 1) m)
                  rw [Int.mul_add, ← Int.mul_assoc (M i m), Int.mul_comm (M i m), Int.mul_assoc]
              refine u_X4_findCharacteristic_4 ?_; unfold cm_X4_findCharacteristic_4
              exact w_leF (by omega) (by omega) (c5 n 0 _ (by omega) (by rw [show zS9 (fun m => M i m * zN9 n M E j (k - 1) m) 0 = 0 from rfl, Int.mul_zero]; rfl))
          refine u_X4_findCharacteristic_3 ?_; unfold cm_X4_findCharacteristic_3
          exact w_leF (by omega) (by omega) (c4 n 0 z (by omega) hz hp (fun a b hb2 hab => hq a b (by omega) hb2))
      have c2 : ∀ (e i : Nat) (z : ow_MS), i + e = n → Ch k z → (∀ a b, a < n → b < n → z.2.2 6006 (8 * a + b) = Int64.ofInt (zn9 (k - 1) * (zN9 n M E b (k - 1) a - (if a < i then 0 else E (k - 1) * zd9 b a)))) → Tt (fun K t => c_X4_findCharacteristic vl K t 2 (nI n) (nI k) (nI i) 0 0 0 0 0 6000 z) Q := by
        intro e
        induction e with
        | zero =>
          intro i z hi hz hp
          refine u_X4_findCharacteristic_2 ?_; unfold cm_X4_findCharacteristic_2
          refine w_leT (by omega) (by omega) (c3 n 0 _ z (by omega) hz ?_ (fun a b ha hb2 => ?_) (fun a b ha => absurd ha (by omega)))
          · rw [show zS9 (fun a => E k - zN9 n M E a k a) 0 = 0 from rfl, Int.mul_zero]
            rfl
          · rw [hp a b ha hb2, if_pos (by omega), Int.sub_zero]
        | succ e ihe =>
          intro i z hi hz hp
          have r1 := hp i i (by omega) (by omega)
          have r2 := hz.2 (k - 1) (by omega)
          rw [show n - (k - 1) = n - k + 1 by omega] at r2
          refine u_X4_findCharacteristic_2 ?_; unfold cm_X4_findCharacteristic_2
          rw [e1, ix8, nI_1, nI_1]
          refine w_leF (by omega) (by omega) (w_crJ ch_6006 rfl (by omega) r1 (w_crJ ch_6008 rfl (by omega) r2 (w_ctJ ch_6006 rfl (by omega) (ihe (i + 1) _ (by omega) ⟨fr_J2 hz.1 (Or.inl rfl), fun m hm => ?_⟩ (fun a b ha hb2 => ?_)))))
          · rw [usJ_o9 (by omega)]
            exact hz.2 m hm
          · by_cases h9 : a = i ∧ b = i
            · obtain ⟨h8, h7⟩ := h9
              subst h8
              subst h7
              rw [show (usJ z (6000 + 6) (8 * b + b) _).2.2 6006 (8 * b + b) = _ from usJ_at, if_neg (by omega), if_pos (by omega), ← Int64.ofInt_add, show zd9 b b = 1 from if_pos rfl]
              refine congrArg Int64.ofInt ?_
              rw [Int.mul_one, Int.mul_sub, Int.sub_zero]
              omega
            · rw [show (usJ z (6000 + 6) (8 * i + i) _).2.2 6006 (8 * a + b) = z.2.2 6006 (8 * a + b) from usJ_ne (by omega), hp a b ha hb2]
              by_cases h8 : a = i
              · rw [if_neg (by omega), if_pos (by omega), show zd9 b a = 0 from if_neg (by omega), Int.mul_zero]
              · by_cases h7 : a < i
                · rw [if_pos h7, if_pos (by omega)]
                · rw [if_neg h7, if_neg (by omega)]
      refine u_X4_findCharacteristic_1 ?_; unfold cm_X4_findCharacteristic_1
      refine w_ltF (by omega) (by omega) (c2 n 0 z (by omega) hz (fun a b ha hb2 => ?_))
      rw [hp a b ha hb2, if_neg (by omega)]
  refine e_X4_findCharacteristic ?_
  refine u_X4_findCharacteristic_0 ?_; unfold cm_X4_findCharacteristic_0
  refine w_cs0 (tc_fillJ ch_6008 (by omega)) ?_
  rintro z1 ⟨-, f1⟩
  refine w_cs0 (tc_fillJ ch_6006 (by omega)) ?_
  rintro z2 ⟨g2, f2⟩
  refine w_ctJ ch_6008 rfl (by omega) (c1 n 1 _ (by omega) (by omega) ⟨fr_J2 (fr_tr (fr_mono (fun g hg => Or.inr (Or.inr hg)) f1) (fr_mono (fun g hg => Or.inl hg) f2)) (Or.inr (Or.inr rfl)), fun m hm => ?_⟩ (fun i j hi hj => ?_))
  · have hm : m = 0 := by omega
    subst hm
    rw [E0]
    exact usJ_at
  · rw [usJ_o9 (by omega)]
    have e9 : z2.2.2 6006 (8 * i + j) = 0 := g2 (8 * i + j) (by omega)
    rw [e9, show 1 - 1 = 0 from rfl, E0]
    show (0 : Int64) = Int64.ofInt (zn9 0 * (zd9 j i - 1 * zd9 j i))
    rw [Int.one_mul, Int.sub_self, Int.mul_zero]
    rfl
theorem tw_zn {E : Nat → Int} : (fun k => zn9 k * E k) = tw9 E := by
  funext k
  unfold zn9 tw9
  split
  · exact Int.one_mul _
  · omega
theorem wv_neg {e : Nat → Int} : ∀ n, wv9 (fun k => -e k) n = ((wv9 e n).1, -(wv9 e n).2) := by
  intro n
  induction n with
  | zero => rfl
  | succ n ih =>
    by_cases h : e (n + 1) = 0
    · rw [wv_z (e := fun k => -e k) (show -e (n + 1) = 0 by omega), wv_z h, ih]
    · rw [wv_s (e := fun k => -e k) (show -e (n + 1) ≠ 0 by omega), wv_s h, ih]
      dsimp only
      have : opp9 (-(wv9 e n).2) (-e (n + 1)) ↔ opp9 (wv9 e n).2 (e (n + 1)) := by
        unfold opp9
        omega
      by_cases h9 : opp9 (wv9 e n).2 (e (n + 1))
      · rw [if_pos h9, if_pos (this.mpr h9)]
      · rw [if_neg h9, if_neg (fun h8 => h9 (this.mp h8))]
theorem wv_zn {E : Nat → Int} (m n : Nat) : (wv9 (fun k => zn9 m * E k) n).1 = (wv9 E n).1 := by
  rcases zn_pm m with h | h
  · rw [h, show (fun k => 1 * E k) = E from funext (fun k => Int.one_mul _)]
  · rw [h, show (fun k => -1 * E k) = fun k => -E k from funext (fun k => by omega), wv_neg]
theorem nuE {n : Nat} (hE : ∀ k, ((E k : Int) : Rat) = qE9 (cM9 M) n k) : nuQ9 (qE9 (cM9 M) n) = E := by
  funext k
  show (qE9 (cM9 M) n k).num = E k
  rw [← hE k]
  rfl
theorem te_eigen {n : Nat} (hn : n ≤ 8) (hM : ∀ i j, i < n → j < n → y.2.2 6005 (8 * i + j) = Int64.ofInt (M i j)) (hE : ∀ k, ((E k : Int) : Rat) = qE9 (cM9 M) n k) (hb : ∀ k, k ≤ n → rI9 ((k : Int) * E k)) : Te (fun K => ce_X4_eigenvalueSigns vl K 6000 (nI n) y) (fun r => r.1 = iI ((vP9 (cM9 M) n : Int) - (vM9 (cM9 M) n : Int)) ∧ fr fcP y r.2) := by
  have E0 : E 0 = 1 := by
    have := hE 0
    rw [qE_0] at this
    exact Rat.intCast_inj.mp this
  have hr : ∀ k, k ≤ n → rI9 (E k) := fun k hk => by
    by_cases h0 : k = 0
    · rw [h0, E0]
      unfold rI9
      omega
    · exact rI_of (by omega) (hb k hk)
  refine e_X4_eigenvalueSigns ?_; unfold cm_X4_eigenvalueSigns_0
  refine w_cs0 (te_findChar hn hM hE hb) ?_
  rintro z1 ⟨f1, g1⟩
  refine w_cs1 (te_signChanges (d := fun k => zn9 k * E k) hn (Or.inl rfl) (fun i hi => ⟨?_, rI_zn _ (hr _ (by omega))⟩)) ?_
  · rw [if_neg (fun h9 => absurd h9.1 (by decide))]
    have := g1 (n - i) (by omega)
    rw [show n - (n - i) = i by omega] at this
    rw [this, show (1 : Int32).toInt64 = 1 from rfl, Int64.mul_one]
  rintro v1 z2 ⟨a1, e2⟩
  have a1 : v1 = nI (wv9 (fun k => zn9 k * E k) n).1 := a1
  have e2 : z2 = z1 := e2
  rw [e2]
  refine w_cs1 (te_signChanges (d := fun k => zn9 n * E k) hn (Or.inr rfl) (fun i hi => ⟨?_, rI_zn _ (hr _ (by omega))⟩)) ?_
  · have := g1 (n - i) (by omega)
    rw [show n - (n - i) = i by omega] at this
    have hz : zn9 i * zn9 (n - i) = zn9 n := by
      rw [zn_a, show i + (n - i) = n by omega]
    rw [this]
    by_cases h9 : i % 2 = 1
    · rw [if_pos ⟨rfl, h9⟩, show (-1 : Int32).toInt64 = Int64.ofInt (-1) from rfl, ← Int64.ofInt_mul]
      refine congrArg Int64.ofInt ?_
      rw [← hz, show zn9 i = -1 from if_neg (by omega)]
      rw [Int.mul_comm, Int.mul_assoc]
    · rw [if_neg (fun h8 => h9 h8.2), show (1 : Int32).toInt64 = 1 from rfl, Int64.mul_one]
      refine congrArg Int64.ofInt ?_
      rw [← hz, show zn9 i = 1 from if_pos (by omega), Int.one_mul]
  rintro v3 z4 ⟨a3, e4⟩
  have a3 : v3 = nI (wv9 (fun k => zn9 n * E k) n).1 := a3
  have e4 : z4 = z1 := e4
  rw [e4]
  refine w_some ⟨?_, f1⟩
  rw [wv_zn] at a3
  rw [tw_zn] at a1
  show v1 - v3 = _
  rw [a1, a3, nI_iI, nI_iI, iI_sub]
  unfold vP9 vM9
  rw [nuE hE]
end XSGO
