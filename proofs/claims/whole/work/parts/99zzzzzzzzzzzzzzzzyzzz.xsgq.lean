/-! signature, the reference: the roots, exactly -/
section XSGQ
variable {z : ow_MS} {F : Nat → Nat → Int} {E : Nat → Int}
theorem xr_times {n : Nat} {B : Nat → Nat → Int} (hn : n ≤ 16) (hF : ∀ i j, i < n → j < n → z.2.2 54 (16 * i + j) = Int64.ofInt (F i j)) (hB : ∀ i j, i < n → j < n → z.2.2 56 (16 * i + j) = Int64.ofInt (B i j)) : Te (fun K => qe_X13_times K (nI n) z) (fun z1 => fr (fun g => g = 55) z z1 ∧ ∀ i j, i < n → j < n → z1.2.2 55 (16 * i + j) = Int64.ofInt (zS9 (fun k => F i k * B k j) n)) := by
  let Q : ow_MS → Prop := fun z1 => fr (fun g => g = 55) z z1 ∧ ∀ i j, i < n → j < n → z1.2.2 55 (16 * i + j) = Int64.ofInt (zS9 (fun k => F i k * B k j) n)
  have c1 : ∀ (d i : Nat) (y : ow_MS), i + d = n → fr (fun g => g = 55) z y → (∀ a b, a < i → b < n → y.2.2 55 (16 * a + b) = Int64.ofInt (zS9 (fun k => F a k * B k b) n)) → Tt (fun K k => q_X13_times K k 1 (nI n) (nI i) 0 0 0 y) Q := by
    intro d
    induction d with
    | zero =>
      intro i y hi hf hp
      refine u_X13_times_1 ?_; unfold qm_X13_times_1
      exact w_leT (by omega) (by omega) (w_some ⟨hf, fun a b ha hb => hp a b (by omega) hb⟩)
    | succ d ih =>
      intro i y hi hf hp
      have c2 : ∀ (d2 j : Nat) (y : ow_MS), j + d2 = n → fr (fun g => g = 55) z y → (∀ a b, b < n → a < i ∨ a = i ∧ b < j → y.2.2 55 (16 * a + b) = Int64.ofInt (zS9 (fun k => F a k * B k b) n)) → Tt (fun K k => q_X13_times K k 2 (nI n) (nI i) (nI j) 0 0 y) Q := by
        intro d2
        induction d2 with
        | zero =>
          intro j y hj hf hp
          refine u_X13_times_2 ?_; unfold qm_X13_times_2
          rw [nI_1]
          exact w_leT (by omega) (by omega) (ih (i + 1) y (by omega) hf (fun a b ha hb => hp a b hb (by omega)))
        | succ d2 ih2 =>
          intro j y hj hf hp
          have c3 : ∀ (d3 k : Nat) (w : Int64), k + d3 = n → w = Int64.ofInt (zS9 (fun k => F i k * B k j) k) → Tt (fun K t => q_X13_times K t 3 (nI n) (nI i) (nI j) (nI k) w y) Q := by
            intro d3
            induction d3 with
            | zero =>
              intro k w hk hw
              have hk : k = n := by omega
              subst hk
              refine u_X13_times_3 ?_; unfold qm_X13_times_3
              rw [s16_ix, show nI j + 1 = nI (j + 1) from nI_1 _]
              refine w_leT (by omega) (by omega) (w_wrJ ml55 rfl (by omega) (ih2 (j + 1) _ (by omega) (fr_J2 hf rfl) (fun a b hb hab => ?_)))
              by_cases h9 : a = i ∧ b = j
              · obtain ⟨h8, h7⟩ := h9
                subst h8
                subst h7
                exact usJ_at.trans hw
              · rw [usJ_ne (by omega)]
                exact hp a b hb (by omega)
            | succ d3 ih3 =>
              intro k w hk hw
              have r1 : y.2.2 54 (16 * i + k) = Int64.ofInt (F i k) := by
                rw [(hf 54 (by omega)).2.2]
                exact hF i k (by omega) (by omega)
              have r2 : y.2.2 56 (16 * k + j) = Int64.ofInt (B k j) := by
                rw [(hf 56 (by omega)).2.2]
                exact hB k j (by omega) (by omega)
              refine u_X13_times_3 ?_; unfold qm_X13_times_3
              rw [s16_ix, s16_ix, s16_ix, show nI k + 1 = nI (k + 1) from nI_1 _]
              refine w_leF (by omega) (by omega) (w_rdJ ml54 rfl (by omega) r1 (w_rdJ ml56 rfl (by omega) r2 (ih3 (k + 1) _ (by omega) ?_)))
              rw [hw, ← Int64.ofInt_mul, ← Int64.ofInt_add]
              rfl
          refine u_X13_times_2 ?_; unfold qm_X13_times_2
          exact w_leF (by omega) (by omega) (c3 n 0 0 (by omega) rfl)
      refine u_X13_times_1 ?_; unfold qm_X13_times_1
      exact w_leF (by omega) (by omega) (c2 n 0 y (by omega) hf (fun a b hb hab => hp a b (by omega) hb))
  refine e_X13_times ?_
  refine u_X13_times_0 ?_; unfold qm_X13_times_0
  exact c1 n 0 z (by omega) fr_rf (fun a b ha => absurd ha (by omega))
theorem zS_0 : ∀ n, zS9 (fun _ => 0) n = 0 := by
  intro n
  induction n with
  | zero => rfl
  | succ n ih =>
    show zS9 (fun _ => 0) n + 0 = 0
    omega
theorem xr_roots {n : Nat} (hn : n ≤ 13) (hF : ∀ i j, i < n → j < n → z.2.2 54 (16 * i + j) = Int64.ofInt (F i j)) (hE : ∀ k, ((E k : Int) : Rat) = qE9 (cM9 F) n k) (hb : ∀ k, k ≤ n → rI9 ((k : Int) * E k)) : Te (fun K => qe_X13_rootsOf K (nI n) z) (fun r => r.1 = iI ((vP9 (cM9 F) n : Int) - (vM9 (cM9 F) n : Int)) ∧ fr rtH z r.2) := by
  have E0 : E 0 = 1 := by
    have := hE 0
    rw [qE_0] at this
    exact Rat.intCast_inj.mp this
  have hr : ∀ k, k ≤ n → rI9 (E k) := fun k hk => by
    by_cases h0 : k = 0
    · rw [h0, E0]
      unfold rI9
      omega
    · exact rI_of (by omega) (hb k hk)
  let Q : Int32 × ow_MS → Prop := fun r => r.1 = iI ((vP9 (cM9 F) n : Int) - (vM9 (cM9 F) n : Int)) ∧ fr rtH z r.2
  let Ch : Nat → ow_MS → Prop := fun k y => fr rtH z y ∧ ∀ m, m < k → y.2.2 57 (n - m) = Int64.ofInt (zn9 m * E m)
  have hF0 : ∀ {y : ow_MS}, fr rtH z y → ∀ i j, i < n → j < n → y.2.2 54 (16 * i + j) = Int64.ofInt (F i j) := fun hf i j hi hj => by
    rw [(hf 54 (by unfold rtH; omega)).2.2]
    exact hF i j hi hj
  have h55 : ∀ {k : Nat} {y y1 : ow_MS}, Ch k y → fr (fun g => g = 55) y y1 → Ch k y1 := fun h1 h2 => ⟨fr_tr h1.1 (fr_mono (fun g hg => by unfold rtH; omega) h2), fun m hm => by
    rw [(h2 57 (by omega)).2.2]
    exact h1.2 m hm⟩
  have c2 : ∀ (d k : Nat) (y : ow_MS), k + d = n + 1 → 1 ≤ k → Ch k y → (∀ i j, i < n → j < n → y.2.2 56 (16 * i + j) = Int64.ofInt (if k = 1 then 0 else zn9 (k - 2) * zN9 n F E j (k - 2) i)) → Tt (fun K t => q_X13_rootsOf K t 2 (nI n) (nI k) 0 0 0 0 0 0 0 y) Q := by
    intro d
    induction d with
    | zero =>
      intro k y hk hk1 hz hp
      have hT : ∀ k, k ≤ n → y.2.2 57 k = Int64.ofInt ((fun m => zn9 m * E m) (n - k)) ∧ rI9 ((fun m => zn9 m * E m) (n - k)) := fun k9 hk9 => by
        have := hz.2 (n - k9) (by omega)
        rw [show n - (n - k9) = k9 by omega] at this
        exact ⟨this, rI_zn _ (hr _ (by omega))⟩
      refine u_X13_rootsOf_2 ?_; unfold qm_X13_rootsOf_2
      refine w_ltT (by omega) (by omega) (w_cs1 (xr_changes (b := 0) (d := fun m => zn9 m * E m) (by omega) (Or.inl rfl) hT) (fun a y1 e1 => ?_))
      obtain ⟨a1, e1⟩ := e1
      have e1 : y1 = y := e1
      have a9 : a = nI (wv9 (fun j => if (0 : Int32) = 1 ∧ (n - j) % 2 = 1 then -(zn9 j * E j) else zn9 j * E j) n).1 := a1
      subst e1
      refine w_cs1 (xr_changes (b := 1) (d := fun m => zn9 m * E m) (by omega) (Or.inr rfl) hT) (fun a2 y2 e2 => ?_)
      obtain ⟨b1, e2⟩ := e2
      have e2 : y2 = y1 := e2
      have b9 : a2 = nI (wv9 (fun j => if (1 : Int32) = 1 ∧ (n - j) % 2 = 1 then -(zn9 j * E j) else zn9 j * E j) n).1 := b1
      subst e2
      refine w_some ⟨?_, hz.1⟩
      have f1 : (fun j => if (0 : Int32) = 1 ∧ (n - j) % 2 = 1 then -(zn9 j * E j) else zn9 j * E j) = fun j => zn9 j * E j := funext (fun j => if_neg (fun h9 => absurd h9.1 (by decide)))
      have key : ∀ m, m ≤ n → wv9 (fun j => if (1 : Int32) = 1 ∧ (n - j) % 2 = 1 then -(zn9 j * E j) else zn9 j * E j) m = wv9 (fun j => zn9 n * E j) m := by
        have pt : ∀ j, j ≤ n → (if (1 : Int32) = 1 ∧ (n - j) % 2 = 1 then -(zn9 j * E j) else zn9 j * E j) = zn9 n * E j := fun j hj => by
          have hz9 : zn9 j * zn9 (n - j) = zn9 n := by rw [zn_a, show j + (n - j) = n by omega]
          by_cases h9 : (n - j) % 2 = 1
          · rw [if_pos ⟨rfl, h9⟩, ← hz9, show zn9 (n - j) = -1 from if_neg (by omega), Int.mul_neg, Int.mul_one, Int.neg_mul]
          · rw [if_neg (fun h8 => h9 h8.2), ← hz9, show zn9 (n - j) = 1 from if_pos (by omega), Int.mul_one]
        intro m
        induction m with
        | zero =>
          intro _
          show ((0 : Nat), (if (1 : Int32) = 1 ∧ (n - 0) % 2 = 1 then -(zn9 0 * E 0) else zn9 0 * E 0)) = (0, zn9 n * E 0)
          rw [pt 0 (by omega)]
        | succ m ihm =>
          intro hm
          have q := pt (m + 1) hm
          show (if (if (1 : Int32) = 1 ∧ (n - (m + 1)) % 2 = 1 then -(zn9 (m + 1) * E (m + 1)) else zn9 (m + 1) * E (m + 1)) = 0 then _ else (_ + (if opp9 _ (if (1 : Int32) = 1 ∧ (n - (m + 1)) % 2 = 1 then -(zn9 (m + 1) * E (m + 1)) else zn9 (m + 1) * E (m + 1)) then 1 else 0), (if (1 : Int32) = 1 ∧ (n - (m + 1)) % 2 = 1 then -(zn9 (m + 1) * E (m + 1)) else zn9 (m + 1) * E (m + 1)))) = _
          rw [q, ihm (by omega)]
          rfl
      rw [f1, tw_zn] at a9
      rw [key n (Nat.le_refl n), wv_zn] at b9
      show a - a2 = _
      rw [a9, b9, nI_iI, nI_iI, iI_sub]
      unfold vP9 vM9
      rw [nuE hE]
    | succ d ih =>
      intro k y hk hk1 hz hp
      have zk : zn9 k = -zn9 (k - 1) := by
        have := zn_s (k := k - 1)
        rw [show k - 1 + 1 = k by omega] at this
        exact this
      have hk64 : (nI k).toInt64 = Int64.ofInt (k : Int) := by
        have key : ∀ k : Fin 16, (nI k.val).toInt64 = Int64.ofInt (k.val : Int) := by decide +kernel
        exact key ⟨k, by omega⟩
      have hnz : (nI k).toInt64 ≠ 0 := by
        rw [nI_l (by omega)]
        exact fun e => by
          have := (pk_lEQ (a := k) (b := 0) (by omega) (by omega)).mp e
          omega
      have c6 : ∀ (d2 i : Nat) (w : Int64) (y : ow_MS), i + d2 = n → Ch k y → (∀ a b, a < n → b < n → y.2.2 56 (16 * a + b) = Int64.ofInt (zn9 (k - 1) * zN9 n F E b (k - 1) a)) → (∀ a, a < n → y.2.2 55 (16 * a + a) = Int64.ofInt (zn9 (k - 1) * (E k - zN9 n F E a k a))) → w = Int64.ofInt (zn9 (k - 1) * zS9 (fun a => E k - zN9 n F E a k a) i) → Tt (fun K t => q_X13_rootsOf K t 6 (nI n) (nI k) 0 0 (nI i) w 0 0 0 y) Q := by
        intro d2
        induction d2 with
        | zero =>
          intro i w y hi hz hp hd9 hw
          have hi : i = n := by omega
          subst hi
          rw [zN_tr hE] at hw
          have bk := hb k (by omega)
          have dv : 0 - w / (nI k).toInt64 = Int64.ofInt (zn9 k * E k) := by
            have h1 : rI9 (zn9 (k - 1) * ((k : Int) * E k)) := rI_zn (k - 1) bk
            have h3 : zn9 (k - 1) * ((k : Int) * E k) = (zn9 (k - 1) * E k) * (k : Int) := by
              rw [Int.mul_comm (k : Int), Int.mul_assoc]
            rw [hw, hk64, ← Int64.ofInt_tdiv (by have := h1.1; show (-9223372036854775808 : Int) ≤ _; omega) (by have := h1.2; show _ ≤ (9223372036854775807 : Int); omega) (by show (-9223372036854775808 : Int) ≤ _; omega) (by show _ ≤ (9223372036854775807 : Int); omega), h3, Int.mul_tdiv_cancel _ (by omega), zk, Int.neg_mul, Int64.ofInt_neg, Int64.zero_sub]
          refine u_X13_rootsOf_6 ?_; unfold qm_X13_rootsOf_6
          rw [show nI i - nI k = nI (i - k) from pk_sub (by omega), nI_1, dv]
          refine w_leT (by omega) (by omega) (w_nzJ hnz (w_wrJ ml57 rfl (by omega) (ih (k + 1) _ (by omega) (by omega) ⟨fr_J2 hz.1 (by unfold rtH; omega), fun m hm => ?_⟩ (fun a b ha hb2 => ?_))))
          · by_cases h9 : m = k
            · rw [h9]
              exact usJ_at
            · rw [usJ_ne (by omega)]
              exact hz.2 m (by omega)
          · rw [usJ_o9 (by omega), if_neg (by omega), show k + 1 - 2 = k - 1 by omega]
            exact hp a b ha hb2
        | succ d2 ih2 =>
          intro i w y hi hz hp hd9 hw
          refine u_X13_rootsOf_6 ?_; unfold qm_X13_rootsOf_6
          rw [show (17 : Int32) * nI i = nI (17 * i) from pk_mul 17 i, show nI i + 1 = nI (i + 1) from nI_1 _]
          have r1 := hd9 i (by omega)
          rw [show 16 * i + i = 17 * i by omega] at r1
          refine w_leF (by omega) (by omega) (w_rdJ ml55 rfl (by omega) r1 (ih2 (i + 1) _ y (by omega) hz hp hd9 ?_))
          rw [hw, ← Int64.ofInt_add, ← Int.mul_add]
          rfl
      have c3 : ∀ (d2 i : Nat) (y : ow_MS), i + d2 = n → Ch k y → (∀ a b, a < n → b < n → y.2.2 55 (16 * a + b) = Int64.ofInt (zn9 (k - 1) * (zN9 n F E b (k - 1) a - E (k - 1) * zd9 b a))) → (∀ a b, a < i → b < n → y.2.2 56 (16 * a + b) = Int64.ofInt (zn9 (k - 1) * zN9 n F E b (k - 1) a)) → Tt (fun K t => q_X13_rootsOf K t 3 (nI n) (nI k) (nI i) 0 0 0 0 0 0 y) Q := by
        intro d2
        induction d2 with
        | zero =>
          intro i y hi hz h55a hp
          have hi : i = n := by omega
          subst hi
          refine u_X13_rootsOf_3 ?_; unfold qm_X13_rootsOf_3
          refine w_leT (by omega) (by omega) (w_cs0 (xr_times (by omega) (hF0 hz.1) hp) (fun y1 ⟨f1, g1⟩ => ?_))
          have f1 : fr (fun g => g = 55) y y1 := f1
          refine c6 i 0 0 y1 (by omega) (h55 hz f1) (fun a b ha hb2 => ?_) (fun a ha => ?_) ?_
          · rw [(f1 56 (by omega)).2.2]
            exact hp a b ha hb2
          · have e9 : y1.2.2 55 (16 * a + a) = _ := g1 a a ha ha
            rw [e9]
            have e8 : zS9 (fun m => F a m * (zn9 (k - 1) * zN9 i F E a (k - 1) m)) i = zn9 (k - 1) * zS9 (fun m => F a m * zN9 i F E a (k - 1) m) i := by
              rw [← zS_mul]
              refine zS_cg (fun m _ => ?_)
              rw [← Int.mul_assoc (F a m), Int.mul_comm (F a m), Int.mul_assoc]
            rw [e8, zN_s, show k - 1 + 1 = k by omega, show zd9 a a = 1 from if_pos rfl, Int.mul_one]
          · rw [show zS9 (fun a => E k - zN9 i F E a k a) 0 = 0 from rfl, Int.mul_zero]
            rfl
        | succ d2 ih2 =>
          intro i y hi hz h55a hp
          have c4 : ∀ (d3 j : Nat) (y : ow_MS), j + d3 = n → Ch k y → (∀ a b, a < n → b < n → y.2.2 55 (16 * a + b) = Int64.ofInt (zn9 (k - 1) * (zN9 n F E b (k - 1) a - E (k - 1) * zd9 b a))) → (∀ a b, b < n → a < i ∨ a = i ∧ b < j → y.2.2 56 (16 * a + b) = Int64.ofInt (zn9 (k - 1) * zN9 n F E b (k - 1) a)) → Tt (fun K t => q_X13_rootsOf K t 4 (nI n) (nI k) (nI i) (nI j) 0 0 0 0 0 y) Q := by
            intro d3
            induction d3 with
            | zero =>
              intro j y hj hz h55a hp
              refine u_X13_rootsOf_4 ?_; unfold qm_X13_rootsOf_4
              rw [show nI i + 1 = nI (i + 1) from nI_1 _]
              exact w_leT (by omega) (by omega) (ih2 (i + 1) y (by omega) hz h55a (fun a b ha hb2 => hp a b hb2 (by omega)))
            | succ d3 ih3 =>
              intro j y hj hz h55a hp
              have c5 : ∀ (y0 y1 : Int64), y1 + y0 = Int64.ofInt (zn9 (k - 1) * zN9 n F E j (k - 1) i) → Tt (fun K t => q_X13_rootsOf K t 5 (nI n) (nI k) (nI i) (nI j) 0 0 (nI (16 * i + j)) y0 y1 y) Q := by
                intro y0 y1 he
                refine u_X13_rootsOf_5 ?_; unfold qm_X13_rootsOf_5
                rw [show nI j + 1 = nI (j + 1) from nI_1 _, he]
                refine w_wrJ ml56 rfl (by omega) (ih3 (j + 1) _ (by omega) ⟨fr_J2 hz.1 (by unfold rtH; omega), fun m hm => ?_⟩ (fun a b ha hb2 => ?_) (fun a b hb2 hab => ?_))
                · rw [usJ_o9 (by omega)]
                  exact hz.2 m hm
                · rw [usJ_o9 (by omega)]
                  exact h55a a b ha hb2
                · by_cases h9 : a = i ∧ b = j
                  · obtain ⟨h8, h7⟩ := h9
                    subst h8
                    subst h7
                    exact usJ_at
                  · rw [usJ_ne (by omega)]
                    exact hp a b hb2 (by omega)
              have r1 := h55a i j (by omega) (by omega)
              have r2 := hz.2 (k - 1) (by omega)
              rw [show n - (k - 1) = n - k + 1 by omega] at r2
              refine u_X13_rootsOf_4 ?_; unfold qm_X13_rootsOf_4
              rw [s16_ix, show nI n - nI k + 1 = nI (n - k + 1) from by rw [pk_sub (by omega)]; exact nI_1 _]
              refine w_leF (by omega) (by omega) (w_rdJ ml55 rfl (by omega) r1 (w_eqN (by omega) (by omega) (fun h9 => w_rdJ ml57 rfl (by omega) r2 (c5 _ _ ?_)) (fun h9 => c5 _ _ ?_)))
              · rw [← Int64.ofInt_add, show zd9 j i = 1 from if_pos h9, Int.mul_one, Int.mul_sub]
                refine congrArg Int64.ofInt ?_
                omega
              · rw [show zd9 j i = 0 from if_neg h9, Int.mul_zero, Int.sub_zero]
                exact Int64.add_zero _
          refine u_X13_rootsOf_3 ?_; unfold qm_X13_rootsOf_3
          exact w_leF (by omega) (by omega) (c4 n 0 y (by omega) hz h55a (fun a b hb2 hab => hp a b (by omega) hb2))
      refine u_X13_rootsOf_2 ?_; unfold qm_X13_rootsOf_2
      refine w_ltF (by omega) (by omega) (w_cs0 (xr_times (by omega) (hF0 hz.1) hp) (fun y1 ⟨f1, g1⟩ => ?_))
      have f1 : fr (fun g => g = 55) y y1 := f1
      refine c3 n 0 y1 (by omega) (h55 hz f1) (fun a b ha hb2 => ?_) (fun a b ha => absurd ha (by omega))
      have e9 : y1.2.2 55 (16 * a + b) = _ := g1 a b ha hb2
      rw [e9]
      refine congrArg Int64.ofInt ?_
      by_cases h1 : k = 1
      · subst h1
        rw [zS_cg (g := fun _ => 0) (fun m _ => by rw [if_pos rfl, Int.mul_zero]), zS_0, show 1 - 1 = 0 from rfl, E0]
        show (0 : Int) = zn9 0 * (zd9 b a - 1 * zd9 b a)
        rw [Int.one_mul, Int.sub_self, Int.mul_zero]
      · have e8 : zS9 (fun m => F a m * (if k = 1 then 0 else zn9 (k - 2) * zN9 n F E b (k - 2) m)) n = zn9 (k - 2) * zS9 (fun m => F a m * zN9 n F E b (k - 2) m) n := by
          rw [← zS_mul]
          refine zS_cg (fun m _ => ?_)
          rw [if_neg h1, ← Int.mul_assoc (F a m), Int.mul_comm (F a m), Int.mul_assoc]
        have zk2 : zn9 (k - 1) = -zn9 (k - 2) := by
          have := zn_s (k := k - 2)
          rw [show k - 2 + 1 = k - 1 by omega] at this
          exact this
        rw [e8, zN_s, show k - 2 + 1 = k - 1 by omega, zk2, Int.neg_mul, ← Int.mul_neg]
        refine congrArg (fun t => zn9 (k - 2) * t) ?_
        omega
  have c1 : ∀ (d i : Nat) (y : ow_MS), i + d = 256 → fr rtH z y → (∀ a, a < i → y.2.2 56 a = 0) → Tt (fun K t => q_X13_rootsOf K t 1 (nI n) (nI i) 0 0 0 0 0 0 0 y) Q := by
    intro d
    induction d with
    | zero =>
      intro i y hi hf h0
      refine u_X13_rootsOf_1 ?_; unfold qm_X13_rootsOf_1
      refine w_leT (a := 256) (by omega) (by omega) (w_wrJ ml57 rfl (by omega) (c2 n 1 _ (by omega) (Nat.le_refl _) ⟨fr_J2 hf (by unfold rtH; omega), fun m hm => ?_⟩ (fun a b ha hb2 => ?_)))
      · have hm : m = 0 := by omega
        subst hm
        rw [E0]
        exact usJ_at
      · rw [usJ_o9 (by omega), if_pos rfl]
        exact h0 _ (by omega)
    | succ d ih =>
      intro i y hi hf h0
      refine u_X13_rootsOf_1 ?_; unfold qm_X13_rootsOf_1
      rw [nI_1]
      refine w_leF (a := 256) (by omega) (by omega) (w_wrJ ml56 rfl (by omega) (ih (i + 1) _ (by omega) (fr_J2 hf (by unfold rtH; omega)) (fun a ha => ?_)))
      by_cases h9 : a = i
      · rw [h9]
        exact usJ_at
      · rw [usJ_ne h9]
        exact h0 a (by omega)
  refine e_X13_rootsOf ?_
  refine u_X13_rootsOf_0 ?_; unfold qm_X13_rootsOf_0
  exact c1 256 0 z (by omega) fr_rf (fun a ha => absurd ha (by omega))
end XSGQ
