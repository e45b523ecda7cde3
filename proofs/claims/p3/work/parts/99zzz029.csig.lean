section
/-! 99zzzzzzzy.csig -/
/-! the class: signature: colours of sides, and the small matrix -/
/-- the colour of a side -/
def kS (w : Nat → Bool) (s : Nat) : Bool := if s % 2 = 0 then w (s / 2) else !w (s / 2)
theorem ga_on {c : Nat} {S : ow_NP} {G : Nat → Int32} {w : Nat → Bool} (hw : gaO c S w) (hv : vn c S) {s : Nat} (hs : s < 4 * c) : kS w (fc_on S G s) = kS w s := by
  have key : ∀ v, v < 2 * c → ∀ b : Bool, (if b = true then kS w (2 * mt v) else kS w (2 * S.2 (mt v) + 1)) = !w v := by
    intro v hv1 b
    have hm := mt_lt hv1
    have e1 : w (mt v) = !w v := (hw v hv1).2
    have e2 : w (S.2 (mt v)) = w v := by
      have h2 := (hw (S.2 (mt v)) (hv (mt v) hm).2.1).1
      rw [(hv (mt v) hm).2.2.2, e1] at h2
      cases h3 : w (S.2 (mt v)) <;> cases h4 : w v <;> simp_all
    split
    · unfold kS
      rw [if_pos (by omega), show 2 * mt v / 2 = mt v by omega, e1]
    · unfold kS
      rw [if_neg (by omega), show (2 * S.2 (mt v) + 1) / 2 = S.2 (mt v) by omega, e2]
  have he : fc_end S.1 s < 2 * c ∧ w (fc_end S.1 s) = !kS w s := by
    unfold fc_end kS
    by_cases h : s % 2 = 0
    · rw [if_pos h, if_pos h]
      exact ⟨(hv _ (by omega)).1, (hw _ (by omega)).1⟩
    · rw [if_neg h, if_neg h, Bool.not_not]
      exact ⟨by omega, rfl⟩
  have := key _ he.1 ((decide (fc_end S.1 s % 2 = 0) == decide (0 < G (fc_end S.1 s / 2))) == decide (s % 2 = 0))
  rw [he.2, Bool.not_not] at this
  rw [← this]
  unfold fc_on
  split <;> rfl
theorem kS_lr {w : Nat → Bool} (v : Nat) : kS w (2 * v) ≠ kS w (2 * v + 1) := by
  unfold kS
  rw [if_pos (by omega), if_neg (by omega), show 2 * v / 2 = v by omega, show (2 * v + 1) / 2 = v by omega]
  cases w v <;> decide
theorem w_cpJ {O : Type} {Q : O → Prop} {X : ow_Tb} {z : ow_MS} {h g a b n la lb : Nat} {sp dp m : Int32} {E : ow_MS → Nat → Nat → Option O} (hL : (X.2 h).2.1 = la) (hG : (X.2 g).2.1 = lb) (h1 : sp = nI a) (h2 : dp = nI b) (h3 : m = nI n) (ha : a + n ≤ la) (hb : b + n ≤ lb) (H : Tt (E (z.1, z.2.1, fun j => if j = g then va_cpy (z.2.2 h) (z.2.2 g) a b n else z.2.2 j)) Q) (hla : la < 2 ^ 31 := by omega) (hlb : lb < 2 ^ 31 := by omega) : Tt (fun K k => cpJ X z h sp g dp m (fun v => E v K k)) Q := by
  have e : (fun K k => cpJ X z h sp g dp m (fun v => E v K k)) = E (z.1, z.2.1, fun j => if j = g then va_cpy (z.2.2 h) (z.2.2 g) a b n else z.2.2 j) := by
    funext K k
    unfold cpJ uw_len
    rw [h1, h2, h3, nI_clamp (by omega), nI_clamp (by omega), nI_clamp (by omega), if_neg]
    rintro (h9 | h9 | h9 | h9 | h9)
    · exact nI_pos (by omega) h9
    · exact nI_pos (by omega) h9
    · exact nI_pos (by omega) h9
    · omega
    · omega
  rw [e]
  exact H
section SGN
variable {vl : Nat → Nat} {y : ow_MS}
theorem ch_6005 : ((cX vl).2 6005).2.1 = 64 := rfl
theorem ch_6006 : ((cX vl).2 6006).2.1 = 64 := rfl
theorem ch_6007 : ((cX vl).2 6007).2.1 = 64 := rfl
theorem ch_6008 : ((cX vl).2 6008).2.1 = 9 := rfl
theorem ix8 (a b : Nat) : nI a * (8 : Int32) + nI b = nI (8 * a + b) := by
  rw [show nI a * (8 : Int32) = nI (8 * a) from (Int32.mul_comm _ _).trans (pk_mul 8 a), nI_add]
theorem u_X4_addAt_2 {vl : Nat → Nat} {x1 : Int32} {x2 : Int32} {x3 : Int32} {x4 : Int32} {r0 : Nat} {z : ow_MS} {Q : ow_MS → Prop} (H : Tt (fun K k => cm_X4_addAt_2 vl K (c_X4_addAt vl K k) x1 x2 x3 x4 r0 z) Q) : Tt (fun K k => c_X4_addAt vl K k 2 x1 x2 x3 x4 r0 z) Q := w_un (fun _ _ => rfl) H
theorem u_X4_addAt_1 {vl : Nat → Nat} {x1 : Int32} {x2 : Int32} {x3 : Int32} {x4 : Int32} {r0 : Nat} {z : ow_MS} {Q : ow_MS → Prop} (H : Tt (fun K k => cm_X4_addAt_1 vl K (c_X4_addAt vl K k) x1 x2 x3 x4 r0 z) Q) : Tt (fun K k => c_X4_addAt vl K k 1 x1 x2 x3 x4 r0 z) Q := w_un (fun _ _ => rfl) H
theorem e_X4_addAt {vl : Nat → Nat} {r0 : Nat} {x1 : Int32} {x2 : Int32} {x3 : Int32} {x4 : Int32} {z : ow_MS} {Q : ow_MS → Prop} (H : Tt (fun K k => c_X4_addAt vl K k 0 x1 x2 x3 x4 r0 z) Q) : Te (fun K => ce_X4_addAt vl K r0 x1 x2 x3 x4 z) Q := w_te H
theorem u_X4_addAt_0 {vl : Nat → Nat} {x1 : Int32} {x2 : Int32} {x3 : Int32} {x4 : Int32} {r0 : Nat} {z : ow_MS} {Q : ow_MS → Prop} (H : Tt (fun K k => cm_X4_addAt_0 vl K (c_X4_addAt vl K k) x1 x2 x3 x4 r0 z) Q) : Tt (fun K k => c_X4_addAt vl K k 0 x1 x2 x3 x4 r0 z) Q := w_un (fun _ _ => rfl) H
theorem tc_addAt {n : Nat} {x1 x2 x3 : Int32} (hn : n ≤ 8) : Te (fun K => ce_X4_addAt vl K 6000 x1 x2 x3 (nI n) y) (fun y1 => fr (fun g => g = 6005) y y1) := by
  let Q : ow_MS → Prop := fun y1 => fr (fun g => g = 6005) y y1
  have ofx : ∀ x : Int32, ¬ x < 0 → ¬ nI n ≤ x → ∃ k, k < n ∧ x = nI k := by
    intro x h1 h2
    obtain ⟨k, hk, rfl⟩ := nI_of (x := x) h1
    refine ⟨k, ?_, rfl⟩
    rcases Nat.lt_or_ge k n with h | h
    · exact h
    · exact absurd (nI_le h hk) h2
  have c2 : ∀ z, Q z → Tt (fun K k => c_X4_addAt vl K k 2 x1 x2 x3 (nI n) 6000 z) Q := by
    intro z hz
    refine u_X4_addAt_2 ?_; unfold cm_X4_addAt_2
    refine w_if (fun _ => w_some hz) (fun a1 => w_if (fun _ => w_some hz) (fun a2 => w_if (fun _ => w_some hz) (fun b1 => w_if (fun _ => w_some hz) (fun b2 => ?_))))
    obtain ⟨k, hk, rfl⟩ := ofx x1 a1 a2
    obtain ⟨l, hl, rfl⟩ := ofx x2 b1 b2
    rw [ix8, ix8]
    exact w_crJ ch_6005 rfl (by omega) rfl (w_ctJ ch_6005 rfl (by omega) (w_crJ ch_6005 rfl (by omega) rfl (w_ctJ ch_6005 rfl (by omega) (w_some (fr_J2 (fr_J2 hz rfl) rfl)))))
  have c1 : ∀ z, Q z → Tt (fun K k => c_X4_addAt vl K k 1 x1 x2 x3 (nI n) 6000 z) Q := by
    intro z hz
    refine u_X4_addAt_1 ?_; unfold cm_X4_addAt_1
    refine w_if (fun _ => c2 z hz) (fun b1 => w_if (fun _ => c2 z hz) (fun b2 => ?_))
    obtain ⟨l, hl, e⟩ := ofx x2 b1 b2
    have e9 : x2 * 8 + x2 = nI (8 * l + l) := by rw [e, ix8]
    exact w_crJ ch_6005 e9 (by omega) rfl (w_ctJ ch_6005 e9 (by omega) (c2 _ (fr_J2 hz rfl)))
  refine e_X4_addAt ?_
  refine u_X4_addAt_0 ?_; unfold cm_X4_addAt_0
  refine w_if (fun _ => c1 y fr_rf) (fun b1 => w_if (fun _ => c1 y fr_rf) (fun b2 => ?_))
  obtain ⟨l, hl, e⟩ := ofx x1 b1 b2
  have e9 : x1 * 8 + x1 = nI (8 * l + l) := by rw [e, ix8]
  exact w_crJ ch_6005 e9 (by omega) rfl (w_ctJ ch_6005 e9 (by omega) (c1 _ (fr_J rfl)))
theorem u_X4_signChanges_1 {vl : Nat → Nat} {x1 : Int32} {x2 : Int32} {x3 : Int32} {x6 : Int32} {w4 : Int64} {w7 : Int64} {r0 : Nat} {t0 : Int32} {y0 : Int64} {y1 : Int64} {z : ow_MS} {Q : (Int32 × ow_MS) → Prop} (H : Tt (fun K k => cm_X4_signChanges_1 vl K (c_X4_signChanges vl K k) x1 x2 x3 x6 w4 w7 r0 t0 y0 y1 z) Q) : Tt (fun K k => c_X4_signChanges vl K k 1 x1 x2 x3 x6 w4 w7 r0 t0 y0 y1 z) Q := w_un (fun _ _ => rfl) H
theorem u_X4_signChanges_7 {vl : Nat → Nat} {x1 : Int32} {x2 : Int32} {x3 : Int32} {x6 : Int32} {w4 : Int64} {w7 : Int64} {r0 : Nat} {t0 : Int32} {y0 : Int64} {y1 : Int64} {z : ow_MS} {Q : (Int32 × ow_MS) → Prop} (H : Tt (fun K k => cm_X4_signChanges_7 vl K (c_X4_signChanges vl K k) x1 x2 x3 x6 w4 w7 r0 t0 y0 y1 z) Q) : Tt (fun K k => c_X4_signChanges vl K k 7 x1 x2 x3 x6 w4 w7 r0 t0 y0 y1 z) Q := w_un (fun _ _ => rfl) H
theorem u_X4_signChanges_6 {vl : Nat → Nat} {x1 : Int32} {x2 : Int32} {x3 : Int32} {x6 : Int32} {w4 : Int64} {w7 : Int64} {r0 : Nat} {t0 : Int32} {y0 : Int64} {y1 : Int64} {z : ow_MS} {Q : (Int32 × ow_MS) → Prop} (H : Tt (fun K k => cm_X4_signChanges_6 vl K (c_X4_signChanges vl K k) x1 x2 x3 x6 w4 w7 r0 t0 y0 y1 z) Q) : Tt (fun K k => c_X4_signChanges vl K k 6 x1 x2 x3 x6 w4 w7 r0 t0 y0 y1 z) Q := w_un (fun _ _ => rfl) H
theorem u_X4_signChanges_5 {vl : Nat → Nat} {x1 : Int32} {x2 : Int32} {x3 : Int32} {x6 : Int32} {w4 : Int64} {w7 : Int64} {r0 : Nat} {t0 : Int32} {y0 : Int64} {y1 : Int64} {z : ow_MS} {Q : (Int32 × ow_MS) → Prop} (H : Tt (fun K k => cm_X4_signChanges_5 vl K (c_X4_signChanges vl K k) x1 x2 x3 x6 w4 w7 r0 t0 y0 y1 z) Q) : Tt (fun K k => c_X4_signChanges vl K k 5 x1 x2 x3 x6 w4 w7 r0 t0 y0 y1 z) Q := w_un (fun _ _ => rfl) H
theorem u_X4_signChanges_4 {vl : Nat → Nat} {x1 : Int32} {x2 : Int32} {x3 : Int32} {x6 : Int32} {w4 : Int64} {w7 : Int64} {r0 : Nat} {t0 : Int32} {y0 : Int64} {y1 : Int64} {z : ow_MS} {Q : (Int32 × ow_MS) → Prop} (H : Tt (fun K k => cm_X4_signChanges_4 vl K (c_X4_signChanges vl K k) x1 x2 x3 x6 w4 w7 r0 t0 y0 y1 z) Q) : Tt (fun K k => c_X4_signChanges vl K k 4 x1 x2 x3 x6 w4 w7 r0 t0 y0 y1 z) Q := w_un (fun _ _ => rfl) H
theorem u_X4_signChanges_3 {vl : Nat → Nat} {x1 : Int32} {x2 : Int32} {x3 : Int32} {x6 : Int32} {w4 : Int64} {w7 : Int64} {r0 : Nat} {t0 : Int32} {y0 : Int64} {y1 : Int64} {z : ow_MS} {Q : (Int32 × ow_MS) → Prop} (H : Tt (fun K k => cm_X4_signChanges_3 vl K (c_X4_signChanges vl K k) x1 x2 x3 x6 w4 w7 r0 t0 y0 y1 z) Q) : Tt (fun K k => c_X4_signChanges vl K k 3 x1 x2 x3 x6 w4 w7 r0 t0 y0 y1 z) Q := w_un (fun _ _ => rfl) H
theorem u_X4_signChanges_2 {vl : Nat → Nat} {x1 : Int32} {x2 : Int32} {x3 : Int32} {x6 : Int32} {w4 : Int64} {w7 : Int64} {r0 : Nat} {t0 : Int32} {y0 : Int64} {y1 : Int64} {z : ow_MS} {Q : (Int32 × ow_MS) → Prop} (H : Tt (fun K k => cm_X4_signChanges_2 vl K (c_X4_signChanges vl K k) x1 x2 x3 x6 w4 w7 r0 t0 y0 y1 z) Q) : Tt (fun K k => c_X4_signChanges vl K k 2 x1 x2 x3 x6 w4 w7 r0 t0 y0 y1 z) Q := w_un (fun _ _ => rfl) H
theorem e_X4_signChanges {vl : Nat → Nat} {r0 : Nat} {x1 : Int32} {x2 : Int32} {z : ow_MS} {Q : (Int32 × ow_MS) → Prop} (H : Tt (fun K k => c_X4_signChanges vl K k 0 x1 x2 0 0 0 0 r0 0 0 0 z) Q) : Te (fun K => ce_X4_signChanges vl K r0 x1 x2 z) Q := w_te H
theorem u_X4_signChanges_0 {vl : Nat → Nat} {x1 : Int32} {x2 : Int32} {x3 : Int32} {x6 : Int32} {w4 : Int64} {w7 : Int64} {r0 : Nat} {t0 : Int32} {y0 : Int64} {y1 : Int64} {z : ow_MS} {Q : (Int32 × ow_MS) → Prop} (H : Tt (fun K k => cm_X4_signChanges_0 vl K (c_X4_signChanges vl K k) x1 x2 x3 x6 w4 w7 r0 t0 y0 y1 z) Q) : Tt (fun K k => c_X4_signChanges vl K k 0 x1 x2 x3 x6 w4 w7 r0 t0 y0 y1 z) Q := w_un (fun _ _ => rfl) H
theorem tc_signChanges {n : Nat} {x2 : Int32} (hn : n ≤ 8) : Te (fun K => ce_X4_signChanges vl K 6000 (nI n) x2 y) (fun r => r.2 = y) := by
  have c1 : ∀ (d i : Nat) (x3 : Int32) (w4 : Int64), i + d = n + 1 → Tt (fun K k => c_X4_signChanges vl K k 1 (nI n) x2 x3 (nI i) w4 0 6000 0 0 0 y) (fun r => r.2 = y) := by
    intro d
    induction d with
    | zero =>
      intro i x3 w4 hi
      refine u_X4_signChanges_1 ?_; unfold cm_X4_signChanges_1
      exact w_ltT (by omega) (by omega) (w_some rfl)
    | succ d ih =>
      intro i x3 w4 hi
      have c7 : ∀ (x3 : Int32) (w4 w7 : Int64), Tt (fun K k => c_X4_signChanges vl K k 7 (nI n) x2 x3 (nI i) w4 w7 6000 0 0 0 y) (fun r => r.2 = y) := by
        intro x3 w4 w7
        refine u_X4_signChanges_7 ?_; unfold cm_X4_signChanges_7
        rw [nI_1]
        exact ih (i + 1) _ _ (by omega)
      have c6 : ∀ (x3 : Int32) (w4 w7 : Int64), Tt (fun K k => c_X4_signChanges vl K k 6 (nI n) x2 x3 (nI i) w4 w7 6000 0 0 0 y) (fun r => r.2 = y) := by
        intro x3 w4 w7
        refine u_X4_signChanges_6 ?_; unfold cm_X4_signChanges_6
        exact c7 _ _ _
      have c5 : ∀ (x3 : Int32) (w4 w7 : Int64), Tt (fun K k => c_X4_signChanges vl K k 5 (nI n) x2 x3 (nI i) w4 w7 6000 0 0 0 y) (fun r => r.2 = y) := by
        intro x3 w4 w7
        refine u_X4_signChanges_5 ?_; unfold cm_X4_signChanges_5
        exact c6 _ _ _
      have c4 : ∀ (x3 : Int32) (w4 w7 : Int64), Tt (fun K k => c_X4_signChanges vl K k 4 (nI n) x2 x3 (nI i) w4 w7 6000 0 0 0 y) (fun r => r.2 = y) := by
        intro x3 w4 w7
        refine u_X4_signChanges_4 ?_; unfold cm_X4_signChanges_4
        exact w_if (fun _ => c6 _ _ _) (fun _ => w_if (fun _ => c6 _ _ _) (fun _ => c5 _ _ _))
      have c3 : ∀ (x3 : Int32) (w4 : Int64) (t0 : Int32) (y1 : Int64), Tt (fun K k => c_X4_signChanges vl K k 3 (nI n) x2 x3 (nI i) w4 0 6000 t0 0 y1 y) (fun r => r.2 = y) := by
        intro x3 w4 t0 y1
        refine u_X4_signChanges_3 ?_; unfold cm_X4_signChanges_3
        exact w_if (fun _ => c7 _ _ _) (fun _ => w_if (fun _ => c4 _ _ _) (fun _ => w_if (fun _ => c5 _ _ _) (fun _ => c4 _ _ _)))
      have c2 : ∀ (x3 : Int32) (w4 : Int64) (y0 : Int64), Tt (fun K k => c_X4_signChanges vl K k 2 (nI n) x2 x3 (nI i) w4 0 6000 0 y0 0 y) (fun r => r.2 = y) := by
        intro x3 w4 y0
        refine u_X4_signChanges_2 ?_; unfold cm_X4_signChanges_2
        exact c3 _ _ _ _
      refine u_X4_signChanges_1 ?_; unfold cm_X4_signChanges_1
      exact w_ltF (by omega) (by omega) (w_crJ ch_6008 rfl (by omega) rfl (w_if (fun _ => c2 _ _ _) (fun _ => w_if (fun _ => c3 _ _ _ _) (fun _ => c2 _ _ _))))
  refine e_X4_signChanges ?_
  refine u_X4_signChanges_0 ?_; unfold cm_X4_signChanges_0
  exact c1 (n + 1) 0 _ _ (by omega)
def fcP (g : Nat) : Prop := g = 6006 ∨ g = 6007 ∨ g = 6008
theorem u_X4_findCharacteristic_1 {vl : Nat → Nat} {x1 : Int32} {x2 : Int32} {x3 : Int32} {x5 : Int32} {x6 : Int32} {x9 : Int32} {w3 : Int64} {w7 : Int64} {r0 : Nat} {z : ow_MS} {Q : ow_MS → Prop} (H : Tt (fun K k => cm_X4_findCharacteristic_1 vl K (c_X4_findCharacteristic vl K k) x1 x2 x3 x5 x6 x9 w3 w7 r0 z) Q) : Tt (fun K k => c_X4_findCharacteristic vl K k 1 x1 x2 x3 x5 x6 x9 w3 w7 r0 z) Q := w_un (fun _ _ => rfl) H
theorem u_X4_findCharacteristic_3 {vl : Nat → Nat} {x1 : Int32} {x2 : Int32} {x3 : Int32} {x5 : Int32} {x6 : Int32} {x9 : Int32} {w3 : Int64} {w7 : Int64} {r0 : Nat} {z : ow_MS} {Q : ow_MS → Prop} (H : Tt (fun K k => cm_X4_findCharacteristic_3 vl K (c_X4_findCharacteristic vl K k) x1 x2 x3 x5 x6 x9 w3 w7 r0 z) Q) : Tt (fun K k => c_X4_findCharacteristic vl K k 3 x1 x2 x3 x5 x6 x9 w3 w7 r0 z) Q := w_un (fun _ _ => rfl) H
theorem u_X4_findCharacteristic_4 {vl : Nat → Nat} {x1 : Int32} {x2 : Int32} {x3 : Int32} {x5 : Int32} {x6 : Int32} {x9 : Int32} {w3 : Int64} {w7 : Int64} {r0 : Nat} {z : ow_MS} {Q : ow_MS → Prop} (H : Tt (fun K k => cm_X4_findCharacteristic_4 vl K (c_X4_findCharacteristic vl K k) x1 x2 x3 x5 x6 x9 w3 w7 r0 z) Q) : Tt (fun K k => c_X4_findCharacteristic vl K k 4 x1 x2 x3 x5 x6 x9 w3 w7 r0 z) Q := w_un (fun _ _ => rfl) H
theorem u_X4_findCharacteristic_5 {vl : Nat → Nat} {x1 : Int32} {x2 : Int32} {x3 : Int32} {x5 : Int32} {x6 : Int32} {x9 : Int32} {w3 : Int64} {w7 : Int64} {r0 : Nat} {z : ow_MS} {Q : ow_MS → Prop} (H : Tt (fun K k => cm_X4_findCharacteristic_5 vl K (c_X4_findCharacteristic vl K k) x1 x2 x3 x5 x6 x9 w3 w7 r0 z) Q) : Tt (fun K k => c_X4_findCharacteristic vl K k 5 x1 x2 x3 x5 x6 x9 w3 w7 r0 z) Q := w_un (fun _ _ => rfl) H
theorem u_X4_findCharacteristic_2 {vl : Nat → Nat} {x1 : Int32} {x2 : Int32} {x3 : Int32} {x5 : Int32} {x6 : Int32} {x9 : Int32} {w3 : Int64} {w7 : Int64} {r0 : Nat} {z : ow_MS} {Q : ow_MS → Prop} (H : Tt (fun K k => cm_X4_findCharacteristic_2 vl K (c_X4_findCharacteristic vl K k) x1 x2 x3 x5 x6 x9 w3 w7 r0 z) Q) : Tt (fun K k => c_X4_findCharacteristic vl K k 2 x1 x2 x3 x5 x6 x9 w3 w7 r0 z) Q := w_un (fun _ _ => rfl) H
theorem e_X4_findCharacteristic {vl : Nat → Nat} {r0 : Nat} {x1 : Int32} {z : ow_MS} {Q : ow_MS → Prop} (H : Tt (fun K k => c_X4_findCharacteristic vl K k 0 x1 0 0 0 0 0 0 0 r0 z) Q) : Te (fun K => ce_X4_findCharacteristic vl K r0 x1 z) Q := w_te H
theorem u_X4_findCharacteristic_0 {vl : Nat → Nat} {x1 : Int32} {x2 : Int32} {x3 : Int32} {x5 : Int32} {x6 : Int32} {x9 : Int32} {w3 : Int64} {w7 : Int64} {r0 : Nat} {z : ow_MS} {Q : ow_MS → Prop} (H : Tt (fun K k => cm_X4_findCharacteristic_0 vl K (c_X4_findCharacteristic vl K k) x1 x2 x3 x5 x6 x9 w3 w7 r0 z) Q) : Tt (fun K k => c_X4_findCharacteristic vl K k 0 x1 x2 x3 x5 x6 x9 w3 w7 r0 z) Q := w_un (fun _ _ => rfl) H
theorem tc_findChar {n : Nat} (hn : n ≤ 8) : Te (fun K => ce_X4_findCharacteristic vl K 6000 (nI n) y) (fun y1 => fr fcP y y1) := by
  let Q : ow_MS → Prop := fun y1 => fr fcP y y1
  have c1 : ∀ (d k : Nat) (z : ow_MS), k + d = n + 1 → 1 ≤ k → Q z → Tt (fun K t => c_X4_findCharacteristic vl K t 1 (nI n) (nI k) 0 0 0 0 0 0 6000 z) Q := by
    intro d
    induction d with
    | zero =>
      intro k z hk _ hz
      refine u_X4_findCharacteristic_1 ?_; unfold cm_X4_findCharacteristic_1
      exact w_ltT (by omega) (by omega) (w_some hz)
    | succ d ih =>
      intro k z hk hk1 hz
      have hnz : (nI k).toInt64 ≠ 0 := by
        have key : ∀ k : Fin 9, 1 ≤ k.val → (nI k.val).toInt64 ≠ 0 := by decide +kernel
        exact key ⟨k, by omega⟩ hk1
      have e1 : nI n - nI k = nI (n - k) := pk_sub (by omega)
      have c3 : ∀ (e i : Nat) (w3 : Int64) (z : ow_MS), i + e = n → Q z → Tt (fun K t => c_X4_findCharacteristic vl K t 3 (nI n) (nI k) 0 (nI i) 0 0 w3 0 6000 z) Q := by
        intro e
        induction e with
        | zero =>
          intro i w3 z hi hz
          refine u_X4_findCharacteristic_3 ?_; unfold cm_X4_findCharacteristic_3
          rw [e1, nI_1]
          refine w_leT (by omega) (by omega) (w_nzJ hnz (w_ctJ ch_6008 rfl (by omega) (w_cpJ (a := 0) (b := 0) (n := 64) ch_6007 ch_6006 rfl rfl rfl (by omega) (by omega) (ih (k + 1) _ (by omega) (by omega) ?_))))
          intro g hg
          have h1 := (fr_J2 (i := n - k) (y := (-w3) / (nI k).toInt64) hz (show fcP (6000 + 8) from Or.inr (Or.inr rfl))) g hg
          refine ⟨h1.1, h1.2.1, ?_⟩
          have hne : g ≠ 6000 + 6 := fun h9 => hg (by rw [h9]; exact Or.inl rfl)
          exact (if_neg hne).trans h1.2.2
        | succ e ihe =>
          intro i w3 z hi hz
          have c4 : ∀ (e2 j : Nat) (z : ow_MS), j + e2 = n → Q z → Tt (fun K t => c_X4_findCharacteristic vl K t 4 (nI n) (nI k) 0 (nI i) (nI j) 0 w3 0 6000 z) Q := by
            intro e2
            induction e2 with
            | zero =>
              intro j z hj hz
              refine u_X4_findCharacteristic_4 ?_; unfold cm_X4_findCharacteristic_4
              rw [ix8, nI_1]
              exact w_leT (by omega) (by omega) (w_crJ ch_6007 rfl (by omega) rfl (ihe (i + 1) _ z (by omega) hz))
            | succ e2 ih2 =>
              intro j z hj hz
              have c5 : ∀ (e3 m : Nat) (w7 : Int64), m + e3 = n → Tt (fun K t => c_X4_findCharacteristic vl K t 5 (nI n) (nI k) 0 (nI i) (nI j) (nI m) w3 w7 6000 z) Q := by
                intro e3
                induction e3 with
                | zero =>
                  intro m w7 hm
                  refine u_X4_findCharacteristic_5 ?_; unfold cm_X4_findCharacteristic_5
                  rw [ix8, nI_1 j]
                  exact w_leT (by omega) (by omega) (w_ctJ ch_6007 rfl (by omega) (ih2 (j + 1) _ (by omega) (fr_J2 hz (Or.inr (Or.inl rfl)))))
                | succ e3 ih3 =>
                  intro m w7 hm
                  refine u_X4_findCharacteristic_5 ?_; unfold cm_X4_findCharacteristic_5
                  refine w_leF (by omega) (by omega) (w_crJ ch_6005 (ix8 i m) (by omega) rfl (w_crJ ch_6006 (ix8 m j) (by omega) rfl ?_))
                  rw [nI_1]
                  exact ih3 (m + 1) _ (by omega)
              refine u_X4_findCharacteristic_4 ?_; unfold cm_X4_findCharacteristic_4
              exact w_leF (by omega) (by omega) (c5 n 0 _ (by omega))
          refine u_X4_findCharacteristic_3 ?_; unfold cm_X4_findCharacteristic_3
          exact w_leF (by omega) (by omega) (c4 n 0 z (by omega) hz)
      have c2 : ∀ (e i : Nat) (z : ow_MS), i + e = n → Q z → Tt (fun K t => c_X4_findCharacteristic vl K t 2 (nI n) (nI k) (nI i) 0 0 0 0 0 6000 z) Q := by
        intro e
        induction e with
        | zero =>
          intro i z hi hz
          refine u_X4_findCharacteristic_2 ?_; unfold cm_X4_findCharacteristic_2
          exact w_leT (by omega) (by omega) (c3 n 0 _ z (by omega) hz)
        | succ e ihe =>
          intro i z hi hz
          refine u_X4_findCharacteristic_2 ?_; unfold cm_X4_findCharacteristic_2
          rw [e1, ix8, nI_1, nI_1]
          exact w_leF (by omega) (by omega) (w_crJ ch_6006 rfl (by omega) rfl (w_crJ ch_6008 rfl (by omega) rfl (w_ctJ ch_6006 rfl (by omega) (ihe (i + 1) _ (by omega) (fr_J2 hz (Or.inl rfl))))))
      refine u_X4_findCharacteristic_1 ?_; unfold cm_X4_findCharacteristic_1
      exact w_ltF (by omega) (by omega) (c2 n 0 z (by omega) hz)
  refine e_X4_findCharacteristic ?_
  refine u_X4_findCharacteristic_0 ?_; unfold cm_X4_findCharacteristic_0
  refine w_cs0 (tc_fillJ ch_6008 (by omega)) ?_
  rintro z1 ⟨-, f1⟩
  refine w_cs0 (tc_fillJ ch_6006 (by omega)) ?_
  rintro z2 ⟨-, f2⟩
  exact w_ctJ ch_6008 rfl (by omega) (c1 n 1 _ (by omega) (by omega) (fr_J2 (fr_tr (fr_mono (fun g hg => Or.inr (Or.inr hg)) f1) (fr_mono (fun g hg => Or.inl hg) f2)) (Or.inr (Or.inr rfl))))
theorem e_X4_eigenvalueSigns {vl : Nat → Nat} {r0 : Nat} {x1 : Int32} {z : ow_MS} {Q : (Int32 × ow_MS) → Prop} (H : Tt (fun K _ => cm_X4_eigenvalueSigns_0 vl K x1 r0 z) Q) : Te (fun K => ce_X4_eigenvalueSigns vl K r0 x1 z) Q := w_te0 H
theorem tc_eigen {n : Nat} (hn : n ≤ 8) : Te (fun K => ce_X4_eigenvalueSigns vl K 6000 (nI n) y) (fun r => fr fcP y r.2) := by
  refine e_X4_eigenvalueSigns ?_; unfold cm_X4_eigenvalueSigns_0
  refine w_cs0 (tc_findChar hn) ?_
  rintro z1 f1
  refine w_cs1 (tc_signChanges hn) ?_
  rintro v1 z2 e2
  have e2 : z2 = z1 := e2
  rw [e2]
  refine w_cs1 (tc_signChanges hn) ?_
  rintro v3 z4 e4
  have e4 : z4 = z1 := e4
  rw [e4]
  exact w_some f1
end SGN
end
section
/-! 99zzzzzzzz.cnum -/
/-! the class: signature: faces of one colour are numbered -/
def nF (q : Nat → Bool) : Nat → Nat
  | 0 => 0
  | n + 1 => nF q n + (if q n = true then 1 else 0)
theorem nF_cg {q q' : Nat → Bool} : ∀ n, (∀ k, k < n → q k = q' k) → nF q n = nF q' n
  | 0, _ => rfl
  | n + 1, h => by
    show nF q n + _ = nF q' n + _
    rw [nF_cg n (fun k hk => h k (by omega)), h n (by omega)]
theorem nF_set {q q' : Nat → Bool} {a : Nat} (h1 : q a = false) (h2 : q' a = true) (h3 : ∀ k, k ≠ a → q' k = q k) : ∀ n, nF q' n = nF q n + (if a < n then 1 else 0)
  | 0 => rfl
  | n + 1 => by
    show nF q' n + _ = nF q n + _ + _
    rw [nF_set h1 h2 h3 n]
    by_cases e : n = a
    · subst e
      rw [h1, h2, if_pos rfl, if_neg (Nat.lt_irrefl _), if_pos (Nat.lt_succ_self _)]
      simp
    · rw [h3 n e]
      have e1 : (if a < n + 1 then 1 else 0) = if a < n then 1 else 0 := by
        by_cases h : a < n
        · rw [if_pos h, if_pos (show a < n + 1 by omega)]
        · rw [if_neg h, if_neg (show ¬ a < n + 1 by omega)]
      rw [e1]
      omega
theorem nF_le (q : Nat → Bool) : ∀ n, nF q n ≤ n
  | 0 => Nat.le_refl _
  | n + 1 => by
    have := nF_le q n
    show nF q n + _ ≤ n + 1
    split <;> omega
theorem nF_pos {q : Nat → Bool} {a : Nat} (h : q a = true) : ∀ n, a < n → 1 ≤ nF q n
  | 0, h1 => absurd h1 (Nat.not_lt_zero _)
  | n + 1, h1 => by
    show 1 ≤ nF q n + _
    by_cases e : a = n
    · subst e
      rw [if_pos h]
      omega
    · have := nF_pos h n (by omega)
      omega
def snS (φ : Nat → Nat) (cd : Nat → Bool) : Nat → Nat → Bool
  | 0, _ => false
  | s + 1, f => snS φ cd s f || (cd s && decide (φ s = f))
theorem snS_t {φ : Nat → Nat} {cd : Nat → Bool} {f : Nat} : ∀ s, snS φ cd s f = true ↔ ∃ t, t < s ∧ cd t = true ∧ φ t = f
  | 0 => ⟨fun h => (by cases h), fun ⟨t, h, _⟩ => absurd h (Nat.not_lt_zero _)⟩
  | s + 1 => by
    show (snS φ cd s f || (cd s && decide (φ s = f))) = true ↔ _
    rw [Bool.or_eq_true_iff, snS_t s, Bool.and_eq_true_iff]
    constructor
    · rintro (⟨t, h1, h2, h3⟩ | ⟨h1, h2⟩)
      · exact ⟨t, by omega, h2, h3⟩
      · exact ⟨s, by omega, h1, of_decide_eq_true h2⟩
    · rintro ⟨t, h1, h2, h3⟩
      by_cases e : t = s
      · subst e
        exact Or.inr ⟨h2, decide_eq_true h3⟩
      · exact Or.inl ⟨t, by omega, h2, h3⟩
def cdN (y : ow_MS) (φ : Nat → Nat) (x2 x3 : Int32) (s : Nat) : Bool := decide (y.2.1 4006 (s / 2) = x2 ∧ y.2.1 6003 (φ s) = x3)
section NRW
variable {vl : Nat → Nat} {y : ow_MS}
theorem cg_6001 : ((cX vl).2 6001).2.1 = 48 := rfl
theorem cg_6003 : ((cX vl).2 6003).2.1 = 48 := rfl
theorem cg_6004 : ((cX vl).2 6004).2.1 = 48 := rfl
theorem cg_4006 : ((cX vl).2 4006).2.1 = 24 := rfl
theorem u_X4_numberRows_1 {vl : Nat → Nat} {x2 : Int32} {x3 : Int32} {x4 : Int32} {x5 : Int32} {x6 : Int32} {r0 : Nat} {r1 : Nat} {z : ow_MS} {Q : (Int32 × ow_MS) → Prop} (H : Tt (fun K k => cm_X4_numberRows_1 vl K (c_X4_numberRows vl K k) x2 x3 x4 x5 x6 r0 r1 z) Q) : Tt (fun K k => c_X4_numberRows vl K k 1 x2 x3 x4 x5 x6 r0 r1 z) Q := w_un (fun _ _ => rfl) H
theorem u_X4_numberRows_2 {vl : Nat → Nat} {x2 : Int32} {x3 : Int32} {x4 : Int32} {x5 : Int32} {x6 : Int32} {r0 : Nat} {r1 : Nat} {z : ow_MS} {Q : (Int32 × ow_MS) → Prop} (H : Tt (fun K k => cm_X4_numberRows_2 vl K (c_X4_numberRows vl K k) x2 x3 x4 x5 x6 r0 r1 z) Q) : Tt (fun K k => c_X4_numberRows vl K k 2 x2 x3 x4 x5 x6 r0 r1 z) Q := w_un (fun _ _ => rfl) H
theorem e_X4_numberRows {vl : Nat → Nat} {r0 : Nat} {r1 : Nat} {x2 : Int32} {x3 : Int32} {z : ow_MS} {Q : (Int32 × ow_MS) → Prop} (H : Tt (fun K k => c_X4_numberRows vl K k 0 x2 x3 0 0 0 r0 r1 z) Q) : Te (fun K => ce_X4_numberRows vl K r0 r1 x2 x3 z) Q := w_te H
theorem u_X4_numberRows_0 {vl : Nat → Nat} {x2 : Int32} {x3 : Int32} {x4 : Int32} {x5 : Int32} {x6 : Int32} {r0 : Nat} {r1 : Nat} {z : ow_MS} {Q : (Int32 × ow_MS) → Prop} (H : Tt (fun K k => cm_X4_numberRows_0 vl K (c_X4_numberRows vl K k) x2 x3 x4 x5 x6 r0 r1 z) Q) : Tt (fun K k => c_X4_numberRows vl K k 0 x2 x3 x4 x5 x6 r0 r1 z) Q := w_un (fun _ _ => rfl) H
theorem tc_numRows {c n : Nat} {φ : Nat → Nat} {x2 x3 : Int32} (h8 : y.1 4008 = nI c) (hc : c ≤ 12) (h2 : y.1 6002 = nI n) (hn : n ≤ 48) (hφ : ∀ s, s < 4 * c → y.2.1 6001 s = nI (φ s) ∧ φ s < n) : Te (fun K => ce_X4_numberRows vl K 6000 4000 x2 x3 y) (fun r => r.1 = nI (nF (snS φ (cdN y φ x2 x3) (4 * c)) n) ∧ (∀ f, f < n → (r.2.2.1 6004 f = -1 ∧ snS φ (cdN y φ x2 x3) (4 * c) f = false ∨ (∃ k, k < nF (snS φ (cdN y φ x2 x3) (4 * c)) n ∧ r.2.2.1 6004 f = nI k) ∧ snS φ (cdN y φ x2 x3) (4 * c) f = true)) ∧ fr (fun g => g = 6004) y r.2) := by
  let cd := cdN y φ x2 x3
  let Q : Int32 × ow_MS → Prop := fun r => r.1 = nI (nF (snS φ cd (4 * c)) n) ∧ (∀ f, f < n → (r.2.2.1 6004 f = -1 ∧ snS φ cd (4 * c) f = false ∨ (∃ k, k < nF (snS φ cd (4 * c)) n ∧ r.2.2.1 6004 f = nI k) ∧ snS φ cd (4 * c) f = true)) ∧ fr (fun g => g = 6004) y r.2
  let I : Nat → ow_MS → Prop := fun s z => (∀ f, f < n → (z.2.1 6004 f = -1 ∧ snS φ cd s f = false ∨ (∃ k, k < nF (snS φ cd s) n ∧ z.2.1 6004 f = nI k) ∧ snS φ cd s f = true)) ∧ fr (fun g => g = 6004) y z
  have c1 : ∀ (d s : Nat) (z : ow_MS), s + d = 4 * c → I s z → Tt (fun K k => c_X4_numberRows vl K k 1 x2 x3 (nI (nF (snS φ cd s) n)) (nI s) 0 6000 4000 z) Q := by
    intro d
    induction d with
    | zero =>
      intro s z hs hz
      have hs : s = 4 * c := by omega
      subst hs
      refine u_X4_numberRows_1 ?_; unfold cm_X4_numberRows_1
      refine w_rdF ((hz.2 4008 (by omega)).1.trans h8) ?_
      rw [show (4 : Int32) * nI c = nI (4 * c) from pk_mul 4 c]
      exact w_leT (by omega) (by omega) (w_some ⟨rfl, hz.1, hz.2⟩)
    | succ d ih =>
      intro s z hs hz
      obtain ⟨p1, p2⟩ := hφ s (by omega)
      have hnl := nF_le (snS φ cd s) n
      have c2 : ∀ (m : Nat) (z1 : ow_MS), m = nF (snS φ cd (s + 1)) n → I (s + 1) z1 → Tt (fun K k => c_X4_numberRows vl K k 2 x2 x3 (nI m) (nI s) (nI (φ s)) 6000 4000 z1) Q := by
        intro m z1 hm h1
        refine u_X4_numberRows_2 ?_; unfold cm_X4_numberRows_2
        rw [nI_1, hm]
        exact ih (s + 1) z1 (by omega) h1
      -- nothing new
      have old : (cd s = false ∨ snS φ cd s (φ s) = true) → Tt (fun K k => c_X4_numberRows vl K k 2 x2 x3 (nI (nF (snS φ cd s) n)) (nI s) (nI (φ s)) 6000 4000 z) Q := by
        intro h9
        have e : ∀ f, snS φ cd (s + 1) f = snS φ cd s f := by
          intro f
          show (snS φ cd s f || (cd s && decide (φ s = f))) = _
          rcases h9 with h9 | h9
          · rw [h9, Bool.false_and, Bool.or_false]
          · by_cases e9 : φ s = f
            · rw [← e9, h9, Bool.true_or]
            · rw [decide_eq_false e9, Bool.and_false, Bool.or_false]
        have ef : snS φ cd (s + 1) = snS φ cd s := funext e
        refine c2 _ z (by rw [ef]) ?_
        show (∀ f, f < n → _) ∧ _
        rw [ef]
        exact hz
      refine u_X4_numberRows_1 ?_; unfold cm_X4_numberRows_1
      refine w_rdF ((hz.2 4008 (by omega)).1.trans h8) ?_
      rw [show (4 : Int32) * nI c = nI (4 * c) from pk_mul 4 c, rn_shr1 (by omega)]
      have r1 : z.2.1 6001 s = nI (φ s) := by rw [(hz.2 6001 (by omega)).2.1]; exact p1
      have r6 : z.2.1 4006 (s / 2) = y.2.1 4006 (s / 2) := by rw [(hz.2 4006 (by omega)).2.1]
      have r3 : z.2.1 6003 (φ s) = y.2.1 6003 (φ s) := by rw [(hz.2 6003 (by omega)).2.1]
      refine w_leF (by omega) (by omega) (w_crI cg_6001 rfl (by omega) r1 (w_crI cg_4006 rfl (by omega) r6 (w_if (fun a1 => w_crI cg_6003 rfl (by omega) r3 (w_if (fun a2 => ?_) (fun a2 => old (Or.inl (decide_eq_false (fun h9 => a2 h9.2)))))) (fun a1 => old (Or.inl (decide_eq_false (fun h9 => a1 h9.1)))))))
      have hcd : cd s = true := decide_eq_true ⟨a1, a2⟩
      rcases hz.1 (φ s) p2 with ⟨q1, q2⟩ | ⟨⟨k, q1, q3⟩, q2⟩
      · refine w_crI cg_6004 rfl (by omega) q1 (w_ifT rfl (w_ctI cg_6004 rfl (by omega) ?_))
        rw [nI_1]
        have hset := nF_set (q := snS φ cd s) (q' := snS φ cd (s + 1)) (a := φ s) q2 (by
          show (snS φ cd s (φ s) || (cd s && decide (φ s = φ s))) = true
          rw [hcd, decide_eq_true rfl]
          simp) (fun k hk => by
          show (snS φ cd s k || (cd s && decide (φ s = k))) = _
          rw [decide_eq_false (fun h9 => hk h9.symm), Bool.and_false, Bool.or_false]) n
        rw [if_pos p2] at hset
        refine c2 _ _ hset.symm ⟨fun f hf => ?_, fr_I2 hz.2 rfl⟩
        by_cases e : f = φ s
        · subst e
          refine Or.inr ⟨⟨nF (snS φ cd s) n, by omega, po_usI_at⟩, ?_⟩
          show (snS φ cd s (φ s) || (cd s && decide (φ s = φ s))) = true
          rw [hcd, decide_eq_true rfl]
          simp
        · have e2 : snS φ cd (s + 1) f = snS φ cd s f := by
            show (snS φ cd s f || (cd s && decide (φ s = f))) = _
            rw [decide_eq_false (fun h9 => e h9.symm), Bool.and_false, Bool.or_false]
          rcases hz.1 f hf with ⟨u1, u2⟩ | ⟨⟨k, u1, u3⟩, u2⟩
          · exact Or.inl ⟨(po_usI_ne e).trans u1, by rw [e2]; exact u2⟩
          · exact Or.inr ⟨⟨k, by omega, (po_usI_ne e).trans u3⟩, by rw [e2]; exact u2⟩
      · exact w_crI cg_6004 rfl (by omega) q3 (w_ifF (rn_neg1 (by omega)) (old (Or.inr q2)))
  have hz0 : nF (snS φ cd 0) n = 0 := by
    have key : ∀ m, nF (fun _ => false) m = 0 := by
      intro m
      induction m with
      | zero => rfl
      | succ m ih =>
        show nF (fun _ => false) m + (if false = true then 1 else 0) = 0
        rw [ih]
        rfl
    exact key n
  refine e_X4_numberRows ?_
  refine u_X4_numberRows_0 ?_; unfold cm_X4_numberRows_0
  refine w_rdF h2 (w_cs0 (tc_fill (a := 0) (b := n) cg_6004 (by omega) (by omega) (by omega)) ?_)
  rintro z1 ⟨f1, f2⟩
  have := c1 (4 * c) 0 z1 (by omega) ⟨fun f hf => Or.inl ⟨by rw [f1 f, if_pos (by omega)], rfl⟩, f2⟩
  rw [hz0] at this
  exact this
end NRW
end
section
/-! 99zzzzzzzza.cpnt -/
/-! the class: signature: faces of a part are painted -/
def fsV (y : ow_MS) (c : Nat) (x2 : Int32) (v0 : Nat) : Prop := v0 < 2 * c ∧ y.2.1 4006 v0 = x2 ∧ ∀ v, v < v0 → y.2.1 4006 v ≠ x2
/-- the two sides of the part's first gap have the colours 0 and 1 -/
def gdP (y z : ow_MS) (c : Nat) (φ : Nat → Nat) (x2 : Int32) : Prop := ∀ v0, fsV y c x2 v0 → φ (2 * v0) ≠ φ (2 * v0 + 1) → y.2.1 6003 (φ (2 * v0 + 1)) = -1 → z.2.1 6003 (φ (2 * v0)) = 0 ∧ z.2.1 6003 (φ (2 * v0 + 1)) = 1
def ouP (y z : ow_MS) (c : Nat) (φ : Nat → Nat) (x2 : Int32) : Prop := ∀ f, (∀ s, s < 4 * c → y.2.1 4006 (s / 2) = x2 → φ s ≠ f) → z.2.1 6003 f = y.2.1 6003 f
section PN
variable {vl : Nat → Nat} {y : ow_MS} {c n : Nat} {φ : Nat → Nat} {x2 : Int32}
theorem gdP_w {z : ow_MS} {f : Nat} {x : Int32} (hg : gdP y z c φ x2) (hf : z.2.1 6003 f = -1) : gdP y (usI z 6003 f x) c φ x2 := by
  intro v0 h1 h2 h3
  obtain ⟨g1, g2⟩ := hg v0 h1 h2 h3
  refine ⟨?_, ?_⟩
  · rw [po_usI_ne (fun h9 => by rw [h9, hf] at g1; exact absurd g1 (by decide))]
    exact g1
  · rw [po_usI_ne (fun h9 => by rw [h9, hf] at g2; exact absurd g2 (by decide))]
    exact g2
theorem ouP_w {z : ow_MS} {s : Nat} {x : Int32} (hs : s < 4 * c) (hp : y.2.1 4006 (s / 2) = x2) (h : ouP y z c φ x2) : ouP y (usI z 6003 (φ s) x) c φ x2 := by
  intro f hf
  rw [po_usI_ne (fun h9 => hf s hs hp h9.symm)]
  exact h f hf
theorem u_X4_paint_2 {vl : Nat → Nat} {x2 : Int32} {x3 : Int32} {x4 : Int32} {x5 : Int32} {x6 : Int32} {x7 : Int32} {x8 : Int32} {r0 : Nat} {r1 : Nat} {z : ow_MS} {Q : ow_MS → Prop} (H : Tt (fun K k => cm_X4_paint_2 vl K (c_X4_paint vl K k) x2 x3 x4 x5 x6 x7 x8 r0 r1 z) Q) : Tt (fun K k => c_X4_paint vl K k 2 x2 x3 x4 x5 x6 x7 x8 r0 r1 z) Q := w_un (fun _ _ => rfl) H
theorem u_X4_paint_5 {vl : Nat → Nat} {x2 : Int32} {x3 : Int32} {x4 : Int32} {x5 : Int32} {x6 : Int32} {x7 : Int32} {x8 : Int32} {r0 : Nat} {r1 : Nat} {z : ow_MS} {Q : ow_MS → Prop} (H : Tt (fun K k => cm_X4_paint_5 vl K (c_X4_paint vl K k) x2 x3 x4 x5 x6 x7 x8 r0 r1 z) Q) : Tt (fun K k => c_X4_paint vl K k 5 x2 x3 x4 x5 x6 x7 x8 r0 r1 z) Q := w_un (fun _ _ => rfl) H
theorem u_X4_paint_4 {vl : Nat → Nat} {x2 : Int32} {x3 : Int32} {x4 : Int32} {x5 : Int32} {x6 : Int32} {x7 : Int32} {x8 : Int32} {r0 : Nat} {r1 : Nat} {z : ow_MS} {Q : ow_MS → Prop} (H : Tt (fun K k => cm_X4_paint_4 vl K (c_X4_paint vl K k) x2 x3 x4 x5 x6 x7 x8 r0 r1 z) Q) : Tt (fun K k => c_X4_paint vl K k 4 x2 x3 x4 x5 x6 x7 x8 r0 r1 z) Q := w_un (fun _ _ => rfl) H
theorem u_X4_paint_3 {vl : Nat → Nat} {x2 : Int32} {x3 : Int32} {x4 : Int32} {x5 : Int32} {x6 : Int32} {x7 : Int32} {x8 : Int32} {r0 : Nat} {r1 : Nat} {z : ow_MS} {Q : ow_MS → Prop} (H : Tt (fun K k => cm_X4_paint_3 vl K (c_X4_paint vl K k) x2 x3 x4 x5 x6 x7 x8 r0 r1 z) Q) : Tt (fun K k => c_X4_paint vl K k 3 x2 x3 x4 x5 x6 x7 x8 r0 r1 z) Q := w_un (fun _ _ => rfl) H
theorem u_X4_paint_1 {vl : Nat → Nat} {x2 : Int32} {x3 : Int32} {x4 : Int32} {x5 : Int32} {x6 : Int32} {x7 : Int32} {x8 : Int32} {r0 : Nat} {r1 : Nat} {z : ow_MS} {Q : ow_MS → Prop} (H : Tt (fun K k => cm_X4_paint_1 vl K (c_X4_paint vl K k) x2 x3 x4 x5 x6 x7 x8 r0 r1 z) Q) : Tt (fun K k => c_X4_paint vl K k 1 x2 x3 x4 x5 x6 x7 x8 r0 r1 z) Q := w_un (fun _ _ => rfl) H
theorem e_X4_paint {vl : Nat → Nat} {r0 : Nat} {r1 : Nat} {x2 : Int32} {z : ow_MS} {Q : ow_MS → Prop} (H : Tt (fun K k => c_X4_paint vl K k 0 x2 0 0 0 0 0 0 r0 r1 z) Q) : Te (fun K => ce_X4_paint vl K r0 r1 x2 z) Q := w_te H
theorem u_X4_paint_0 {vl : Nat → Nat} {x2 : Int32} {x3 : Int32} {x4 : Int32} {x5 : Int32} {x6 : Int32} {x7 : Int32} {x8 : Int32} {r0 : Nat} {r1 : Nat} {z : ow_MS} {Q : ow_MS → Prop} (H : Tt (fun K k => cm_X4_paint_0 vl K (c_X4_paint vl K k) x2 x3 x4 x5 x6 x7 x8 r0 r1 z) Q) : Tt (fun K k => c_X4_paint vl K k 0 x2 x3 x4 x5 x6 x7 x8 r0 r1 z) Q := w_un (fun _ _ => rfl) H
theorem tc_paint (h8 : y.1 4008 = nI c) (hc : c ≤ 12) (hn : n ≤ 48) (hφ : ∀ s, s < 4 * c → y.2.1 6001 s = nI (φ s) ∧ φ s < n) : Te (fun K => ce_X4_paint vl K 6000 4000 x2 y) (fun y1 => fr (fun g => g = 6003) y y1 ∧ ouP y y1 c φ x2 ∧ gdP y y1 c φ x2) := by
  let Q : ow_MS → Prop := fun y1 => fr (fun g => g = 6003) y y1 ∧ ouP y y1 c φ x2 ∧ gdP y y1 c φ x2
  let B : ow_MS → Prop := fun z => fr (fun g => g = 6003) y z ∧ ouP y z c φ x2
  -- one pass
  have pass : ∀ (x5 : Int32), (∀ (x3 x4 : Int32) (z : ow_MS), B z → gdP y z c φ x2 → (x3 = 1 ∨ x3 = 0 ∧ z.2.1 6003 = y.2.1 6003 ∧ ∀ v, v < 2 * c → y.2.1 4006 v ≠ x2) → Tt (fun K k => c_X4_paint vl K k 1 x2 x3 x4 (x5 + 1) 0 0 0 6000 4000 z) Q) → ∀ (d v : Nat) (x3 x4 : Int32) (z : ow_MS), v + d = 2 * c → B z → (x3 = 1 ∧ gdP y z c φ x2 ∨ x3 = 0 ∧ z.2.1 6003 = y.2.1 6003 ∧ ∀ u, u < v → y.2.1 4006 u ≠ x2) → Tt (fun K k => c_X4_paint vl K k 2 x2 x3 x4 x5 (nI v) 0 0 6000 4000 z) Q := by
    intro x5 hnext d
    induction d with
    | zero =>
      intro v x3 x4 z hv hB hJ
      refine u_X4_paint_2 ?_; unfold cm_X4_paint_2
      refine w_rdF ((hB.1 4008 (by omega)).1.trans h8) ?_
      rw [rn_mul2]
      refine w_leT (by omega) (by omega) ?_
      rcases hJ with ⟨j1, j2⟩ | ⟨j1, j2, j3⟩
      · exact hnext x3 x4 z hB j2 (Or.inl j1)
      · have j3' : ∀ u, u < 2 * c → y.2.1 4006 u ≠ x2 := fun u hu => j3 u (by omega)
        exact hnext x3 x4 z hB (fun v0 h1 _ _ => absurd h1.2.1 (j3' v0 h1.1)) (Or.inr ⟨j1, j2, j3'⟩)
    | succ d ih =>
      intro v x3 x4 z hv hB hJ
      obtain ⟨a1, a2⟩ := hφ (2 * v) (by omega)
      obtain ⟨b1, b2⟩ := hφ (2 * v + 1) (by omega)
      have c5 : ∀ (x3 x4 : Int32) (z : ow_MS), B z → (x3 = 1 ∧ gdP y z c φ x2 ∨ x3 = 0 ∧ z.2.1 6003 = y.2.1 6003 ∧ ∀ u, u < v + 1 → y.2.1 4006 u ≠ x2) → Tt (fun K k => c_X4_paint vl K k 5 x2 x3 x4 x5 (nI v) 0 0 6000 4000 z) Q := by
        intro x3 x4 z hB hJ
        refine u_X4_paint_5 ?_; unfold cm_X4_paint_5
        rw [nI_1]
        exact ih (v + 1) x3 x4 z (by omega) hB hJ
      have wr1 : ∀ (z : ow_MS) (x : Int32), y.2.1 4006 v = x2 → B z → B (usI z 6003 (φ (2 * v)) x) := fun z x hp hB => ⟨fr_I2 hB.1 rfl, ouP_w (by omega) (by rw [show 2 * v / 2 = v by omega]; exact hp) hB.2⟩
      have wr2 : ∀ (z : ow_MS) (x : Int32), y.2.1 4006 v = x2 → B z → B (usI z 6003 (φ (2 * v + 1)) x) := fun z x hp hB => ⟨fr_I2 hB.1 rfl, ouP_w (by omega) (by rw [show (2 * v + 1) / 2 = v by omega]; exact hp) hB.2⟩
      have c4 : ∀ (x4 : Int32) (z : ow_MS), y.2.1 4006 v = x2 → B z → gdP y z c φ x2 → Tt (fun K k => c_X4_paint vl K k 4 x2 1 x4 x5 (nI v) (nI (φ (2 * v))) (nI (φ (2 * v + 1))) 6000 4000 z) Q := by
        intro x4 z hp hB hg
        refine u_X4_paint_4 ?_; unfold cm_X4_paint_4
        refine w_crI cg_6003 rfl (by omega) rfl (w_if (fun e1 => w_crI cg_6003 rfl (by omega) rfl (w_if (fun _ => c5 _ _ z hB (Or.inl ⟨rfl, hg⟩)) (fun _ => w_crI cg_6003 rfl (by omega) rfl (w_ctI cg_6003 rfl (by omega) (c5 _ _ _ (wr1 z _ hp hB) (Or.inl ⟨rfl, gdP_w hg e1⟩)))))) (fun _ => c5 _ _ z hB (Or.inl ⟨rfl, hg⟩)))
      have c3 : ∀ (x4 : Int32) (z : ow_MS), y.2.1 4006 v = x2 → B z → gdP y z c φ x2 → Tt (fun K k => c_X4_paint vl K k 3 x2 1 x4 x5 (nI v) (nI (φ (2 * v))) (nI (φ (2 * v + 1))) 6000 4000 z) Q := by
        intro x4 z hp hB hg
        refine u_X4_paint_3 ?_; unfold cm_X4_paint_3
        refine w_crI cg_6003 rfl (by omega) rfl (w_if (fun _ => c4 x4 z hp hB hg) (fun _ => w_crI cg_6003 rfl (by omega) rfl (w_if (fun e1 => w_crI cg_6003 rfl (by omega) rfl (w_ctI cg_6003 rfl (by omega) (c5 _ _ _ (wr2 z _ hp hB) (Or.inl ⟨rfl, gdP_w hg e1⟩)))) (fun _ => c4 x4 z hp hB hg))))
      have r6 : z.2.1 4006 v = y.2.1 4006 v := by rw [(hB.1 4006 (by omega)).2.1]
      have r1 : z.2.1 6001 (2 * v) = nI (φ (2 * v)) := by rw [(hB.1 6001 (by omega)).2.1]; exact a1
      have r2 : z.2.1 6001 (2 * v + 1) = nI (φ (2 * v + 1)) := by rw [(hB.1 6001 (by omega)).2.1]; exact b1
      refine u_X4_paint_2 ?_; unfold cm_X4_paint_2
      refine w_rdF ((hB.1 4008 (by omega)).1.trans h8) ?_
      rw [rn_mul2, rn_mul2, nI_1]
      refine w_leF (by omega) (by omega) (w_crI cg_4006 rfl (by omega) r6 (w_if (fun hp => w_crI cg_6001 rfl (by omega) r1 (w_crI cg_6001 rfl (by omega) r2 ?_)) (fun hp => c5 _ _ z hB ?_)))
      · rcases hJ with ⟨j1, j2⟩ | ⟨j1, j2, j3⟩
        · subst j1
          exact w_ifF (by decide) (c3 x4 z hp hB j2)
        · subst j1
          refine w_ifT rfl (w_ctI cg_6003 rfl (by omega) ?_)
          -- the first visit
          have hB1 := wr1 z 0 hp hB
          have hat : (usI z (6000 + 3) (φ (2 * v)) 0).2.1 6003 (φ (2 * v)) = 0 := po_usI_at
          have one : ∀ z1, (∀ v0, v0 = v → φ (2 * v0) ≠ φ (2 * v0 + 1) → y.2.1 6003 (φ (2 * v0 + 1)) = -1 → z1.2.1 6003 (φ (2 * v0)) = 0 ∧ z1.2.1 6003 (φ (2 * v0 + 1)) = 1) → gdP y z1 c φ x2 := by
            intro z1 h1 v0 g1 g2 g3
            refine h1 v0 ?_ g2 g3
            rcases Nat.lt_trichotomy v0 v with h9 | h9 | h9
            · exact absurd g1.2.1 (j3 v0 h9)
            · exact h9
            · exact absurd hp (g1.2.2 v h9)
          have c4' : ∀ (x4 : Int32), (¬ (usI z (6000 + 3) (φ (2 * v)) 0).2.1 6003 (φ (2 * v + 1)) = -1) → Tt (fun K k => c_X4_paint vl K k 4 x2 1 x4 x5 (nI v) (nI (φ (2 * v))) (nI (φ (2 * v + 1))) 6000 4000 (usI z (6000 + 3) (φ (2 * v)) 0)) Q := by
            intro x4 hne
            refine c4 x4 _ hp hB1 (one _ ?_)
            rintro v0 rfl g2 g3
            refine absurd ?_ hne
            rw [po_usI_ne (fun h9 => g2 h9.symm), j2]
            exact g3
          refine u_X4_paint_3 ?_; unfold cm_X4_paint_3
          refine w_crI cg_6003 rfl (by omega) hat (w_ifF (by decide) (w_crI cg_6003 rfl (by omega) rfl (w_if (fun e1 => w_crI cg_6003 rfl (by omega) hat (w_ctI cg_6003 rfl (by omega) (c5 _ _ _ (wr2 _ _ hp hB1) (Or.inl ⟨rfl, one _ ?_⟩)))) (fun e1 => c4' x4 e1))))
          rintro v0 rfl g2 g3
          exact ⟨(po_usI_ne g2).trans hat, po_usI_at⟩
      · rcases hJ with ⟨j1, j2⟩ | ⟨j1, j2, j3⟩
        · exact Or.inl ⟨j1, j2⟩
        · refine Or.inr ⟨j1, j2, fun u hu => ?_⟩
          by_cases e : u = v
          · rw [e]
            exact hp
          · exact j3 u (by omega)
  have c1 : ∀ (d i : Nat) (x3 x4 : Int32) (z : ow_MS), i + d = 48 → B z → gdP y z c φ x2 → (x3 = 1 ∨ x3 = 0 ∧ z.2.1 6003 = y.2.1 6003 ∧ ∀ v, v < 2 * c → y.2.1 4006 v ≠ x2) → Tt (fun K k => c_X4_paint vl K k 1 x2 x3 x4 (nI i) 0 0 0 6000 4000 z) Q := by
    intro d
    induction d with
    | zero =>
      intro i x3 x4 z hi hB hg _
      refine u_X4_paint_1 ?_; unfold cm_X4_paint_1
      exact w_leT (a := 48) (b := i) (by omega) (by omega) (w_some ⟨hB.1, hB.2, hg⟩)
    | succ d ih =>
      intro i x3 x4 z hi hB hg hJ
      refine u_X4_paint_1 ?_; unfold cm_X4_paint_1
      refine w_leF (a := 48) (b := i) (by omega) (by omega) (w_if (fun _ => w_some ⟨hB.1, hB.2, hg⟩) (fun _ => ?_))
      refine pass (nI i) (fun x3 x4 z h1 h2 h3 => ?_) (2 * c) 0 x3 0 z (by omega) hB ?_
      · rw [nI_1]
        exact ih (i + 1) x3 x4 z (by omega) h1 h2 h3
      · rcases hJ with j1 | ⟨j1, j2, -⟩
        · exact Or.inl ⟨j1, hg⟩
        · exact Or.inr ⟨j1, j2, fun u hu => absurd hu (Nat.not_lt_zero _)⟩
  refine e_X4_paint ?_
  refine u_X4_paint_0 ?_; unfold cm_X4_paint_0
  refine u_X4_paint_1 ?_; unfold cm_X4_paint_1
  refine w_leF (a := 48) (b := 0) (by omega) (by omega) (w_ifF (by decide) ?_)
  refine pass 0 (fun x3 x4 z h1 h2 h3 => ?_) (2 * c) 0 0 0 y (by omega) ⟨fr_rf, fun f _ => rfl⟩ (Or.inr ⟨rfl, rfl, fun u hu => absurd hu (Nat.not_lt_zero _)⟩)
  exact c1 47 1 x3 x4 z (by omega) h1 h2 h3
end PN
end
section
/-! 99zzzzzzzzb.csgp -/
/-! the class: signature of a part -/
theorem cdN_fr {P : Nat → Prop} {y z : ow_MS} {φ : Nat → Nat} {x2 x3 : Int32} (hf : fr P y z) (h1 : ¬ P 4006) (h2 : ¬ P 6003) : cdN z φ x2 x3 = cdN y φ x2 x3 := by
  funext s
  unfold cdN
  rw [(hf _ h1).2.1, (hf _ h2).2.1]
theorem nF_two {q1 q2 q : Nat → Bool} (h1 : ∀ k, q1 k = true → q k = true ∧ q2 k = false) (h2 : ∀ k, q2 k = true → q k = true) : ∀ n, nF q1 n + nF q2 n ≤ nF q n
  | 0 => Nat.le_refl _
  | n + 1 => by
    have ih := nF_two h1 h2 n
    show nF q1 n + _ + (nF q2 n + _) ≤ nF q n + _
    cases e1 : q1 n with
    | true =>
      obtain ⟨a, b⟩ := h1 n e1
      rw [a, b]
      simp
      omega
    | false =>
      cases e2 : q2 n with
      | true =>
        rw [h2 n e2]
        simp
        omega
      | false =>
        simp
        split <;> omega
section SP
variable {vl : Nat → Nat} {y : ow_MS} {c n : Nat} {φ : Nat → Nat} {x2 x3 : Int32}
def cntR (y : ow_MS) (c n : Nat) (φ : Nat → Nat) (x2 x3 : Int32) : Nat := nF (snS φ (cdN y φ x2 x3) (4 * c)) n
theorem cntR_fr {P : Nat → Prop} {z : ow_MS} (hf : fr P y z) (h1 : ¬ P 4006) (h2 : ¬ P 6003) : cntR z c n φ x2 x3 = cntR y c n φ x2 x3 := by
  unfold cntR
  rw [cdN_fr hf h1 h2]
theorem e_X4_rarerColour {vl : Nat → Nat} {r0 : Nat} {r1 : Nat} {x2 : Int32} {z : ow_MS} {Q : (Int32 × ow_MS) → Prop} (H : Tt (fun K _ => cm_X4_rarerColour_0 vl K x2 r0 r1 z) Q) : Te (fun K => ce_X4_rarerColour vl K r0 r1 x2 z) Q := w_te0 H
theorem tc_rarer (h8 : y.1 4008 = nI c) (hc : c ≤ 12) (h2 : y.1 6002 = nI n) (hn : n ≤ 48) (hφ : ∀ s, s < 4 * c → y.2.1 6001 s = nI (φ s) ∧ φ s < n) : Te (fun K => ce_X4_rarerColour vl K 6000 4000 x2 y) (fun r => (r.1 = 0 ∧ cntR y c n φ x2 0 ≤ cntR y c n φ x2 1 ∨ r.1 = 1 ∧ cntR y c n φ x2 1 < cntR y c n φ x2 0) ∧ fr (fun g => g = 6004) y r.2) := by
  have l0 : cntR y c n φ x2 0 ≤ n := nF_le _ _
  have l1 : cntR y c n φ x2 1 ≤ n := nF_le _ _
  refine e_X4_rarerColour ?_; unfold cm_X4_rarerColour_0
  refine w_cs1 (tc_numRows (x3 := 0) h8 hc h2 hn hφ) ?_
  rintro v1 z1 ⟨e1, -, f1⟩
  refine w_cs1 (tc_numRows (x3 := 1) (n := n) (φ := φ) ((f1 4008 (by omega)).1.trans h8) hc ((f1 6002 (by omega)).1.trans h2) hn (fun s hs => by
    rw [(f1 6001 (by omega)).2.1]
    exact hφ s hs)) ?_
  rintro v2 z2 ⟨e2, -, f2⟩
  have e1 : v1 = nI (cntR y c n φ x2 0) := e1
  have e2 : v2 = nI (cntR z1 c n φ x2 1) := e2
  rw [cntR_fr f1 (by omega) (by omega)] at e2
  rw [e1, e2]
  exact w_lt (by omega) (by omega) (fun h => w_some ⟨Or.inr ⟨rfl, h⟩, fr_tr f1 f2⟩) (fun h => w_some ⟨Or.inl ⟨rfl, h⟩, fr_tr f1 f2⟩)
def spP (g : Nat) : Prop := g = 6004 ∨ g = 6005 ∨ fcP g
theorem mt_x {t : Nat} (h : t < 24) : nI t ^^^ 1 = nI (mt t) := by
  have key : ∀ t : Fin 24, nI t.val ^^^ 1 = nI (mt t.val) := by decide +kernel
  exact key ⟨t, h⟩
theorem u_X4_signatureOfPart_1 {vl : Nat → Nat} {x2 : Int32} {x3 : Int32} {x4 : Int32} {x5 : Int32} {x6 : Int32} {r0 : Nat} {r1 : Nat} {t0 : Int32} {z : ow_MS} {Q : (Int32 × ow_MS) → Prop} (H : Tt (fun K k => cm_X4_signatureOfPart_1 vl K (c_X4_signatureOfPart vl K k) x2 x3 x4 x5 x6 r0 r1 t0 z) Q) : Tt (fun K k => c_X4_signatureOfPart vl K k 1 x2 x3 x4 x5 x6 r0 r1 t0 z) Q := w_un (fun _ _ => rfl) H
theorem u_X4_signatureOfPart_3 {vl : Nat → Nat} {x2 : Int32} {x3 : Int32} {x4 : Int32} {x5 : Int32} {x6 : Int32} {r0 : Nat} {r1 : Nat} {t0 : Int32} {z : ow_MS} {Q : (Int32 × ow_MS) → Prop} (H : Tt (fun K k => cm_X4_signatureOfPart_3 vl K (c_X4_signatureOfPart vl K k) x2 x3 x4 x5 x6 r0 r1 t0 z) Q) : Tt (fun K k => c_X4_signatureOfPart vl K k 3 x2 x3 x4 x5 x6 r0 r1 t0 z) Q := w_un (fun _ _ => rfl) H
theorem u_X4_signatureOfPart_2 {vl : Nat → Nat} {x2 : Int32} {x3 : Int32} {x4 : Int32} {x5 : Int32} {x6 : Int32} {r0 : Nat} {r1 : Nat} {t0 : Int32} {z : ow_MS} {Q : (Int32 × ow_MS) → Prop} (H : Tt (fun K k => cm_X4_signatureOfPart_2 vl K (c_X4_signatureOfPart vl K k) x2 x3 x4 x5 x6 r0 r1 t0 z) Q) : Tt (fun K k => c_X4_signatureOfPart vl K k 2 x2 x3 x4 x5 x6 r0 r1 t0 z) Q := w_un (fun _ _ => rfl) H
theorem e_X4_signatureOfPart {vl : Nat → Nat} {r0 : Nat} {r1 : Nat} {x2 : Int32} {x3 : Int32} {z : ow_MS} {Q : (Int32 × ow_MS) → Prop} (H : Tt (fun K k => c_X4_signatureOfPart vl K k 0 x2 x3 0 0 0 r0 r1 0 z) Q) : Te (fun K => ce_X4_signatureOfPart vl K r0 r1 x2 x3 z) Q := w_te H
theorem u_X4_signatureOfPart_0 {vl : Nat → Nat} {x2 : Int32} {x3 : Int32} {x4 : Int32} {x5 : Int32} {x6 : Int32} {r0 : Nat} {r1 : Nat} {t0 : Int32} {z : ow_MS} {Q : (Int32 × ow_MS) → Prop} (H : Tt (fun K k => cm_X4_signatureOfPart_0 vl K (c_X4_signatureOfPart vl K k) x2 x3 x4 x5 x6 r0 r1 t0 z) Q) : Tt (fun K k => c_X4_signatureOfPart vl K k 0 x2 x3 x4 x5 x6 r0 r1 t0 z) Q := w_un (fun _ _ => rfl) H
theorem tc_sgPart {T : ow_NT} (hy : cAt y 4000 T) (hv : vn T.1 T.2.2.1) (hc : T.1 ≤ 12) (h2 : y.1 6002 = nI n) (hn : n ≤ 48) (hφ : ∀ s, s < 4 * T.1 → y.2.1 6001 s = nI (φ s) ∧ φ s < n) (hR1 : 1 ≤ cntR y T.1 n φ x2 x3) (hR9 : cntR y T.1 n φ x2 x3 ≤ 9) : Te (fun K => ce_X4_signatureOfPart vl K 6000 4000 x2 x3 y) (fun r => fr spP y r.2) := by
  let Q : Int32 × ow_MS → Prop := fun r => fr spP y r.2
  generalize hm : cntR y T.1 n φ x2 x3 - 1 = m
  have hm8 : m ≤ 8 := by omega
  let I : ow_MS → Prop := fun z => fr (fun g => g = 6004 ∨ g = 6005) y z
  have c1 : ∀ (d x : Nat) (x5 : Int32) (z : ow_MS), x + d = T.1 → I z → Tt (fun K k => c_X4_signatureOfPart vl K k 1 x2 x3 (nI m) x5 (nI x) 6000 4000 0 z) Q := by
    intro d
    induction d with
    | zero =>
      intro x x5 z hx hz
      refine u_X4_signatureOfPart_1 ?_; unfold cm_X4_signatureOfPart_1
      refine w_rdF ((hz 4008 (by omega)).1.trans hy.1) (w_leT (by omega) (by omega) (w_cs1 (tc_eigen hm8) ?_))
      rintro v z1 f1
      exact w_some (fr_tr (fr_mono (fun g hg => by unfold spP; rcases hg with h | h; exact Or.inl h; exact Or.inr (Or.inl h)) hz) (fr_mono (fun g hg => Or.inr (Or.inr hg)) f1))
    | succ d ih =>
      intro x x5 z hx hz
      have c3 : ∀ (x5 : Int32) (z : ow_MS), I z → Tt (fun K k => c_X4_signatureOfPart vl K k 3 x2 x3 (nI m) x5 (nI x) 6000 4000 0 z) Q := by
        intro x5 z hz
        refine u_X4_signatureOfPart_3 ?_; unfold cm_X4_signatureOfPart_3
        rw [nI_1]
        exact ih (x + 1) x5 z (by omega) hz
      have ad : ∀ (z z1 : ow_MS), I z → fr (fun g => g = 6005) z z1 → I z1 := fun z z1 h1 h3 => fr_tr h1 (fr_mono (fun g hg => Or.inr hg) h3)
      have c2 : ∀ t : Nat, t < 2 * T.1 → Tt (fun K k => c_X4_signatureOfPart vl K k 2 x2 x3 (nI m) x5 (nI x) 6000 4000 (nI t) z) Q := by
        intro t ht
        have hmt := mt_lt ht
        have v1 := (hv t ht).2.1
        have v2 := (hv (mt t) hmt).2.1
        have fc : ∀ s, s < 4 * T.1 → z.2.1 6001 s = nI (φ s) ∧ φ s < n := fun s hs => by
          rw [(hz 6001 (by omega)).2.1]
          exact hφ s hs
        have pv : ∀ v, z.2.1 4002 v = nI (T.2.2.1.2 v) := fun v => by
          rw [(hz 4002 (by omega)).2.1]
          exact hy.2.2.2.1 v
        obtain ⟨f1, f2⟩ := fc (2 * t) (by omega)
        obtain ⟨g1, g2⟩ := fc (2 * t + 1) (by omega)
        obtain ⟨j1, j2⟩ := fc (2 * T.2.2.1.2 t) (by omega)
        obtain ⟨k1, k2⟩ := fc (2 * T.2.2.1.2 (mt t)) (by omega)
        refine u_X4_signatureOfPart_2 ?_; unfold cm_X4_signatureOfPart_2
        rw [rn_mul2, mt_x (by omega), nI_1]
        refine w_crI cg_6001 rfl (by omega) f1 (w_crI cg_6003 rfl (by omega) rfl (w_if (fun _ => ?_) (fun _ => ?_)))
        · refine w_crI (len := 24) rfl rfl (by omega) (pv (mt t)) ?_
          rw [rn_mul2]
          refine w_crI cg_6001 rfl (by omega) k1 (w_crI cg_6004 rfl (by omega) rfl (w_crI cg_6004 rfl (by omega) rfl (w_crI (len := 12) rfl rfl (by omega) rfl (w_cs0 (tc_addAt hm8) (fun z1 h1 => c3 _ z1 (ad z z1 hz h1))))))
        · refine w_crI cg_6001 rfl (by omega) g1 (w_crI (len := 24) rfl rfl (by omega) (pv t) ?_)
          rw [rn_mul2]
          refine w_crI cg_6001 rfl (by omega) j1 (w_crI cg_6004 rfl (by omega) rfl (w_crI cg_6004 rfl (by omega) rfl (w_crI (len := 12) rfl rfl (by omega) rfl (w_cs0 (tc_addAt hm8) (fun z1 h1 => w_crI (len := 12) rfl rfl (by omega) rfl (c3 _ z1 (ad z z1 hz h1)))))))
      refine u_X4_signatureOfPart_1 ?_; unfold cm_X4_signatureOfPart_1
      rw [rn_mul2, nI_1]
      exact w_rdF ((hz 4008 (by omega)).1.trans hy.1) (w_leF (by omega) (by omega) (w_crI cg_4006 rfl (by omega) rfl (w_if (fun _ => w_crI (len := 12) rfl rfl (by omega) rfl (w_if (fun _ => c2 (2 * x + 1) (by omega)) (fun _ => c2 (2 * x) (by omega)))) (fun _ => c3 _ z hz))))
  refine e_X4_signatureOfPart ?_
  refine u_X4_signatureOfPart_0 ?_; unfold cm_X4_signatureOfPart_0
  refine w_cs1 (tc_numRows (x3 := x3) hy.1 hc h2 hn hφ) ?_
  rintro v1 z1 ⟨e1, -, f1⟩
  have e1 : v1 = nI (cntR y T.1 n φ x2 x3) := e1
  refine w_cs0 (tc_fillJ ch_6005 (by omega)) ?_
  rintro z2 ⟨-, f2⟩
  rw [e1, show nI (cntR y T.1 n φ x2 x3) - 1 = nI (cntR y T.1 n φ x2 x3 - 1) from pk_sub (b := 1) hR1, hm]
  exact c1 T.1 0 _ z2 (by omega) (fr_tr (fr_mono (fun g hg => Or.inl hg) f1) (fr_mono (fun g hg => Or.inr hg) f2))
end SP
end
section
/-! 99zzzzzzzzc.cfac -/
/-! labels of rounds: what is the same along rounds is the same at one label; counting by parts -/
section MR
variable {β : Type} {N : Nat → Nat} {vs : Nat} {κ : Nat → β} {x : Int32}
theorem mr_in_k (hN : ∀ a, a < vs → N a < vs ∧ κ (N a) = κ a) : ∀ (d : Nat) (F : Nat → Int32) (v : Nat), v < vs → ∀ k, mr_in N x d F v k = F k ∨ (mr_in N x d F v k = x ∧ F k = -1 ∧ κ k = κ v)
  | 0, F, v, _, k => Or.inl rfl
  | d + 1, F, v, hv, k => by
    show (if F v = -1 then mr_in N x d (su F v x) (N v) else F) k = _ ∨ (if F v = -1 then mr_in N x d (su F v x) (N v) else F) k = _ ∧ _
    by_cases h : F v = -1
    · rw [if_pos h]
      have ih := mr_in_k hN d (su F v x) (N v) (hN v hv).1 k
      by_cases e : k = v
      · subst e
        have e1 : su F k x k = x := if_pos rfl
        rcases ih with ih | ⟨i1, -, -⟩
        · exact Or.inr ⟨ih.trans e1, h, rfl⟩
        · exact Or.inr ⟨i1, h, rfl⟩
      · have e1 : su F v x k = F k := if_neg e
        rcases ih with ih | ⟨i1, i2, i3⟩
        · exact Or.inl (ih.trans e1)
        · exact Or.inr ⟨i1, e1 ▸ i2, i3.trans (hN v hv).2⟩
    · rw [if_neg h]
      exact Or.inl rfl
theorem mr_in_v (hN : ∀ a, a < vs → N a < vs ∧ κ (N a) = κ a) {d : Nat} {F : Nat → Int32} {v : Nat} (hv : v < vs) (h : F v = -1) : mr_in N x (d + 1) F v v = x := by
  show (if F v = -1 then mr_in N x d (su F v x) (N v) else F) v = x
  rw [if_pos h]
  have e1 : su F v x v = x := if_pos rfl
  rcases mr_in_k (x := x) hN d (su F v x) (N v) (hN v hv).1 v with i | ⟨i, -, -⟩
  · exact i.trans e1
  · exact i
def mrI (κ : Nat → β) (vs n : Nat) (R : (Nat → Int32) × Nat) : Prop := R.2 ≤ n ∧ (∀ k, k < vs → R.1 k = -1 ∨ ∃ r, r < R.2 ∧ R.1 k = nI r) ∧ (∀ k, k < n → R.1 k ≠ -1) ∧ (∀ r, r < R.2 → ∃ k, k < vs ∧ R.1 k = nI r) ∧ ∀ j k, j < vs → k < vs → R.1 j ≠ -1 → R.1 j = R.1 k → κ j = κ k
theorem mr_out_k (hN : ∀ a, a < vs → N a < vs ∧ κ (N a) = κ a) {F : Nat → Int32} (hF : ∀ k, k < vs → F k = -1) (hvs : vs ≤ 48) : ∀ n, n ≤ vs → mrI κ vs n (mr_out N vs F n)
  | 0, _ => ⟨Nat.le_refl _, fun k hk => Or.inl (hF k hk), fun k hk => absurd hk (Nat.not_lt_zero _), fun r hr => absurd hr (Nat.not_lt_zero _), fun j k hj _ h9 _ => absurd (hF j hj) h9⟩
  | n + 1, hn => by
    obtain ⟨i1, i2, i3, i4, i5⟩ := mr_out_k hN hF hvs n (by omega)
    show mrI κ vs (n + 1) (if (mr_out N vs F n).1 n = -1 then (mr_in N (nI (mr_out N vs F n).2) vs (mr_out N vs F n).1 n, (mr_out N vs F n).2 + 1) else mr_out N vs F n)
    generalize mr_out N vs F n = R at i1 i2 i3 i4 i5
    obtain ⟨L, m⟩ := R
    dsimp only at i1 i2 i3 i4 i5 ⊢
    by_cases h : L n = -1
    · rw [if_pos h]
      have hx : nI m ≠ -1 := rn_neg1 (by omega)
      have key := mr_in_k (x := nI m) hN vs L n (by omega)
      have hnv : mr_in N (nI m) vs L n n = nI m := by
        obtain ⟨d, hd⟩ : ∃ d, vs = d + 1 := ⟨vs - 1, by omega⟩
        have := mr_in_v (x := nI m) (d := d) hN (show n < vs by omega) h
        rw [← hd] at this
        exact this
      have lbl : ∀ k, k < vs → L k ≠ -1 → ∃ r, r < m ∧ L k = nI r := fun k hk h9 => (i2 k hk).resolve_left h9
      refine ⟨?_, fun k hk => ?_, fun k hk => ?_, fun r hr => ?_, fun j k hj hk h1 h2 => ?_⟩
      · show m + 1 ≤ n + 1
        omega
      · show mr_in N (nI m) vs L n k = -1 ∨ ∃ r, r < m + 1 ∧ mr_in N (nI m) vs L n k = nI r
        rcases key k with e | ⟨e, -, -⟩
        · rw [e]
          rcases i2 k hk with q | ⟨r, r1, r2⟩
          · exact Or.inl q
          · exact Or.inr ⟨r, by omega, r2⟩
        · exact Or.inr ⟨m, by omega, e⟩
      · show mr_in N (nI m) vs L n k ≠ -1
        by_cases e9 : k = n
        · rw [e9, hnv]
          exact hx
        · rcases key k with e | ⟨e, -, -⟩
          · rw [e]
            exact i3 k (by omega)
          · rw [e]
            exact hx
      · show ∃ k, k < vs ∧ mr_in N (nI m) vs L n k = nI r
        have hr : r < m + 1 := hr
        by_cases e9 : r = m
        · exact ⟨n, by omega, by rw [e9]; exact hnv⟩
        · obtain ⟨k, k1, k2⟩ := i4 r (by omega)
          refine ⟨k, k1, ?_⟩
          rcases key k with e | ⟨-, e, -⟩
          · rw [e, k2]
          · rw [k2] at e
            exact absurd e (rn_neg1 (by omega))
      · have h1 : mr_in N (nI m) vs L n j ≠ -1 := h1
        have h2 : mr_in N (nI m) vs L n j = mr_in N (nI m) vs L n k := h2
        have nom : ∀ k, k < vs → mr_in N (nI m) vs L n k = L k → L k ≠ -1 → mr_in N (nI m) vs L n k ≠ nI m := by
          intro k hk e h9 h8
          obtain ⟨r, r1, r2⟩ := lbl k hk h9
          rw [e, r2] at h8
          have := nI_inj9 (by omega) (by omega) h8
          omega
        rcases key j with e | ⟨e, e2, e3⟩
        · rcases key k with g | ⟨g, g2, g3⟩
          · rw [e] at h1 h2
            rw [g] at h2
            exact i5 j k hj hk h1 h2
          · exact absurd (h2.trans g) (nom j hj e (by rw [← e]; exact h1))
        · rcases key k with g | ⟨g, g2, g3⟩
          · have : mr_in N (nI m) vs L n k = nI m := h2.symm.trans e
            have hk9 : L k ≠ -1 := by
              rw [← g, this]
              exact hx
            exact absurd this (nom k hk g hk9)
          · exact e3.trans g3.symm
    · rw [if_neg h]
      refine ⟨?_, i2, fun k hk => ?_, i4, i5⟩
      · show m ≤ n + 1
        omega
      · by_cases e9 : k = n
        · rw [e9]
          exact h
        · exact i3 k (by omega)
end MR
def sumQ (g : Nat → Nat) : Nat → Nat
  | 0 => 0
  | n + 1 => sumQ g n + g n
theorem sumQ_add (g h : Nat → Nat) : ∀ P, sumQ (fun p => g p + h p) P = sumQ g P + sumQ h P
  | 0 => rfl
  | P + 1 => by
    show sumQ (fun p => g p + h p) P + (g P + h P) = sumQ g P + g P + (sumQ h P + h P)
    rw [sumQ_add g h P]
    omega
theorem sumQ_one (a : Nat) : ∀ P, sumQ (fun p => if decide (a = p) = true then 1 else 0) P = if a < P then 1 else 0
  | 0 => rfl
  | P + 1 => by
    show sumQ _ P + (if decide (a = P) = true then 1 else 0) = _
    rw [sumQ_one a P]
    by_cases e : a = P
    · subst e
      rw [if_neg (Nat.lt_irrefl _), if_pos (Nat.lt_succ_self _), decide_eq_true rfl]
      rfl
    · rw [decide_eq_false e]
      by_cases h : a < P
      · rw [if_pos h, if_pos (show a < P + 1 by omega)]
        rfl
      · rw [if_neg h, if_neg (show ¬ a < P + 1 by omega)]
        rfl
theorem sumQ_nF (ψ : Nat → Nat) (P : Nat) : ∀ n, (∀ f, f < n → ψ f < P) → sumQ (fun p => nF (fun f => decide (ψ f = p)) n) P = n
  | 0, _ => by
    have : ∀ P, sumQ (fun p => nF (fun f => decide (ψ f = p)) 0) P = 0 := by
      intro P
      induction P with
      | zero => rfl
      | succ P ih =>
        show sumQ _ P + 0 = 0
        rw [ih]
    exact this P
  | n + 1, h => by
    have := sumQ_add (fun p => nF (fun f => decide (ψ f = p)) n) (fun p => if decide (ψ n = p) = true then 1 else 0) P
    rw [sumQ_nF ψ P n (fun f hf => h f (by omega)), sumQ_one, if_pos (h n (by omega))] at this
    exact this
theorem sumQ_low {g : Nat → Nat} : ∀ P, (∀ q, q < P → 2 ≤ g q) → 2 * P ≤ sumQ g P
  | 0, _ => Nat.le_refl _
  | P + 1, h => by
    have h1 := sumQ_low P (fun q hq => h q (by omega))
    have h2 := h P (by omega)
    show 2 * (P + 1) ≤ sumQ g P + g P
    omega
theorem sumQ_hi {g : Nat → Nat} {p : Nat} : ∀ P, p < P → (∀ q, q < P → 2 ≤ g q) → g p + 2 * P ≤ sumQ g P + 2
  | 0, hp, _ => absurd hp (Nat.not_lt_zero _)
  | P + 1, hp, h => by
    have h2 := h P (by omega)
    show g p + 2 * (P + 1) ≤ sumQ g P + g P + 2
    by_cases e : p = P
    · subst e
      have := sumQ_low p (fun q hq => h q (by omega))
      omega
    · have := sumQ_hi P (show p < P by omega) (fun q hq => h q (by omega))
      omega
/-- no part of a plane net has more than c + 2 faces -/
theorem pt_face {ψ : Nat → Nat} {c P n p : Nat} (hψ : ∀ f, f < n → ψ f < P) (h2 : ∀ q, q < P → 2 ≤ nF (fun f => decide (ψ f = q)) n) (hn : n = c + 2 * P) (hp : p < P) : nF (fun f => decide (ψ f = p)) n ≤ c + 2 := by
  have h3 := sumQ_nF ψ P n hψ
  have h4 := sumQ_hi (g := fun p => nF (fun f => decide (ψ f = p)) n) (p := p) P hp h2
  rw [h3] at h4
  omega
end
section
/-! 99zzzzzzzzd.csgo -/
/-! the class: signature -/
theorem lst_ex {p : Nat → Prop} : ∀ n, p n → ∃ m, p m ∧ ∀ u, u < m → ¬ p u := by
  intro n
  induction n using Nat.strongRecOn with
  | ind n ih =>
    intro h
    by_cases hx : ∃ u, u < n ∧ p u
    · obtain ⟨u, u1, u2⟩ := hx
      exact ih u u1 u2
    · exact ⟨n, h, fun u hu h9 => hx ⟨u, hu, h9⟩⟩
def sgL (g : Nat) : Prop := 6003 ≤ g ∧ g ≤ 6008
/-- what the walk over the parts asks of faces and parts -/
def fpI (c n P : Nat) (M : Nat → Int32) (φ : Nat → Nat) : Prop := (∀ s, s < 4 * c → φ s < n) ∧ (∀ v, v < 2 * c → ∃ r, r < P ∧ M v = nI r) ∧ (∀ r, r < P → ∃ v, v < 2 * c ∧ M v = nI r) ∧ (∀ f, f < n → ∃ s, s < 4 * c ∧ φ s = f) ∧ (∀ s t, s < 4 * c → t < 4 * c → φ s = φ t → M (s / 2) = M (t / 2)) ∧ (∀ v, v < 2 * c → φ (2 * v) ≠ φ (2 * v + 1)) ∧ n = c + 2 * P ∧ c ≤ 12 ∧ n ≤ 48 ∧ P ≤ 24
theorem fp_psi {c n P : Nat} {M : Nat → Int32} {φ : Nat → Nat} (h : fpI c n P M φ) : ∃ ψ : Nat → Nat, (∀ f, f < n → ψ f < P) ∧ ∀ s, s < 4 * c → M (s / 2) = nI (ψ (φ s)) := by
  obtain ⟨h1, h2, h3, h4, h5, h6, h7, h8, h9, h10⟩ := h
  have hex : ∀ f, ∃ q, f < n → q < P ∧ ∀ s, s < 4 * c → φ s = f → M (s / 2) = nI q := by
    intro f
    by_cases hf : f < n
    · obtain ⟨s, s1, s2⟩ := h4 f hf
      obtain ⟨r, r1, r2⟩ := h2 (s / 2) (by omega)
      exact ⟨r, fun _ => ⟨r1, fun t t1 t2 => by rw [← r2]; exact h5 t s t1 s1 (by rw [t2, s2])⟩⟩
    · exact ⟨0, fun h9 => absurd h9 hf⟩
  exact ⟨fun f => Classical.choose (hex f), fun f hf => (Classical.choose_spec (hex f) hf).1, fun s hs => (Classical.choose_spec (hex (φ s)) (h1 s hs)).2 s hs rfl⟩
theorem fp_bound {c n P p : Nat} {M : Nat → Int32} {φ : Nat → Nat} (h : fpI c n P M φ) (hp : p < P) {z : ow_MS} (hM : ∀ v, v < 2 * c → z.2.1 4006 v = M v) : cntR z c n φ (nI p) 0 + cntR z c n φ (nI p) 1 ≤ c + 2 := by
  obtain ⟨ψ, e1, e2⟩ := fp_psi h
  obtain ⟨h1, h2, h3, h4, h5, h6, h7, h8, h9, h10⟩ := h
  have two : ∀ q, q < P → 2 ≤ nF (fun f => decide (ψ f = q)) n := by
    intro q hq
    obtain ⟨v, v1, v2⟩ := h3 q hq
    have pa : ∀ s, s < 4 * c → s / 2 = v → ψ (φ s) = q := by
      intro s hs e
      have := e2 s hs
      rw [e, v2] at this
      have hl := e1 (φ s) (h1 s hs)
      exact (nI_inj9 (by omega) (by omega) this).symm
    have n1 := nF_pos (q := fun f => decide (f = φ (2 * v))) (a := φ (2 * v)) (decide_eq_true rfl) n (h1 _ (by omega))
    have n2 := nF_pos (q := fun f => decide (f = φ (2 * v + 1))) (a := φ (2 * v + 1)) (decide_eq_true rfl) n (h1 _ (by omega))
    have := nF_two (q1 := fun f => decide (f = φ (2 * v))) (q2 := fun f => decide (f = φ (2 * v + 1))) (q := fun f => decide (ψ f = q)) (fun k hk => by
      have hk := of_decide_eq_true hk
      rw [hk]
      exact ⟨decide_eq_true (pa _ (by omega) (by omega)), decide_eq_false (h6 v v1)⟩) (fun k hk => by
      have hk := of_decide_eq_true hk
      rw [hk]
      exact decide_eq_true (pa _ (by omega) (by omega))) n
    omega
  have hf := pt_face (c := c) (p := p) e1 two h7 hp
  have seen : ∀ x k, snS φ (cdN z φ (nI p) x) (4 * c) k = true → ψ k = p ∧ z.2.1 6003 k = x := by
    intro x k hk
    obtain ⟨t, t1, t2, t3⟩ := (snS_t _).mp hk
    obtain ⟨u1, u2⟩ := of_decide_eq_true t2
    rw [hM _ (by omega), e2 t t1, t3] at u1
    have hl := e1 (φ t) (h1 t t1)
    rw [t3] at hl u2
    exact ⟨nI_inj9 (by omega) (by omega) u1, u2⟩
  refine Nat.le_trans (nF_two (q := fun f => decide (ψ f = p)) (fun k hk => ?_) (fun k hk => decide_eq_true (seen 1 k hk).1) n) hf
  obtain ⟨a, b⟩ := seen 0 k hk
  refine ⟨decide_eq_true a, ?_⟩
  cases e : snS φ (cdN z φ (nI p) 1) (4 * c) k with
  | false => rfl
  | true =>
    have := (seen 1 k e).2
    rw [b] at this
    exact absurd this (by decide)
section SO
variable {vl : Nat → Nat} {y : ow_MS} {T : ow_NT} {n P : Nat} {M : Nat → Int32} {φ : Nat → Nat}
theorem u_X4_signatureOf_1 {vl : Nat → Nat} {x2 : Int32} {x3 : Int32} {r0 : Nat} {r1 : Nat} {z : ow_MS} {Q : (Int32 × ow_MS) → Prop} (H : Tt (fun K k => cm_X4_signatureOf_1 vl K (c_X4_signatureOf vl K k) x2 x3 r0 r1 z) Q) : Tt (fun K k => c_X4_signatureOf vl K k 1 x2 x3 r0 r1 z) Q := w_un (fun _ _ => rfl) H
theorem tc_sgLoop (hy : cAt y 4000 T) (hv : vn T.1 T.2.2.1) (h11 : y.1 4011 = nI P) (h2 : y.1 6002 = nI n) (hM : ∀ v, v < 2 * T.1 → y.2.1 4006 v = M v) (hφ : ∀ s, s < 4 * T.1 → y.2.1 6001 s = nI (φ s)) (hI : fpI T.1 n P M φ) : ∀ (d p : Nat) (x : Int32) (z : ow_MS), p + d = P → fr sgL y z → (∀ s q, s < 4 * T.1 → p ≤ q → q < P → M (s / 2) = nI q → z.2.1 6003 (φ s) = -1) → Tt (fun K k => c_X4_signatureOf vl K k 1 x (nI p) 6000 4000 z) (fun r => fr sgL y r.2) := by
  have hI0 := hI
  obtain ⟨i1, i2, i3, i4, i5, i6, i7, i8, i9, i10⟩ := hI
  intro d
  induction d with
  | zero =>
    intro p x z hp hz _
    refine u_X4_signatureOf_1 ?_; unfold cm_X4_signatureOf_1
    exact w_rdF ((hz 4011 (by unfold sgL; omega)).1.trans h11) (w_leT (by omega) (by omega) (w_some hz))
  | succ d ih =>
    intro p x z hp hz hcol
    have zc : cAt z 4000 T := cAt_fr hz (fun g hg h9 => by unfold cP at hg; unfold sgL at h9; omega) hy
    have z2 : z.1 6002 = nI n := (hz 6002 (by unfold sgL; omega)).1.trans h2
    have zφ : ∀ s, s < 4 * T.1 → z.2.1 6001 s = nI (φ s) ∧ φ s < n := fun s hs => ⟨by rw [(hz 6001 (by unfold sgL; omega)).2.1]; exact hφ s hs, i1 s hs⟩
    have zM : ∀ v, v < 2 * T.1 → z.2.1 4006 v = M v := fun v hv => by rw [(hz 4006 (by unfold sgL; omega)).2.1]; exact hM v hv
    refine u_X4_signatureOf_1 ?_; unfold cm_X4_signatureOf_1
    refine w_rdF ((hz 4011 (by unfold sgL; omega)).1.trans h11) (w_leF (by omega) (by omega) (w_cs0 (tc_paint (x2 := nI p) zc.1 i8 i9 zφ) ?_))
    rintro z5 ⟨f5, o5, g5⟩
    have y5 : fr sgL y z5 := fr_tr hz (fr_mono (fun g hg => by unfold sgL; omega) f5)
    have c5 : cAt z5 4000 T := cAt_fr y5 (fun g hg h9 => by unfold cP at hg; unfold sgL at h9; omega) hy
    have t5 : z5.1 6002 = nI n := (y5 6002 (by unfold sgL; omega)).1.trans h2
    have φ5 : ∀ s, s < 4 * T.1 → z5.2.1 6001 s = nI (φ s) ∧ φ s < n := fun s hs => ⟨by rw [(y5 6001 (by unfold sgL; omega)).2.1]; exact hφ s hs, i1 s hs⟩
    have M5 : ∀ v, v < 2 * T.1 → z5.2.1 4006 v = M v := fun v hv => by rw [(y5 4006 (by unfold sgL; omega)).2.1]; exact hM v hv
    obtain ⟨v, v1, v2⟩ := i3 p (by omega)
    obtain ⟨v0, ⟨a1, a2⟩, a3⟩ := lst_ex (p := fun v => v < 2 * T.1 ∧ M v = nI p) v ⟨v1, v2⟩
    have hfs : fsV z T.1 (nI p) v0 := ⟨a1, (zM v0 a1).trans a2, fun u hu h9 => a3 u hu ⟨by omega, (zM u (by omega)).symm.trans h9⟩⟩
    obtain ⟨b0, b1⟩ := g5 v0 hfs (i6 v0 a1) (hcol (2 * v0 + 1) p (by omega) (Nat.le_refl _) (by omega) (by rw [show (2 * v0 + 1) / 2 = v0 by omega]; exact a2))
    have pos : ∀ x s, s < 4 * T.1 → s / 2 = v0 → z5.2.1 6003 (φ s) = x → 1 ≤ cntR z5 T.1 n φ (nI p) x := by
      intro x s hs e1 e2
      refine nF_pos (a := φ s) ((snS_t _).mpr ⟨s, hs, decide_eq_true ⟨?_, e2⟩, rfl⟩) n (i1 s hs)
      rw [e1, M5 v0 a1]
      exact a2
    have p0 := pos 0 (2 * v0) (by omega) (by omega) b0
    have p1 := pos 1 (2 * v0 + 1) (by omega) (by omega) b1
    have bd := fp_bound hI0 (show p < P by omega) M5
    refine w_cs1 (tc_rarer c5.1 i8 t5 i9 φ5) ?_
    rintro x3 z7 ⟨r1, f7⟩
    have y7 : fr sgL y z7 := fr_tr y5 (fr_mono (fun g hg => by unfold sgL; omega) f7)
    have c7 : cAt z7 4000 T := cAt_fr y7 (fun g hg h9 => by unfold cP at hg; unfold sgL at h9; omega) hy
    have φ7 : ∀ s, s < 4 * T.1 → z7.2.1 6001 s = nI (φ s) ∧ φ s < n := fun s hs => ⟨by rw [(y7 6001 (by unfold sgL; omega)).2.1]; exact hφ s hs, i1 s hs⟩
    have hR : 1 ≤ cntR z7 T.1 n φ (nI p) x3 ∧ cntR z7 T.1 n φ (nI p) x3 ≤ 9 := by
      rw [cntR_fr f7 (by omega) (by omega)]
      dsimp only at r1
      rcases r1 with ⟨e, h⟩ | ⟨e, h⟩
      · rw [e]
        omega
      · rw [e]
        omega
    refine w_cs1 (tc_sgPart c7 hv i8 ((y7 6002 (by unfold sgL; omega)).1.trans h2) i9 φ7 hR.1 hR.2) ?_
    rintro x4 z9 f9
    have sp : ∀ g, spP g → sgL g ∧ g ≠ 6003 := fun g hg => by
      unfold spP fcP at hg
      unfold sgL
      omega
    rw [nI_1]
    refine ih (p + 1) _ z9 (by omega) (fr_tr y7 (fr_mono (fun g hg => (sp g hg).1) f9)) (fun s q hs hq hqP hsq => ?_)
    rw [(f9 6003 (fun h9 => (sp _ h9).2 rfl)).2.1, (f7 6003 (by omega)).2.1, o5 (φ s) (fun t ht h9 h8 => ?_)]
    · exact hcol s q hs (by omega) hqP hsq
    · rw [zM _ (by omega), i5 t s ht hs h8, hsq] at h9
      have := nI_inj9 (by omega) (by omega) h9
      omega
end SO
end
section
/-! 99zzzzzzzze.csgt -/
/-! the class: signature has an answer -/
def sgP2 (g : Nat) : Prop := cQ 4000 g ∨ 6001 ≤ g ∧ g ≤ 6008
section ST
variable {vl : Nat → Nat} {y : ow_MS} {c : Nat} {S : ow_NP} {G : Nat → Int32} {w : Nat → Bool}
theorem fp_of (hv : vn c S) (hc : c ≤ 12) (hw : gaO c S w) (hp : (np_faces c S G).2 = c + 2 * (np_parts c S.1).2) : fpI c (np_faces c S G).2 (np_parts c S.1).2 (np_parts c S.1).1 (fun s => ((np_faces c S G).1 s).toNatClampNeg) ∧ ∀ s, s < 4 * c → (np_faces c S G).1 s = nI ((np_faces c S G).1 s).toNatClampNeg := by
  obtain ⟨q1, q2, q3, q4⟩ := parts_I hv hc
  have m1 : mrI (kS w) (4 * c) (4 * c) (np_faces c S G) := mr_out_k (fun a ha => ⟨fc_on_vn hv G ha, ga_on hw hv ha⟩) (fun _ _ => rfl) (by omega) (4 * c) (Nat.le_refl _)
  have hpt : ∀ a, a < 4 * c → (np_parts c S.1).1 (fc_on S G a / 2) = (np_parts c S.1).1 (a / 2) := by
    intro a ha
    have he : fc_end S.1 a < 2 * c ∧ (np_parts c S.1).1 (fc_end S.1 a) = (np_parts c S.1).1 (a / 2) := by
      unfold fc_end
      split
      · exact ⟨(hv _ (by omega)).1, (q1 _ (by omega)).1⟩
      · exact ⟨by omega, rfl⟩
    have hm := mt_lt he.1
    have em := (q1 _ he.1).2
    unfold fc_on
    split
    · rw [show 2 * mt (fc_end S.1 a) / 2 = mt (fc_end S.1 a) by omega, em, he.2]
    · rw [show (2 * S.2 (mt (fc_end S.1 a)) + 1) / 2 = S.2 (mt (fc_end S.1 a)) by omega]
      have h3 := (q1 (S.2 (mt (fc_end S.1 a))) (hv _ hm).2.1).1
      rw [(hv _ hm).2.2.2] at h3
      rw [← h3, em, he.2]
  have m2 : mrI (fun s => (np_parts c S.1).1 (s / 2)) (4 * c) (4 * c) (np_faces c S G) := mr_out_k (fun a ha => ⟨fc_on_vn hv G ha, hpt a ha⟩) (fun _ _ => rfl) (by omega) (4 * c) (Nat.le_refl _)
  obtain ⟨a1, a2, a3, a4, a5⟩ := m1
  obtain ⟨-, -, -, -, b5⟩ := m2
  have val : ∀ s, s < 4 * c → ∃ r, r < (np_faces c S G).2 ∧ (np_faces c S G).1 s = nI r ∧ ((np_faces c S G).1 s).toNatClampNeg = r := by
    intro s hs
    obtain ⟨r, r1, r2⟩ := (a2 s hs).resolve_left (a3 s hs)
    exact ⟨r, r1, r2, by rw [r2, nI_clamp (by omega)]⟩
  have inj : ∀ s t, s < 4 * c → t < 4 * c → ((np_faces c S G).1 s).toNatClampNeg = ((np_faces c S G).1 t).toNatClampNeg → (np_faces c S G).1 s = (np_faces c S G).1 t := by
    intro s t hs ht e
    obtain ⟨r, r1, r2, r3⟩ := val s hs
    obtain ⟨u, u1, u2, u3⟩ := val t ht
    rw [r2, u2, ← r3, ← u3, e]
  refine ⟨⟨fun s hs => ?_, q2, q3, fun f hf => ?_, fun s t hs ht e => ?_, fun v hv1 e => ?_, hp, hc, by omega, by omega⟩, fun s hs => ?_⟩
  · obtain ⟨r, r1, r2, r3⟩ := val s hs
    show ((np_faces c S G).1 s).toNatClampNeg < _
    rw [r3]
    exact r1
  · obtain ⟨k, k1, k2⟩ := a4 f hf
    exact ⟨k, k1, by show ((np_faces c S G).1 k).toNatClampNeg = f; rw [k2, nI_clamp (by omega)]⟩
  · exact b5 s t hs ht (a3 s hs) (inj s t hs ht e)
  · exact kS_lr v (a5 (2 * v) (2 * v + 1) (by omega) (by omega) (a3 _ (by omega)) (inj _ _ (by omega) (by omega) e))
  · obtain ⟨r, r1, r2, r3⟩ := val s hs
    rw [r3]
    exact r2
theorem e_X4_signatureOf {vl : Nat → Nat} {r0 : Nat} {r1 : Nat} {z : ow_MS} {Q : (Int32 × ow_MS) → Prop} (H : Tt (fun K k => c_X4_signatureOf vl K k 0 0 0 r0 r1 z) Q) : Te (fun K => ce_X4_signatureOf vl K r0 r1 z) Q := w_te H
theorem u_X4_signatureOf_0 {vl : Nat → Nat} {x2 : Int32} {x3 : Int32} {r0 : Nat} {r1 : Nat} {z : ow_MS} {Q : (Int32 × ow_MS) → Prop} (H : Tt (fun K k => cm_X4_signatureOf_0 vl K (c_X4_signatureOf vl K k) x2 x3 r0 r1 z) Q) : Tt (fun K k => c_X4_signatureOf vl K k 0 x2 x3 r0 r1 z) Q := w_un (fun _ _ => rfl) H
theorem tc_sgOf {ci : Nat} (hy : cAt y 4000 (c, ci, S, G)) (hb : ow_b24 S) (hv : vn c S) (hc : c ≤ 12) (hw : gaO c S w) (hp : nt_plane (c, ci, S, G) = true) : Te (fun K => ce_X4_signatureOf vl K 6000 4000 y) (fun r => fr sgP2 y r.2) := by
  have hp' : (np_faces c S G).2 = c + 2 * (np_parts c S.1).2 := of_decide_eq_true hp
  obtain ⟨hI, hval⟩ := fp_of hv hc hw hp'
  have hN : ∀ k, k < 2 * c → S.1 k < 2 * c := fun k hk => (hv k hk).1
  refine e_X4_signatureOf ?_
  refine u_X4_signatureOf_0 ?_; unfold cm_X4_signatureOf_0
  refine w_cs0 (tc_markParts nH4 hy hN hc) ?_
  rintro z1 ⟨m1, m2, m3⟩
  have q := np_parts_of (N := S.1) (c := c) hN hc (y.2.1 (4000 + 6))
  have c1 : cAt z1 4000 (c, ci, S, G) := cAt_fr m3 (fun g hg h9 => by unfold cP at hg; unfold cQ at h9; omega) hy
  refine w_cs0 (tc_faces nH4 (Or.inl rfl) (Or.inl (by omega)) c1 hb hv hc) ?_
  rintro z2 ⟨k1, k2, k3⟩
  have q2 := mr_out_rl (fun a ha => fc_on_vn hv G ha) (rl_fill (4 * c) (z1.2.1 (6000 + 1)) (-1)) (4 * c) (Nat.le_refl _)
  dsimp only at m1 m2 k1 k2
  rw [q2.2] at k2
  rw [q.2] at m2
  have hn48 := hI.2.2.2.2.2.2.2.2.1
  have k2' : z2.1 6002 = nI (np_faces c S G).2 := k2
  refine w_rdF k2' (w_cs0 (tc_fill (a := 0) (b := (np_faces c S G).2) cg_6003 (by omega) hn48 (by omega)) ?_)
  rintro z4 ⟨f4, f5⟩
  have e4 : ∀ g, g = 6001 ∨ g = 6002 ∨ g = 4011 ∨ g = 4006 → g ≠ 6003 := fun g hg => by omega
  have c4 : cAt z4 4000 (c, ci, S, G) := cAt_fr f5 (fun g hg h9 => by unfold cP at hg; omega) (cAt_fr k3 (fun g hg h9 => by unfold cP at hg; unfold cF at h9; omega) c1)
  refine w_mono (tc_sgLoop (φ := fun s => ((np_faces c S G).1 s).toNatClampNeg) (M := (np_parts c S.1).1) c4 hv ?_ ?_ ?_ ?_ hI (np_parts c S.1).2 0 0 z4 (by omega) fr_rf ?_) ?_
  · rw [(f5 4011 (by omega)).1, (k3 4011 (by unfold cF; omega)).1]
    exact m2
  · rw [(f5 6002 (by omega)).1]
    exact k2'
  · intro v hv1
    rw [(f5 4006 (by omega)).2.1, (k3 4006 (by unfold cF; omega)).2.1]
    exact (m1 v).trans (q.1 v hv1)
  · intro s hs
    rw [(f5 6001 (by omega)).2.1]
    exact ((k1 s).trans (q2.1 s hs)).trans (hval s hs)
  · intro s r hs _ _ _
    have := hI.1 s hs
    rw [f4, if_pos ⟨Nat.zero_le _, this⟩]
  · intro r hr
    exact fr_tr (fr_tr (fr_tr (fr_mono (fun g hg => Or.inl hg) m3) (fr_mono (fun g hg => Or.inr (by unfold cF at hg; omega)) k3)) (fr_mono (fun g hg => Or.inr (by omega)) f5)) (fr_mono (fun g hg => Or.inr (by unfold sgL at hg; omega)) hr)
/-- every diagram that is kept is plane -/
def plS (y : ow_MS) : Prop := ∀ d A sg c, d < 40 → slC y 1000 d (clC sg A) → okL A c → ∀ T, isoV A sg (fun x => x) T → (∀ x, x < T.1 → T.2.2.2 x ≠ 0) → nt_plane T = true
def sxP (g : Nat) : Prop := 4001 ≤ g ∧ g ≤ 4011 ∨ 6001 ≤ g ∧ g ≤ 6008
theorem e_X11_signature {vl : Nat → Nat} {r0 : Nat} {x1 : Int32} {z : ow_MS} {Q : (Nat × Int32 × ow_MS) → Prop} (H : Tt (fun K _ => cm_X11_signature_0 vl K x1 r0 z) Q) : Te (fun K => ce_X11_signature vl K r0 x1 z) Q := w_te0 H
theorem tc_signature {x : Int32} (hM : gM y) (hg : gaS y) (hpl : plS y) : Te (fun K => ce_X11_signature vl K 0 x y) (fun r => gM r.2.2 ∧ fr sxP y r.2.2 ∧ (r.1 = 0 ∧ isO y x ∨ r.1 = 1 ∧ ∀ d, d < 40 → x = nI d → y.2.1 1002 d = 0)) := by
  refine e_X11_signature ?_; unfold cm_X11_signature_0
  refine w_tc0 (tc_need hM.1.1) ?_ ?_
  · rintro y1 ⟨h1, e0⟩
    have e0 : y1 = y := e0
    rw [e0]
    rcases h1 with ⟨-, ho⟩ | h1
    · obtain ⟨d, A, sg, c, hd, rfl, hs, hA, hne⟩ := id ho
      refine w_cs0 (tc_ld3 nH4 hM.1 hd hs hA) ?_
      rintro y2 ⟨g1, g2, S, G, g3, g4⟩
      obtain ⟨j1, j2, j3, j4⟩ := g4
      have hV : isoV A sg (fun x => x) (c, cirs A, S, G) := isoV_of j2 j3
      obtain ⟨w0, hw0⟩ := hg d A sg c hd hs hA
      obtain ⟨w, hw⟩ := gaT_of hV hw0
      refine w_cs1 (tc_sgOf g3.1 g3.2.2.1.2.2.1 j3 hA.2.2.2.1 hw (hpl d A sg c hd hs hA _ hV (fun x hx => by have h7 : G x = if sg x then -1 else 1 := j4 x hx; show G x ≠ 0; rw [h7]; split <;> decide))) ?_
      rintro v z f3
      have f3 : fr sgP2 y2 z := f3
      have key : ∀ a, a ∈ nHL → 4000 ≤ a ∧ a ≤ 4000 ∨ 4012 ≤ a ∧ (a ≤ 5000 ∨ 6010 ≤ a) := by decide
      refine w_some ⟨⟨⟨dgC_fr f3 (fun g h7 h8 h9 => by unfold sgP2 cQ at h9; omega) g1.1, nsC_fr f3 (fun h' hh' g hg h9 => ?_) g1.2.1, kdC_fr f3 (fun g hg => by unfold sgP2 cQ at hg; omega) g1.2.2⟩, tbs_fr (fr_tr (fr_mono (fun g hg => Or.inl hg) g2) (fr_mono (fun g hg => Or.inr hg) f3)) (fun g (hg : cL 4000 g ∨ sgP2 g) => by unfold cL sgP2 cQ at hg; omega) hM.2⟩, fr_tr (fr_mono (fun g hg => by unfold sxP; unfold cL at hg; omega) g2) (fr_mono (fun g hg => by unfold sxP; unfold sgP2 cQ at hg; omega) f3), Or.inl ⟨rfl, ho⟩⟩
      have := key h' hh'
      unfold cP at hg
      unfold sgP2 cQ at h9
      omega
    · exact absurd (show (0 : Nat) = 1 from h1.1) (by decide)
  · rintro a y1 ha ⟨h1, e0⟩
    have e0 : y1 = y := e0
    rw [e0]
    refine w_some ⟨hM, fr_rf, ?_⟩
    rcases h1 with ⟨h9, -⟩ | h1
    · exact absurd h9 ha
    · exact Or.inr h1
end ST
end
section
/-! 99zzzzzzzzf.cga -/
/-! two kinds of visits: from nets to lists, reversed and mirrored -/
theorem gaA_of {A : rn_L} {sg : Nat → Bool} {f : Nat → Nat} {T : ow_NT} {w : Nat → Bool} (h : isoV A sg f T) (hw : gaO T.1 T.2.2.1 w) : gaA A (fun p => w (gl f p)) := by
  refine ⟨fun L hL p hp => ?_, fun x hx => ?_⟩
  · show w (gl f (sc L p)) = !w (gl f p)
    rw [← (h.2 L hL p hp).1]
    exact (hw _ (gl_lt h (List.mem_flatten.mpr ⟨L, hL, hp⟩))).1
  · show w (gl f (x, 1)) = !w (gl f (x, 0))
    rw [← gl_mt.1]
    exact (hw _ (gl_lt h hx)).2
theorem sc_rv {L : List vT} {p : vT} (hn : L.Nodup) (hp : p ∈ L) : sc L (sc L.reverse p) = p := by
  have h1 : L.reverse.Nodup := List.pairwise_reverse.mpr (hn.imp (fun h9 e => h9 e.symm))
  have h2 := sc_rev h1 (List.mem_reverse.mpr hp)
  rw [List.reverse_reverse] at h2
  exact h2
end
section
/-! 99zzzzzzzzg.cgb -/
/-! two kinds of visits: components parted and joined -/
end
section
/-! 99zzzzzzzzh.cgs -/
/-! kept diagrams stay plane where the table stays -/
end
section
/-! 99zzzzzzzzi.pmap -/
/-! labels of darts: how many values; Euler's bound; two colours -/
def pm_dv (f : Nat → Nat) (X : List Nat) : Prop := (X.map f).Nodup
def pm_mg (f : Nat → Nat) (p q : Nat) : Nat → Nat := fun d => if f d = p then q else f d
def pm_sp (f : Nat → Nat) (P : Nat → Bool) (p : Nat) : Nat → Nat := fun d => 2 * f d + (if P d = true ∧ f d = p then 1 else 0)
theorem pm_mk {f : Nat → Nat} {X : List Nat} (hn : X.Nodup) (h : ∀ x y, x ∈ X → y ∈ X → f x = f y → x = y) : pm_dv f X := nodup_map hn h
theorem pm_inj {f : Nat → Nat} : ∀ {X : List Nat}, pm_dv f X → ∀ x y, x ∈ X → y ∈ X → f x = f y → x = y
  | [], _, x, _, hx, _, _ => by cases hx
  | a :: X, h, x, y, hx, hy, e => by
    unfold pm_dv at h
    rw [List.map_cons] at h
    obtain ⟨h1, h2⟩ := List.nodup_cons.mp h
    rcases List.mem_cons.mp hx with e1 | hx1
    · rcases List.mem_cons.mp hy with e2 | hy1
      · rw [e1, e2]
      · exact absurd (List.mem_map.mpr ⟨y, hy1, by rw [← e1]; exact e.symm⟩) h1
    · rcases List.mem_cons.mp hy with e2 | hy1
      · exact absurd (List.mem_map.mpr ⟨x, hx1, by rw [← e2]; exact e⟩) h1
      · exact pm_inj h2 x y hx1 hy1 e
theorem pm_nd {f : Nat → Nat} : ∀ {X : List Nat}, pm_dv f X → X.Nodup
  | [], _ => List.nodup_nil
  | a :: X, h => by
    unfold pm_dv at h
    rw [List.map_cons] at h
    obtain ⟨h1, h2⟩ := List.nodup_cons.mp h
    exact List.nodup_cons.mpr ⟨fun h9 => h1 (List.mem_map.mpr ⟨a, h9, rfl⟩), pm_nd h2⟩
theorem pm_fil {f : Nat → Nat} {X : List Nat} (q : Nat → Bool) (h : pm_dv f X) : pm_dv f (X.filter q) := pm_mk ((pm_nd h).filter _) (fun x y hx hy e => pm_inj h x y (List.mem_filter.mp hx).1 (List.mem_filter.mp hy).1 e)
theorem pm_one {f : Nat → Nat} {X : List Nat} (h : pm_dv f X) (p : Nat) : (X.filter (fun x => decide (f x = p))).length ≤ 1 := by
  have h1 : ((X.filter (fun x => decide (f x = p))).map f).Nodup := pm_fil _ h
  have := nodup_le _ [p] h1 (fun a ha => by
    obtain ⟨x, hx, e⟩ := List.mem_map.mp ha
    have := of_decide_eq_true (List.mem_filter.mp hx).2
    rw [← e, this]
    exact List.mem_singleton.mpr rfl)
  rw [List.length_map] at this
  exact this
theorem pm_rest {f : Nat → Nat} {X : List Nat} (h : pm_dv f X) (p : Nat) : X.length ≤ (X.filter (fun x => !decide (f x = p))).length + 1 := by
  have h1 := filt_sum (fun x => decide (f x = p)) X
  have h2 := pm_one h p
  omega
theorem pm_mg_dv {f : Nat → Nat} {X : List Nat} (h : pm_dv f X) (p q : Nat) : ∃ X', (∀ x, x ∈ X' → x ∈ X) ∧ X.length ≤ X'.length + 1 ∧ pm_dv (pm_mg f p q) X' := by
  refine ⟨X.filter (fun x => !decide (f x = p)), fun x hx => (List.mem_filter.mp hx).1, pm_rest h p, ?_⟩
  have key : ∀ x, x ∈ X.filter (fun x => !decide (f x = p)) → pm_mg f p q x = f x := fun x hx => by
    have := (List.mem_filter.mp hx).2
    have h2 : ¬ f x = p := fun e => by rw [decide_eq_true e] at this; cases this
    exact if_neg h2
  refine pm_mk ((pm_nd h).filter _) (fun x y hx hy e => ?_)
  rw [key x hx, key y hy] at e
  exact pm_inj h x y (List.mem_filter.mp hx).1 (List.mem_filter.mp hy).1 e
theorem pm_sp_dv {f : Nat → Nat} {X : List Nat} {P : Nat → Bool} {a b : Nat} (h : pm_dv f X) (ha : P a = true) (hb : P b = false) (e : f a = f b) : ∃ X', (∀ x, x ∈ X' → x = a ∨ x = b ∨ x ∈ X) ∧ X.length + 1 ≤ X'.length ∧ pm_dv (pm_sp f P (f a)) X' := by
  have hr := pm_rest h (f a)
  refine ⟨a :: b :: X.filter (fun x => !decide (f x = f a)), fun x hx => ?_, by rw [List.length_cons, List.length_cons]; omega, ?_⟩
  · rcases List.mem_cons.mp hx with h9 | hx
    · exact Or.inl h9
    · rcases List.mem_cons.mp hx with h9 | hx
      · exact Or.inr (Or.inl h9)
      · exact Or.inr (Or.inr (List.mem_filter.mp hx).1)
  have ka : pm_sp f P (f a) a = 2 * f a + 1 := by
    show 2 * f a + (if P a = true ∧ f a = f a then 1 else 0) = _
    rw [if_pos ⟨ha, rfl⟩]
  have kb : pm_sp f P (f a) b = 2 * f a := by
    show 2 * f b + (if P b = true ∧ f b = f a then 1 else 0) = _
    rw [if_neg (fun h9 => by rw [hb] at h9; cases h9.1), e]
    rfl
  have kx : ∀ x, x ∈ X.filter (fun x => !decide (f x = f a)) → pm_sp f P (f a) x = 2 * f x ∧ f x ≠ f a ∧ x ∈ X := fun x hx => by
    have := (List.mem_filter.mp hx).2
    have h2 : ¬ f x = f a := fun e => by rw [decide_eq_true e] at this; cases this
    refine ⟨?_, h2, (List.mem_filter.mp hx).1⟩
    show 2 * f x + (if P x = true ∧ f x = f a then 1 else 0) = _
    rw [if_neg (fun h9 => h2 h9.2)]
    rfl
  show (pm_sp f P (f a) a :: pm_sp f P (f a) b :: (X.filter (fun x => !decide (f x = f a))).map (pm_sp f P (f a))).Nodup
  rw [ka, kb]
  refine List.nodup_cons.mpr ⟨fun h9 => ?_, List.nodup_cons.mpr ⟨fun h9 => ?_, ?_⟩⟩
  · rcases List.mem_cons.mp h9 with h8 | h8
    · omega
    · obtain ⟨x, hx, e9⟩ := List.mem_map.mp h8
      rw [(kx x hx).1] at e9
      omega
  · obtain ⟨x, hx, e9⟩ := List.mem_map.mp h9
    obtain ⟨k1, k2, -⟩ := kx x hx
    rw [k1] at e9
    exact k2 (by omega)
  · refine pm_mk ((pm_nd h).filter _) (fun x y hx hy e9 => ?_)
    obtain ⟨k1, -, k3⟩ := kx x hx
    obtain ⟨l1, -, l3⟩ := kx y hy
    rw [k1, l1] at e9
    exact pm_inj h x y k3 l3 (by omega)
/-! pairs of darts joined -/
def pm_al : List (Nat × Nat) → Nat → Nat
  | [], d => d
  | (a, b) :: E, d => if d = a then b else if d = b then a else pm_al E d
def pm_cl (X0 : Nat → Nat) : List (Nat × Nat) → Nat → Nat
  | [] => X0
  | (a, b) :: E => pm_mg (pm_cl X0 E) (pm_cl X0 E a) (pm_cl X0 E b)
def pm_ok (n : Nat) : List (Nat × Nat) → Prop
  | [] => True
  | (a, b) :: E => a < n ∧ b < n ∧ a ≠ b ∧ (∀ p : Nat × Nat, p ∈ E → p.1 ≠ a ∧ p.2 ≠ a ∧ p.1 ≠ b ∧ p.2 ≠ b) ∧ pm_ok n E
theorem pm_al_fix {d : Nat} : ∀ {E : List (Nat × Nat)}, (∀ p : Nat × Nat, p ∈ E → p.1 ≠ d ∧ p.2 ≠ d) → pm_al E d = d
  | [], _ => rfl
  | (a, b) :: E, h => by
    have h1 := h (a, b) List.mem_cons_self
    show (if d = a then b else if d = b then a else pm_al E d) = d
    rw [if_neg (fun e => h1.1 e.symm), if_neg (fun e => h1.2 e.symm)]
    exact pm_al_fix (fun p hp => h p (List.mem_cons_of_mem _ hp))
theorem pm_al_lt {n d : Nat} : ∀ {E : List (Nat × Nat)}, pm_ok n E → d < n → pm_al E d < n
  | [], _, h => h
  | (a, b) :: E, hE, h => by
    show (if d = a then b else if d = b then a else pm_al E d) < n
    split
    · exact hE.2.1
    · split
      · exact hE.1
      · exact pm_al_lt hE.2.2.2.2 h
theorem pm_al_inv {n : Nat} : ∀ {E : List (Nat × Nat)}, pm_ok n E → ∀ d, pm_al E (pm_al E d) = d
  | [], _, _ => rfl
  | (a, b) :: E, hE, d => by
    have ih := pm_al_inv hE.2.2.2.2
    have fa : pm_al E a = a := pm_al_fix (fun p hp => ⟨(hE.2.2.2.1 p hp).1, (hE.2.2.2.1 p hp).2.1⟩)
    have fb : pm_al E b = b := pm_al_fix (fun p hp => ⟨(hE.2.2.2.1 p hp).2.2.1, (hE.2.2.2.1 p hp).2.2.2⟩)
    have u : ∀ d, pm_al ((a, b) :: E) d = if d = a then b else if d = b then a else pm_al E d := fun _ => rfl
    by_cases h1 : d = a
    · rw [u d, if_pos h1, u b, if_neg (fun e => hE.2.2.1 e.symm), if_pos rfl, h1]
    · by_cases h2 : d = b
      · rw [u d, if_neg h1, if_pos h2, u a, if_pos rfl, h2]
      · rw [u d, if_neg h1, if_neg h2, u _, if_neg (fun e => h1 ?_), if_neg (fun e => h2 ?_), ih d]
        · rw [← ih d, e, fb]
        · rw [← ih d, e, fa]
theorem pm_mg_e {f : Nat → Nat} {p q x y : Nat} (h : f x = f y) : pm_mg f p q x = pm_mg f p q y := by
  unfold pm_mg
  rw [h]
theorem pm_mg_m {f : Nat → Nat} {a b : Nat} : pm_mg f (f a) (f b) a = pm_mg f (f a) (f b) b := by
  unfold pm_mg
  rw [if_pos rfl]
  split <;> rfl
/-- a map of darts about crossings: at most K rounds, a label X0 with K values -/
def pm_rs (n K : Nat) (rot X0 : Nat → Nat) : Prop := (∀ d, d < n → rot d < n) ∧ (∀ d e, d < n → e < n → rot d = rot e → d = e) ∧ (∀ d, d < n → X0 (rot d) = X0 d) ∧ (∀ f : Nat → Nat, (∀ d, d < n → f (rot d) = f d) → ∀ X : List Nat, (∀ x, x ∈ X → x < n) → pm_dv f X → X.length ≤ K) ∧ ∃ Y : List Nat, (∀ x, x ∈ Y → x < n) ∧ pm_dv X0 Y ∧ K ≤ Y.length
section PME
variable {n K : Nat} {rot X0 : Nat → Nat}
theorem pm_cl_rot (hr : pm_rs n K rot X0) : ∀ {E : List (Nat × Nat)} {d : Nat}, d < n → pm_cl X0 E (rot d) = pm_cl X0 E d
  | [], d, h => hr.2.2.1 d h
  | (a, b) :: E, d, h => pm_mg_e (pm_cl_rot hr h)
theorem pm_cl_al : ∀ {E : List (Nat × Nat)} {d : Nat}, pm_cl X0 E (pm_al E d) = pm_cl X0 E d
  | [], d => rfl
  | (a, b) :: E, d => by
    show pm_mg (pm_cl X0 E) (pm_cl X0 E a) (pm_cl X0 E b) (if d = a then b else if d = b then a else pm_al E d) = pm_mg (pm_cl X0 E) (pm_cl X0 E a) (pm_cl X0 E b) d
    by_cases h1 : d = a
    · rw [if_pos h1, h1]
      exact pm_mg_m.symm
    · rw [if_neg h1]
      by_cases h2 : d = b
      · rw [if_pos h2, h2]
        exact pm_mg_m
      · rw [if_neg h2]
        exact pm_mg_e pm_cl_al
theorem pm_ph_lt (hr : pm_rs n K rot X0) {E : List (Nat × Nat)} (hE : pm_ok n E) {d : Nat} (h : d < n) : rot (pm_al E d) < n := hr.1 _ (pm_al_lt hE h)
theorem pm_ph_inj (hr : pm_rs n K rot X0) {E : List (Nat × Nat)} (hE : pm_ok n E) {d e : Nat} (h : d < n) (h2 : e < n) (q : rot (pm_al E d) = rot (pm_al E e)) : d = e := by
  have := hr.2.1 _ _ (pm_al_lt hE h) (pm_al_lt hE h2) q
  rw [← pm_al_inv hE d, this, pm_al_inv hE e]
theorem pm_eul (hr : pm_rs n K rot X0) : ∀ (E : List (Nat × Nat)), pm_ok n E → ∀ f : Nat → Nat, (∀ d, d < n → f (rot (pm_al E d)) = f d) → ∀ X : List Nat, (∀ x, x ∈ X → x < n) → pm_dv f X → ∃ Y : List Nat, (∀ x, x ∈ Y → x < n) ∧ pm_dv (pm_cl X0 E) Y ∧ X.length + K ≤ E.length + 2 * Y.length
  | [], _, f, hf, X, hX, hv => by
    obtain ⟨Y, y1, y2, y3⟩ := hr.2.2.2.2
    have := hr.2.2.2.1 f hf X hX hv
    refine ⟨Y, y1, y2, ?_⟩
    rw [List.length_nil]
    omega
  | (a, b) :: E, hE, f, hf, X, hX, hv => by
    obtain ⟨ha, hb, hab, hd, hE'⟩ := hE
    have fa : pm_al E a = a := pm_al_fix (fun p hp => ⟨(hd p hp).1, (hd p hp).2.1⟩)
    have fb : pm_al E b = b := pm_al_fix (fun p hp => ⟨(hd p hp).2.2.1, (hd p hp).2.2.2⟩)
    have qa : rot (pm_al ((a, b) :: E) a) = rot (pm_al E b) := by
      rw [fb]
      show rot (if a = a then b else _) = rot b
      rw [if_pos rfl]
    have qb : rot (pm_al ((a, b) :: E) b) = rot (pm_al E a) := by
      rw [fa]
      show rot (if b = a then b else if b = b then a else _) = rot a
      rw [if_neg (fun e => hab e.symm), if_pos rfl]
    have qo : ∀ s, s ≠ a → s ≠ b → rot (pm_al ((a, b) :: E) s) = rot (pm_al E s) := fun s h1 h2 => by
      show rot (if s = a then b else if s = b then a else pm_al E s) = _
      rw [if_neg h1, if_neg h2]
    by_cases hc : pm_cl X0 E a = pm_cl X0 E b
    · have hf3 : ∀ d, d < n → pm_mg f (f a) (f b) (rot (pm_al E d)) = pm_mg f (f a) (f b) d := fun d h => by
        by_cases h1 : d = a
        · rw [h1, ← qb, pm_mg_e (hf b hb)]
          exact pm_mg_m.symm
        · by_cases h2 : d = b
          · rw [h2, ← qa, pm_mg_e (hf a ha)]
            exact pm_mg_m
          · rw [← qo d h1 h2]
            exact pm_mg_e (hf d h)
      obtain ⟨X3, x1, x2, x3⟩ := pm_mg_dv hv (f a) (f b)
      obtain ⟨Y, y1, y2, y3⟩ := pm_eul hr E hE' _ hf3 X3 (fun x hx => hX x (x1 x hx)) x3
      refine ⟨Y, y1, pm_mk (pm_nd y2) (fun x y hx hy e => pm_inj y2 x y hx hy ?_), by rw [List.length_cons]; omega⟩
      have ec : ∀ d, pm_cl X0 ((a, b) :: E) d = pm_cl X0 E d := fun d => by
        show (if pm_cl X0 E d = pm_cl X0 E a then pm_cl X0 E b else pm_cl X0 E d) = _
        split
        · rename_i h9
          rw [h9, hc]
        · rfl
      rw [ec, ec] at e
      exact e
    · obtain ⟨u1, u2⟩ := untw (D := fun s => s < n) (N := n) (a := a) (b := b) (p := fun s => rot (pm_al E s)) (q := fun s => rot (pm_al ((a, b) :: E) s)) (L := f) (C := pm_cl X0 E) (fun s hs => hs) (fun s hs => pm_ph_lt hr hE' hs) (fun s t hs ht e => pm_ph_inj hr hE' hs ht e) ha hb qo qa qb (fun s hs => (pm_cl_rot hr (pm_al_lt hE' hs)).trans pm_cl_al) hc hf
      obtain ⟨X2, x1, x2, x3⟩ := pm_sp_dv (P := fun d => decide (pm_cl X0 E d = pm_cl X0 E a)) (a := a) (b := b) hv (decide_eq_true rfl) (decide_eq_false (fun e => hc e.symm)) u1
      have hf2 : ∀ d, d < n → pm_sp f (fun d => decide (pm_cl X0 E d = pm_cl X0 E a)) (f a) (rot (pm_al E d)) = pm_sp f (fun d => decide (pm_cl X0 E d = pm_cl X0 E a)) (f a) d := fun d h => by
        have e1 : pm_cl X0 E (rot (pm_al E d)) = pm_cl X0 E d := (pm_cl_rot hr (pm_al_lt hE' h)).trans pm_cl_al
        have e2 := u2 d h
        unfold pm_sp
        dsimp only at e2 ⊢
        simp only [e1, e2]
      obtain ⟨Y, y1, y2, y3⟩ := pm_eul hr E hE' _ hf2 X2 (fun x hx => by
        rcases x1 x hx with rfl | rfl | h9
        · exact ha
        · exact hb
        · exact hX x h9) x3
      obtain ⟨Y2, z1, z2, z3⟩ := pm_mg_dv y2 (pm_cl X0 E a) (pm_cl X0 E b)
      exact ⟨Y2, fun x hx => y1 x (z1 x hx), z3, by rw [List.length_cons]; omega⟩
end PME
/-! parts -/
def pm_cn (n : Nat) (rot al : Nat → Nat) (a d : Nat) : Prop := ∀ P : Nat → Prop, P a → (∀ e, e < n → P e → P (rot e)) → (∀ e, e < n → P e → P (al e)) → P d
section PMC
variable {n K : Nat} {rot X0 al : Nat → Nat}
theorem cn_rf (a : Nat) : pm_cn n rot al a a := fun _ h _ _ => h
theorem cn_tr {a b d : Nat} (h : pm_cn n rot al a b) (h2 : pm_cn n rot al b d) : pm_cn n rot al a d := fun P h0 h3 h4 => h2 P (h P h0 h3 h4) h3 h4
theorem cn_r {a d : Nat} (hd : d < n) (h : pm_cn n rot al a d) : pm_cn n rot al a (rot d) := fun P h0 h3 h4 => h3 d hd (h P h0 h3 h4)
theorem cn_a {a d : Nat} (hd : d < n) (h : pm_cn n rot al a d) : pm_cn n rot al a (al d) := fun P h0 h3 h4 => h4 d hd (h P h0 h3 h4)
theorem cn_lab {g : Nat → Nat} (h1 : ∀ d, d < n → g (rot d) = g d) (h2 : ∀ d, d < n → g (al d) = g d) {a d : Nat} (h : pm_cn n rot al a d) : g d = g a := h (fun e => g e = g a) rfl (fun e he hp => (h1 e he).trans hp) (fun e he hp => (h2 e he).trans hp)
theorem cn_sy (hr : ∀ d, d < n → rot d < n) (hi : ∀ d e, d < n → e < n → rot d = rot e → d = e) (ha : ∀ d, d < n → al d < n) (hai : ∀ d, al (al d) = d) {a d : Nat} (h0 : a < n) (h : pm_cn n rot al a d) : pm_cn n rot al d a := by
  have key := h (fun e => e < n ∧ pm_cn n rot al e a) ⟨h0, cn_rf a⟩ (fun e he hp => ⟨hr e he, cn_tr ?_ hp.2⟩) (fun e he hp => ⟨ha e he, cn_tr ?_ hp.2⟩)
  · exact key.2
  · obtain ⟨k, hk⟩ := itf_back (f := rot) (D := fun s => s < n) (N := n) (fun s hs => hs) hr (fun s t hs ht => hi s t hs ht) he
    have up : ∀ j, pm_cn n rot al (rot e) (itf rot (j + 1) e) := by
      intro j
      induction j with
      | zero => exact cn_rf _
      | succ j ih => exact cn_r (itf_in (D := fun s => s < n) hr he (j + 1)) ih
    have := up k
    rw [hk] at this
    exact this
  · have := cn_a (rot := rot) (al := al) (ha e he) (cn_rf (n := n) (al e))
    rw [hai e] at this
    exact this
/-- every dart is joined to one of R -/
def pm_cv (n : Nat) (rot al : Nat → Nat) (R : List Nat) : Prop := ∀ d, d < n → ∃ r, r ∈ R ∧ r < n ∧ pm_cn n rot al r d
theorem pm_cv_le {R : List Nat} {g : Nat → Nat} (hR : pm_cv n rot al R) (h1 : ∀ d, d < n → g (rot d) = g d) (h2 : ∀ d, d < n → g (al d) = g d) {Y : List Nat} (hY : ∀ x, x ∈ Y → x < n) (hv : pm_dv g Y) : Y.length ≤ R.length := by
  have := nodup_le (Y.map g) (R.map g) hv (fun a ha => by
    obtain ⟨y, hy, e⟩ := List.mem_map.mp ha
    obtain ⟨r, r1, -, r2⟩ := hR y (hY y hy)
    rw [← e, cn_lab h1 h2 r2]
    exact List.mem_map.mpr ⟨r, r1, rfl⟩)
  rw [List.length_map, List.length_map] at this
  exact this
theorem pm_euler (hr : pm_rs n K rot X0) {E : List (Nat × Nat)} (hE : pm_ok n E) {R : List Nat} (hR : pm_cv n rot (pm_al E) R) {f : Nat → Nat} (hf : ∀ d, d < n → f (rot (pm_al E d)) = f d) {X : List Nat} (hX : ∀ x, x ∈ X → x < n) (hv : pm_dv f X) : X.length + K ≤ E.length + 2 * R.length := by
  obtain ⟨Y, y1, y2, y3⟩ := pm_eul hr E hE f hf X hX hv
  have := pm_cv_le hR (fun d hd => pm_cl_rot hr hd) (fun d hd => pm_cl_al) y1 y2
  omega
end PMC
end
