/-! the class: signature: colours of sides, and the small matrix -/
/-- the colour of a side -/
def kS (w : Nat → Bool) (s : Nat) : Bool := if s % 2 = 0 then w (s / 2) else !w (s / 2)
theorem ga_on {c : Nat} {S : ow_NP} {G : Nat → Int32} {w : Nat → Bool} (hw : gaO c S w) (hv : vn c S) {s : Nat} (hs : s < 4 * c) : kS w (fc_on S G s) = kS w s := by
  have key : ∀ v, v < 2 * c → ∀ b : Bool, (if b = true then kS w (2 * mt v) else kS w (2 * S.2 (mt v) + 1)) = !w v := by
    intro v hv1 b
    have hm := mt_lt hv1
    have e1 : w (mt v) = !w v := (hw v hv1).2
    have e2 : w (S.2 (mt v)) = w v := by
      have h2 := (hw (S.2 (mt v)) (hv (mt v) hm).2.1).1
      rw [(hv (mt v) hm).2.2.2, e1] at h2
      cases h3 : w (S.2 (mt v)) <;> cases h4 : w v <;> simp_all
    split
    · unfold kS
      rw [if_pos (by omega), show 2 * mt v / 2 = mt v by omega, e1]
    · unfold kS
      rw [if_neg (by omega), show (2 * S.2 (mt v) + 1) / 2 = S.2 (mt v) by omega, e2]
  have he : fc_end S.1 s < 2 * c ∧ w (fc_end S.1 s) = !kS w s := by
    unfold fc_end kS
    by_cases h : s % 2 = 0
    · rw [if_pos h, if_pos h]
      exact ⟨(hv _ (by omega)).1, (hw _ (by omega)).1⟩
    · rw [if_neg h, if_neg h, Bool.not_not]
      exact ⟨by omega, rfl⟩
  have := key _ he.1 ((decide (fc_end S.1 s % 2 = 0) == decide (0 < G (fc_end S.1 s / 2))) == decide (s % 2 = 0))
  rw [he.2, Bool.not_not] at this
  rw [← this]
  unfold fc_on
  split <;> rfl
theorem kS_lr {w : Nat → Bool} (v : Nat) : kS w (2 * v) ≠ kS w (2 * v + 1) := by
  unfold kS
  rw [if_pos (by omega), if_neg (by omega), show 2 * v / 2 = v by omega, show (2 * v + 1) / 2 = v by omega]
  cases w v <;> decide
theorem w_cpJ {O : Type} {Q : O → Prop} {X : ow_Tb} {z : ow_MS} {h g a b n la lb : Nat} {sp dp m : Int32} {E : ow_MS → Nat → Nat → Option O} (hL : (X.2 h).2.1 = la) (hG : (X.2 g).2.1 = lb) (h1 : sp = nI a) (h2 : dp = nI b) (h3 : m = nI n) (ha : a + n ≤ la) (hb : b + n ≤ lb) (H : Tt (E (z.1, z.2.1, fun j => if j = g then va_cpy (z.2.2 h) (z.2.2 g) a b n else z.2.2 j)) Q) (hla : la < 2 ^ 31 := by omega) (hlb : lb < 2 ^ 31 := by omega) : Tt (fun K k => cpJ X z h sp g dp m (fun v => E v K k)) Q := by
  have e : (fun K k => cpJ X z h sp g dp m (fun v => E v K k)) = E (z.1, z.2.1, fun j => if j = g then va_cpy (z.2.2 h) (z.2.2 g) a b n else z.2.2 j) := by
    funext K k
    unfold cpJ uw_len
    rw [h1, h2, h3, nI_clamp (by omega), nI_clamp (by omega), nI_clamp (by omega), if_neg]
    rintro (h9 | h9 | h9 | h9 | h9)
    · exact nI_pos (by omega) h9
    · exact nI_pos (by omega) h9
    · exact nI_pos (by omega) h9
    · omega
    · omega
  rw [e]
  exact H
section SGN
variable {vl : Nat → Nat} {y : ow_MS}
theorem ch_6005 : ((cX vl).2 6005).2.1 = 64 := rfl
theorem ch_6006 : ((cX vl).2 6006).2.1 = 64 := rfl
theorem ch_6007 : ((cX vl).2 6007).2.1 = 64 := rfl
theorem ch_6008 : ((cX vl).2 6008).2.1 = 9 := rfl
theorem ix8 (a b : Nat) : nI a * (8 : Int32) + nI b = nI (8 * a + b) := by
  rw [show nI a * (8 : Int32) = nI (8 * a) from (Int32.mul_comm _ _).trans (pk_mul 8 a), nI_add]
theorem u_X4_addAt_2 {vl : Nat → Nat} {x1 : Int32} {x2 : Int32} {x3 : Int32} {x4 : Int32} {r0 : Nat} {z : ow_MS} {Q : ow_MS → Prop} (H : Tt (fun K k => cm_X4_addAt_2 vl K (c_X4_addAt vl K k) x1 x2 x3 x4 r0 z) Q) : Tt (fun K k => c_X4_addAt vl K k 2 x1 x2 x3 x4 r0 z) Q := w_un (fun _ _ => rfl) H
theorem u_X4_addAt_1 {vl : Nat → Nat} {x1 : Int32} {x2 : Int32} {x3 : Int32} {x4 : Int32} {r0 : Nat} {z : ow_MS} {Q : ow_MS → Prop} (H : Tt (fun K k => cm_X4_addAt_1 vl K (c_X4_addAt vl K k) x1 x2 x3 x4 r0 z) Q) : Tt (fun K k => c_X4_addAt vl K k 1 x1 x2 x3 x4 r0 z) Q := w_un (fun _ _ => rfl) H
theorem e_X4_addAt {vl : Nat → Nat} {r0 : Nat} {x1 : Int32} {x2 : Int32} {x3 : Int32} {x4 : Int32} {z : ow_MS} {Q : ow_MS → Prop} (H : Tt (fun K k => c_X4_addAt vl K k 0 x1 x2 x3 x4 r0 z) Q) : Te (fun K => ce_X4_addAt vl K r0 x1 x2 x3 x4 z) Q := w_te H
theorem u_X4_addAt_0 {vl : Nat → Nat} {x1 : Int32} {x2 : Int32} {x3 : Int32} {x4 : Int32} {r0 : Nat} {z : ow_MS} {Q : ow_MS → Prop} (H : Tt (fun K k => cm_X4_addAt_0 vl K (c_X4_addAt vl K k) x1 x2 x3 x4 r0 z) Q) : Tt (fun K k => c_X4_addAt vl K k 0 x1 x2 x3 x4 r0 z) Q := w_un (fun _ _ => rfl) H
theorem tc_addAt {n : Nat} {x1 x2 x3 : Int32} (hn : n ≤ 8) : Te (fun K => ce_X4_addAt vl K 6000 x1 x2 x3 (nI n) y) (fun y1 => fr (fun g => g = 6005) y y1) := by
  let Q : ow_MS → Prop := fun y1 => fr (fun g => g = 6005) y y1
  have ofx : ∀ x : Int32, ¬ x < 0 → ¬ nI n ≤ x → ∃ k, k < n ∧ x = nI k := by
    intro x h1 h2
    obtain ⟨k, hk, rfl⟩ := nI_of (x := x) h1
    refine ⟨k, ?_, rfl⟩
    rcases Nat.lt_or_ge k n with h | h
    · exact h
    · exact absurd (nI_le h hk) h2
  have c2 : ∀ z, Q z → Tt (fun K k => c_X4_addAt vl K k 2 x1 x2 x3 (nI n) 6000 z) Q := by
    intro z hz
    refine u_X4_addAt_2 ?_; unfold cm_X4_addAt_2
    refine w_if (fun _ => w_some hz) (fun a1 => w_if (fun _ => w_some hz) (fun a2 => w_if (fun _ => w_some hz) (fun b1 => w_if (fun _ => w_some hz) (fun b2 => ?_))))
    obtain ⟨k, hk, rfl⟩ := ofx x1 a1 a2
    obtain ⟨l, hl, rfl⟩ := ofx x2 b1 b2
    rw [ix8, ix8]
    exact w_crJ ch_6005 rfl (by omega) rfl (w_ctJ ch_6005 rfl (by omega) (w_crJ ch_6005 rfl (by omega) rfl (w_ctJ ch_6005 rfl (by omega) (w_some (fr_J2 (fr_J2 hz rfl) rfl)))))
  have c1 : ∀ z, Q z → Tt (fun K k => c_X4_addAt vl K k 1 x1 x2 x3 (nI n) 6000 z) Q := by
    intro z hz
    refine u_X4_addAt_1 ?_; unfold cm_X4_addAt_1
    refine w_if (fun _ => c2 z hz) (fun b1 => w_if (fun _ => c2 z hz) (fun b2 => ?_))
    obtain ⟨l, hl, e⟩ := ofx x2 b1 b2
    have e9 : x2 * 8 + x2 = nI (8 * l + l) := by rw [e, ix8]
    exact w_crJ ch_6005 e9 (by omega) rfl (w_ctJ ch_6005 e9 (by omega) (c2 _ (fr_J2 hz rfl)))
  refine e_X4_addAt ?_
  refine u_X4_addAt_0 ?_; unfold cm_X4_addAt_0
  refine w_if (fun _ => c1 y fr_rf) (fun b1 => w_if (fun _ => c1 y fr_rf) (fun b2 => ?_))
  obtain ⟨l, hl, e⟩ := ofx x1 b1 b2
  have e9 : x1 * 8 + x1 = nI (8 * l + l) := by rw [e, ix8]
  exact w_crJ ch_6005 e9 (by omega) rfl (w_ctJ ch_6005 e9 (by omega) (c1 _ (fr_J rfl)))
theorem u_X4_signChanges_1 {vl : Nat → Nat} {x1 : Int32} {x2 : Int32} {x3 : Int32} {x6 : Int32} {w4 : Int64} {w7 : Int64} {r0 : Nat} {t0 : Int32} {y0 : Int64} {y1 : Int64} {z : ow_MS} {Q : (Int32 × ow_MS) → Prop} (H : Tt (fun K k => cm_X4_signChanges_1 vl K (c_X4_signChanges vl K k) x1 x2 x3 x6 w4 w7 r0 t0 y0 y1 z) Q) : Tt (fun K k => c_X4_signChanges vl K k 1 x1 x2 x3 x6 w4 w7 r0 t0 y0 y1 z) Q := w_un (fun _ _ => rfl) H
theorem u_X4_signChanges_7 {vl : Nat → Nat} {x1 : Int32} {x2 : Int32} {x3 : Int32} {x6 : Int32} {w4 : Int64} {w7 : Int64} {r0 : Nat} {t0 : Int32} {y0 : Int64} {y1 : Int64} {z : ow_MS} {Q : (Int32 × ow_MS) → Prop} (H : Tt (fun K k => cm_X4_signChanges_7 vl K (c_X4_signChanges vl K k) x1 x2 x3 x6 w4 w7 r0 t0 y0 y1 z) Q) : Tt (fun K k => c_X4_signChanges vl K k 7 x1 x2 x3 x6 w4 w7 r0 t0 y0 y1 z) Q := w_un (fun _ _ => rfl) H
theorem u_X4_signChanges_6 {vl : Nat → Nat} {x1 : Int32} {x2 : Int32} {x3 : Int32} {x6 : Int32} {w4 : Int64} {w7 : Int64} {r0 : Nat} {t0 : Int32} {y0 : Int64} {y1 : Int64} {z : ow_MS} {Q : (Int32 × ow_MS) → Prop} (H : Tt (fun K k => cm_X4_signChanges_6 vl K (c_X4_signChanges vl K k) x1 x2 x3 x6 w4 w7 r0 t0 y0 y1 z) Q) : Tt (fun K k => c_X4_signChanges vl K k 6 x1 x2 x3 x6 w4 w7 r0 t0 y0 y1 z) Q := w_un (fun _ _ => rfl) H
theorem u_X4_signChanges_5 {vl : Nat → Nat} {x1 : Int32} {x2 : Int32} {x3 : Int32} {x6 : Int32} {w4 : Int64} {w7 : Int64} {r0 : Nat} {t0 : Int32} {y0 : Int64} {y1 : Int64} {z : ow_MS} {Q : (Int32 × ow_MS) → Prop} (H : Tt (fun K k => cm_X4_signChanges_5 vl K (c_X4_signChanges vl K k) x1 x2 x3 x6 w4 w7 r0 t0 y0 y1 z) Q) : Tt (fun K k => c_X4_signChanges vl K k 5 x1 x2 x3 x6 w4 w7 r0 t0 y0 y1 z) Q := w_un (fun _ _ => rfl) H
theorem u_X4_signChanges_4 {vl : Nat → Nat} {x1 : Int32} {x2 : Int32} {x3 : Int32} {x6 : Int32} {w4 : Int64} {w7 : Int64} {r0 : Nat} {t0 : Int32} {y0 : Int64} {y1 : Int64} {z : ow_MS} {Q : (Int32 × ow_MS) → Prop} (H : Tt (fun K k => cm_X4_signChanges_4 vl K (c_X4_signChanges vl K k) x1 x2 x3 x6 w4 w7 r0 t0 y0 y1 z) Q) : Tt (fun K k => c_X4_signChanges vl K k 4 x1 x2 x3 x6 w4 w7 r0 t0 y0 y1 z) Q := w_un (fun _ _ => rfl) H
theorem u_X4_signChanges_3 {vl : Nat → Nat} {x1 : Int32} {x2 : Int32} {x3 : Int32} {x6 : Int32} {w4 : Int64} {w7 : Int64} {r0 : Nat} {t0 : Int32} {y0 : Int64} {y1 : Int64} {z : ow_MS} {Q : (Int32 × ow_MS) → Prop} (H : Tt (fun K k => cm_X4_signChanges_3 vl K (c_X4_signChanges vl K k) x1 x2 x3 x6 w4 w7 r0 t0 y0 y1 z) Q) : Tt (fun K k => c_X4_signChanges vl K k 3 x1 x2 x3 x6 w4 w7 r0 t0 y0 y1 z) Q := w_un (fun _ _ => rfl) H
theorem u_X4_signChanges_2 {vl : Nat → Nat} {x1 : Int32} {x2 : Int32} {x3 : Int32} {x6 : Int32} {w4 : Int64} {w7 : Int64} {r0 : Nat} {t0 : Int32} {y0 : Int64} {y1 : Int64} {z : ow_MS} {Q : (Int32 × ow_MS) → Prop} (H : Tt (fun K k => cm_X4_signChanges_2 vl K (c_X4_signChanges vl K k) x1 x2 x3 x6 w4 w7 r0 t0 y0 y1 z) Q) : Tt (fun K k => c_X4_signChanges vl K k 2 x1 x2 x3 x6 w4 w7 r0 t0 y0 y1 z) Q := w_un (fun _ _ => rfl) H
theorem e_X4_signChanges {vl : Nat → Nat} {r0 : Nat} {x1 : Int32} {x2 : Int32} {z : ow_MS} {Q : (Int32 × ow_MS) → Prop} (H : Tt (fun K k => c_X4_signChanges vl K k 0 x1 x2 0 0 0 0 r0 0 0 0 z) Q) : Te (fun K => ce_X4_signChanges vl K r0 x1 x2 z) Q := w_te H
theorem u_X4_signChanges_0 {vl : Nat → Nat} {x1 : Int32} {x2 : Int32} {x3 : Int32} {x6 : Int32} {w4 : Int64} {w7 : Int64} {r0 : Nat} {t0 : Int32} {y0 : Int64} {y1 : Int64} {z : ow_MS} {Q : (Int32 × ow_MS) → Prop} (H : Tt (fun K k => cm_X4_signChanges_0 vl K (c_X4_signChanges vl K k) x1 x2 x3 x6 w4 w7 r0 t0 y0 y1 z) Q) : Tt (fun K k => c_X4_signChanges vl K k 0 x1 x2 x3 x6 w4 w7 r0 t0 y0 y1 z) Q := w_un (fun _ _ => rfl) H
theorem tc_signChanges {n : Nat} {x2 : Int32} (hn : n ≤ 8) : Te (fun K => ce_X4_signChanges vl K 6000 (nI n) x2 y) (fun r => r.2 = y) := by
  have c1 : ∀ (d i : Nat) (x3 : Int32) (w4 : Int64), i + d = n + 1 → Tt (fun K k => c_X4_signChanges vl K k 1 (nI n) x2 x3 (nI i) w4 0 6000 0 0 0 y) (fun r => r.2 = y) := by
    intro d
    induction d with
    | zero =>
      intro i x3 w4 hi
      refine u_X4_signChanges_1 ?_; unfold cm_X4_signChanges_1
      exact w_ltT (by omega) (by omega) (w_some rfl)
    | succ d ih =>
      intro i x3 w4 hi
      have c7 : ∀ (x3 : Int32) (w4 w7 : Int64), Tt (fun K k => c_X4_signChanges vl K k 7 (nI n) x2 x3 (nI i) w4 w7 6000 0 0 0 y) (fun r => r.2 = y) := by
        intro x3 w4 w7
        refine u_X4_signChanges_7 ?_; unfold cm_X4_signChanges_7
        rw [nI_1]
        exact ih (i + 1) _ _ (by omega)
      have c6 : ∀ (x3 : Int32) (w4 w7 : Int64), Tt (fun K k => c_X4_signChanges vl K k 6 (nI n) x2 x3 (nI i) w4 w7 6000 0 0 0 y) (fun r => r.2 = y) := by
        intro x3 w4 w7
        refine u_X4_signChanges_6 ?_; unfold cm_X4_signChanges_6
        exact c7 _ _ _
      have c5 : ∀ (x3 : Int32) (w4 w7 : Int64), Tt (fun K k => c_X4_signChanges vl K k 5 (nI n) x2 x3 (nI i) w4 w7 6000 0 0 0 y) (fun r => r.2 = y) := by
        intro x3 w4 w7
        refine u_X4_signChanges_5 ?_; unfold cm_X4_signChanges_5
        exact c6 _ _ _
      have c4 : ∀ (x3 : Int32) (w4 w7 : Int64), Tt (fun K k => c_X4_signChanges vl K k 4 (nI n) x2 x3 (nI i) w4 w7 6000 0 0 0 y) (fun r => r.2 = y) := by
        intro x3 w4 w7
        refine u_X4_signChanges_4 ?_; unfold cm_X4_signChanges_4
        exact w_if (fun _ => c6 _ _ _) (fun _ => w_if (fun _ => c6 _ _ _) (fun _ => c5 _ _ _))
      have c3 : ∀ (x3 : Int32) (w4 : Int64) (t0 : Int32) (y1 : Int64), Tt (fun K k => c_X4_signChanges vl K k 3 (nI n) x2 x3 (nI i) w4 0 6000 t0 0 y1 y) (fun r => r.2 = y) := by
        intro x3 w4 t0 y1
        refine u_X4_signChanges_3 ?_; unfold cm_X4_signChanges_3
        exact w_if (fun _ => c7 _ _ _) (fun _ => w_if (fun _ => c4 _ _ _) (fun _ => w_if (fun _ => c5 _ _ _) (fun _ => c4 _ _ _)))
      have c2 : ∀ (x3 : Int32) (w4 : Int64) (y0 : Int64), Tt (fun K k => c_X4_signChanges vl K k 2 (nI n) x2 x3 (nI i) w4 0 6000 0 y0 0 y) (fun r => r.2 = y) := by
        intro x3 w4 y0
        refine u_X4_signChanges_2 ?_; unfold cm_X4_signChanges_2
        exact c3 _ _ _ _
      refine u_X4_signChanges_1 ?_; unfold cm_X4_signChanges_1
      exact w_ltF (by omega) (by omega) (w_crJ ch_6008 rfl (by omega) rfl (w_if (fun _ => c2 _ _ _) (fun _ => w_if (fun _ => c3 _ _ _ _) (fun _ => c2 _ _ _))))
  refine e_X4_signChanges ?_
  refine u_X4_signChanges_0 ?_; unfold cm_X4_signChanges_0
  exact c1 (n + 1) 0 _ _ (by omega)
def fcP (g : Nat) : Prop := g = 6006 ∨ g = 6007 ∨ g = 6008
theorem u_X4_findCharacteristic_1 {vl : Nat → Nat} {x1 : Int32} {x2 : Int32} {x3 : Int32} {x5 : Int32} {x6 : Int32} {x9 : Int32} {w3 : Int64} {w7 : Int64} {r0 : Nat} {z : ow_MS} {Q : ow_MS → Prop} (H : Tt (fun K k => cm_X4_findCharacteristic_1 vl K (c_X4_findCharacteristic vl K k) x1 x2 x3 x5 x6 x9 w3 w7 r0 z) Q) : Tt (fun K k => c_X4_findCharacteristic vl K k 1 x1 x2 x3 x5 x6 x9 w3 w7 r0 z) Q := w_un (fun _ _ => rfl) H
theorem u_X4_findCharacteristic_3 {vl : Nat → Nat} {x1 : Int32} {x2 : Int32} {x3 : Int32} {x5 : Int32} {x6 : Int32} {x9 : Int32} {w3 : Int64} {w7 : Int64} {r0 : Nat} {z : ow_MS} {Q : ow_MS → Prop} (H : Tt (fun K k => cm_X4_findCharacteristic_3 vl K (c_X4_findCharacteristic vl K k) x1 x2 x3 x5 x6 x9 w3 w7 r0 z) Q) : Tt (fun K k => c_X4_findCharacteristic vl K k 3 x1 x2 x3 x5 x6 x9 w3 w7 r0 z) Q := w_un (fun _ _ => rfl) H
theorem u_X4_findCharacteristic_4 {vl : Nat → Nat} {x1 : Int32} {x2 : Int32} {x3 : Int32} {x5 : Int32} {x6 : Int32} {x9 : Int32} {w3 : Int64} {w7 : Int64} {r0 : Nat} {z : ow_MS} {Q : ow_MS → Prop} (H : Tt (fun K k => cm_X4_findCharacteristic_4 vl K (c_X4_findCharacteristic vl K k) x1 x2 x3 x5 x6 x9 w3 w7 r0 z) Q) : Tt (fun K k => c_X4_findCharacteristic vl K k 4 x1 x2 x3 x5 x6 x9 w3 w7 r0 z) Q := w_un (fun _ _ => rfl) H
theorem u_X4_findCharacteristic_5 {vl : Nat → Nat} {x1 : Int32} {x2 : Int32} {x3 : Int32} {x5 : Int32} {x6 : Int32} {x9 : Int32} {w3 : Int64} {w7 : Int64} {r0 : Nat} {z : ow_MS} {Q : ow_MS → Prop} (H : Tt (fun K k => cm_X4_findCharacteristic_5 vl K (c_X4_findCharacteristic vl K k) x1 x2 x3 x5 x6 x9 w3 w7 r0 z) Q) : Tt (fun K k => c_X4_findCharacteristic vl K k 5 x1 x2 x3 x5 x6 x9 w3 w7 r0 z) Q := w_un (fun _ _ => rfl) H
theorem u_X4_findCharacteristic_2 {vl : Nat → Nat} {x1 : Int32} {x2 : Int32} {x3 : Int32} {x5 : Int32} {x6 : Int32} {x9 : Int32} {w3 : Int64} {w7 : Int64} {r0 : Nat} {z : ow_MS} {Q : ow_MS → Prop} (H : Tt (fun K k => cm_X4_findCharacteristic_2 vl K (c_X4_findCharacteristic vl K k) x1 x2 x3 x5 x6 x9 w3 w7 r0 z) Q) : Tt (fun K k => c_X4_findCharacteristic vl K k 2 x1 x2 x3 x5 x6 x9 w3 w7 r0 z) Q := w_un (fun _ _ => rfl) H
theorem e_X4_findCharacteristic {vl : Nat → Nat} {r0 : Nat} {x1 : Int32} {z : ow_MS} {Q : ow_MS → Prop} (H : Tt (fun K k => c_X4_findCharacteristic vl K k 0 x1 0 0 0 0 0 0 0 r0 z) Q) : Te (fun K => ce_X4_findCharacteristic vl K r0 x1 z) Q := w_te H
theorem u_X4_findCharacteristic_0 {vl : Nat → Nat} {x1 : Int32} {x2 : Int32} {x3 : Int32} {x5 : Int32} {x6 : Int32} {x9 : Int32} {w3 : Int64} {w7 : Int64} {r0 : Nat} {z : ow_MS} {Q : ow_MS → Prop} (H : Tt (fun K k => cm_X4_findCharacteristic_0 vl K (c_X4_findCharacteristic vl K k) x1 x2 x3 x5 x6 x9 w3 w7 r0 z) Q) : Tt (fun K k => c_X4_findCharacteristic vl K k 0 x1 x2 x3 x5 x6 x9 w3 w7 r0 z) Q := w_un (fun _ _ => rfl) H
theorem tc_findChar {n : Nat} (hn : n ≤ 8) : Te (fun K => ce_X4_findCharacteristic vl K 6000 (nI n) y) (fun y1 => fr fcP y y1) := by
  let Q : ow_MS → Prop := fun y1 => fr fcP y y1
  have c1 : ∀ (d k : Nat) (z : ow_MS), k + d = n + 1 → 1 ≤ k → Q z → Tt (fun K t => c_X4_findCharacteristic vl K t 1 (nI n) (nI k) 0 0 0 0 0 0 6000 z) Q := by
    intro d
    induction d with
    | zero =>
      intro k z hk _ hz
      refine u_X4_findCharacteristic_1 ?_; unfold cm_X4_findCharacteristic_1
      exact w_ltT (by omega) (by omega) (w_some hz)
    | succ d ih =>
      intro k z hk hk1 hz
      have hnz : (nI k).toInt64 ≠ 0 := by
        have key : ∀ k : Fin 9, 1 ≤ k.val → (nI k.val).toInt64 ≠ 0 := by decide +kernel
        exact key ⟨k, by omega⟩ hk1
      have e1 : nI n - nI k = nI (n - k) := pk_sub (by omega)
      have c3 : ∀ (e i : Nat) (w3 : Int64) (z : ow_MS), i + e = n → Q z → Tt (fun K t => c_X4_findCharacteristic vl K t 3 (nI n) (nI k) 0 (nI i) 0 0 w3 0 6000 z) Q := by
        intro e
        induction e with
        | zero =>
          intro i w3 z hi hz
          refine u_X4_findCharacteristic_3 ?_; unfold cm_X4_findCharacteristic_3
          rw [e1, nI_1]
          refine w_leT (by omega) (by omega) (w_nzJ hnz (w_ctJ ch_6008 rfl (by omega) (w_cpJ (a := 0) (b := 0) (n := 64) ch_6007 ch_6006 rfl rfl rfl (by omega) (by omega) (ih (k + 1) _ (by omega) (by omega) ?_))))
          intro g hg
          have h1 := (fr_J2 (i := n - k) (y := (-w3) / (nI k).toInt64) hz (show fcP (6000 + 8) from Or.inr (Or.inr rfl))) g hg
          refine ⟨h1.1, h1.2.1, ?_⟩
          have hne : g ≠ 6000 + 6 := fun h9 => hg (by rw [h9]; exact Or.inl rfl)
          exact (if_neg hne).trans h1.2.2
        | succ e ihe =>
          intro i w3 z hi hz
          have c4 : ∀ (e2 j : Nat) (z : ow_MS), j + e2 = n → Q z → Tt (fun K t => c_X4_findCharacteristic vl K t 4 (nI n) (nI k) 0 (nI i) (nI j) 0 w3 0 6000 z) Q := by
            intro e2
            induction e2 with
            | zero =>
              intro j z hj hz
              refine u_X4_findCharacteristic_4 ?_; unfold cm_X4_findCharacteristic_4
              rw [ix8, nI_1]
              exact w_leT (by omega) (by omega) (w_crJ ch_6007 rfl (by omega) rfl (ihe (i + 1) _ z (by omega) hz))
            | succ e2 ih2 =>
              intro j z hj hz
              have c5 : ∀ (e3 m : Nat) (w7 : Int64), m + e3 = n → Tt (fun K t => c_X4_findCharacteristic vl K t 5 (nI n) (nI k) 0 (nI i) (nI j) (nI m) w3 w7 6000 z) Q := by
                intro e3
                induction e3 with
                | zero =>
                  intro m w7 hm
                  refine u_X4_findCharacteristic_5 ?_; unfold cm_X4_findCharacteristic_5
                  rw [ix8, nI_1 j]
                  exact w_leT (by omega) (by omega) (w_ctJ ch_6007 rfl (by omega) (ih2 (j + 1) _ (by omega) (fr_J2 hz (Or.inr (Or.inl rfl)))))
                | succ e3 ih3 =>
                  intro m w7 hm
                  refine u_X4_findCharacteristic_5 ?_; unfold cm_X4_findCharacteristic_5
                  refine w_leF (by omega) (by omega) (w_crJ ch_6005 (ix8 i m) (by omega) rfl (w_crJ ch_6006 (ix8 m j) (by omega) rfl ?_))
                  rw [nI_1]
                  exact ih3 (m + 1) _ (by omega)
              refine u_X4_findCharacteristic_4 ?_; unfold cm_X4_findCharacteristic_4
              exact w_leF (by omega) (by omega) (c5 n 0 _ (by omega))
          refine u_X4_findCharacteristic_3 ?_; unfold cm_X4_findCharacteristic_3
          exact w_leF (by omega) (by omega) (c4 n 0 z (by omega) hz)
      have c2 : ∀ (e i : Nat) (z : ow_MS), i + e = n → Q z → Tt (fun K t => c_X4_findCharacteristic vl K t 2 (nI n) (nI k) (nI i) 0 0 0 0 0 6000 z) Q := by
        intro e
        induction e with
        | zero =>
          intro i z hi hz
          refine u_X4_findCharacteristic_2 ?_; unfold cm_X4_findCharacteristic_2
          exact w_leT (by omega) (by omega) (c3 n 0 _ z (by omega) hz)
        | succ e ihe =>
          intro i z hi hz
          refine u_X4_findCharacteristic_2 ?_; unfold cm_X4_findCharacteristic_2
          rw [e1, ix8, nI_1, nI_1]
          exact w_leF (by omega) (by omega) (w_crJ ch_6006 rfl (by omega) rfl (w_crJ ch_6008 rfl (by omega) rfl (w_ctJ ch_6006 rfl (by omega) (ihe (i + 1) _ (by omega) (fr_J2 hz (Or.inl rfl))))))
      refine u_X4_findCharacteristic_1 ?_; unfold cm_X4_findCharacteristic_1
      exact w_ltF (by omega) (by omega) (c2 n 0 z (by omega) hz)
  refine e_X4_findCharacteristic ?_
  refine u_X4_findCharacteristic_0 ?_; unfold cm_X4_findCharacteristic_0
  refine w_cs0 (tc_fillJ ch_6008 (by omega)) ?_
  rintro z1 ⟨-, f1⟩
  refine w_cs0 (tc_fillJ ch_6006 (by omega)) ?_
  rintro z2 ⟨-, f2⟩
  exact w_ctJ ch_6008 rfl (by omega) (c1 n 1 _ (by omega) (by omega) (fr_J2 (fr_tr (fr_mono (fun g hg => Or.inr (Or.inr hg)) f1) (fr_mono (fun g hg => Or.inl hg) f2)) (Or.inr (Or.inr rfl))))
theorem e_X4_eigenvalueSigns {vl : Nat → Nat} {r0 : Nat} {x1 : Int32} {z : ow_MS} {Q : (Int32 × ow_MS) → Prop} (H : Tt (fun K _ => cm_X4_eigenvalueSigns_0 vl K x1 r0 z) Q) : Te (fun K => ce_X4_eigenvalueSigns vl K r0 x1 z) Q := w_te0 H
theorem tc_eigen {n : Nat} (hn : n ≤ 8) : Te (fun K => ce_X4_eigenvalueSigns vl K 6000 (nI n) y) (fun r => fr fcP y r.2) := by
  refine e_X4_eigenvalueSigns ?_; unfold cm_X4_eigenvalueSigns_0
  refine w_cs0 (tc_findChar hn) ?_
  rintro z1 f1
  refine w_cs1 (tc_signChanges hn) ?_
  rintro v1 z2 e2
  have e2 : z2 = z1 := e2
  rw [e2]
  refine w_cs1 (tc_signChanges hn) ?_
  rintro v3 z4 e4
  have e4 : z4 = z1 := e4
  rw [e4]
  exact w_some f1
end SGN
