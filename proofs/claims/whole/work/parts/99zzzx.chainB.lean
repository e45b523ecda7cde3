/-! chain: the steps -/
theorem or_512 : ∀ a : Fin 32, ∀ b : Fin 16, ∀ l : Fin 9, nI (16 * a.val + b.val) ||| ((1 : Int32) <<< (nI l.val &&& 31)) = nI ((16 * a.val + b.val) ||| 2 ^ l.val) := by decide +kernel
theorem or_bit {r l L : Nat} (hr : r < 2 ^ L) (hl : l < L) (hL : L ≤ 9) : ∃ r', r' < 2 ^ L ∧ nI r ||| ((1 : Int32) <<< (nI l &&& 31)) = nI r' := by
  have h2 : 2 ^ L ≤ 512 := two_mono (b := 9) hL
  have := or_512 ⟨r / 16, by omega⟩ ⟨r % 16, by omega⟩ ⟨l, by omega⟩
  rw [show 16 * (r / 16) + r % 16 = r by omega] at this
  exact ⟨_, Nat.or_lt_two_pow hr (Nat.pow_lt_pow_right (by decide) hl), this⟩
theorem st_256 : ∀ a : Fin 16, ∀ b : Fin 16, ∀ x : Fin 8, btN (16 * a.val + b.val) x.val = 0 → nI (16 * a.val + b.val) ||| ((1 : Int32) <<< (nI x.val &&& 31)) = nI (16 * a.val + b.val + 2 ^ x.val) := by decide +kernel
theorem st_or {s x : Nat} (hs : s < 256) (hx : x < 8) (hb : btN s x = 0) : nI s ||| ((1 : Int32) <<< (nI x &&& 31)) = nI (s + 2 ^ x) := by
  have := st_256 ⟨s / 16, by omega⟩ ⟨s % 16, by omega⟩ ⟨x, hx⟩
  rw [show 16 * (s / 16) + s % 16 = s by omega] at this
  exact this hb
theorem st_lt {s x c : Nat} (hs : s < 2 ^ c) (hx : x < c) (hb : btN s x = 0) : s + 2 ^ x < 2 ^ c := by
  unfold btN at hb
  obtain ⟨y, rfl⟩ : ∃ y, c = x + 1 + y := ⟨c - x - 1, by omega⟩
  have hp := Nat.two_pow_pos x
  have e1 : 2 ^ (x + 1 + y) = 2 ^ x * (2 * 2 ^ y) := by rw [Nat.pow_add, Nat.pow_succ, Nat.mul_assoc]
  rw [e1] at hs ⊢
  have h1 := Nat.div_add_mod s (2 ^ x)
  have h2 := Nat.mod_lt s hp
  have h3 : s / 2 ^ x < 2 * 2 ^ y := Nat.div_lt_of_lt_mul hs
  have h4 : s / 2 ^ x + 1 < 2 * 2 ^ y := by omega
  have h5 : 2 ^ x * (s / 2 ^ x + 1 + 1) ≤ 2 ^ x * (2 * 2 ^ y) := Nat.mul_le_mul_left _ h4
  rw [Nat.mul_add, Nat.mul_add, Nat.mul_one] at h5
  omega
/-- the work row: below size at most b -/
def wkB (y : ow_MS) (size b : Nat) : Prop := ∀ i, i < size → ∃ w, w ≤ b ∧ y.2.1 89 i = nI w
theorem wkB_add {y : ow_MS} {size b i k : Nat} {x v : Int32} (h : wkB y size b) (hv : y.2.1 89 i = v) (hx : x = nI k) : wkB (usI y 89 i (v + x)) size (b + k) := by
  intro j hj
  by_cases hji : j = i
  · obtain ⟨w, hw, e⟩ := h j hj
    rw [hji] at e
    exact ⟨w + k, by omega, by rw [hji, po_usI_at, ← hv, e, hx, nI_add]⟩
  · obtain ⟨w, hw, e⟩ := h j hj
    exact ⟨w, by omega, rd_ne hji e⟩
theorem wkB_mono {y : ow_MS} {size b b2 : Nat} (hb : b ≤ b2) (h : wkB y size b) : wkB y size b2 := fun i hi => by
  obtain ⟨w, hw, e⟩ := h i hi
  exact ⟨w, by omega, e⟩
section CHB
variable {z : ow_MS}
theorem u_X13_step_13 {x2 : Int32} {x3 : Int32} {x4 : Int32} {x5 : Int32} {x6 : Int32} {x7 : Int32} {x8 : Int32} {x9 : Int32} {x10 : Int32} {x11 : Int32} {x12 : Int32} {x13 : Int32} {x14 : Int32} {x15 : Int32} {x16 : Int32} {x17 : Int32} {r1 : Nat} {t0 : Int32} {z : ow_MS} {Q : ow_MS → Prop} (H : Tt (fun K k => qm_X13_step_13 K (q_X13_step K k) x2 x3 x4 x5 x6 x7 x8 x9 x10 x11 x12 x13 x14 x15 x16 x17 r1 t0 z) Q) : Tt (fun K k => q_X13_step K k 13 x2 x3 x4 x5 x6 x7 x8 x9 x10 x11 x12 x13 x14 x15 x16 x17 r1 t0 z) Q := w_un (fun _ _ => rfl) H
theorem u_X13_step_12 {x2 : Int32} {x3 : Int32} {x4 : Int32} {x5 : Int32} {x6 : Int32} {x7 : Int32} {x8 : Int32} {x9 : Int32} {x10 : Int32} {x11 : Int32} {x12 : Int32} {x13 : Int32} {x14 : Int32} {x15 : Int32} {x16 : Int32} {x17 : Int32} {r1 : Nat} {t0 : Int32} {z : ow_MS} {Q : ow_MS → Prop} (H : Tt (fun K k => qm_X13_step_12 K (q_X13_step K k) x2 x3 x4 x5 x6 x7 x8 x9 x10 x11 x12 x13 x14 x15 x16 x17 r1 t0 z) Q) : Tt (fun K k => q_X13_step K k 12 x2 x3 x4 x5 x6 x7 x8 x9 x10 x11 x12 x13 x14 x15 x16 x17 r1 t0 z) Q := w_un (fun _ _ => rfl) H
theorem u_X13_step_11 {x2 : Int32} {x3 : Int32} {x4 : Int32} {x5 : Int32} {x6 : Int32} {x7 : Int32} {x8 : Int32} {x9 : Int32} {x10 : Int32} {x11 : Int32} {x12 : Int32} {x13 : Int32} {x14 : Int32} {x15 : Int32} {x16 : Int32} {x17 : Int32} {r1 : Nat} {t0 : Int32} {z : ow_MS} {Q : ow_MS → Prop} (H : Tt (fun K k => qm_X13_step_11 K (q_X13_step K k) x2 x3 x4 x5 x6 x7 x8 x9 x10 x11 x12 x13 x14 x15 x16 x17 r1 t0 z) Q) : Tt (fun K k => q_X13_step K k 11 x2 x3 x4 x5 x6 x7 x8 x9 x10 x11 x12 x13 x14 x15 x16 x17 r1 t0 z) Q := w_un (fun _ _ => rfl) H
theorem u_X13_step_10 {x2 : Int32} {x3 : Int32} {x4 : Int32} {x5 : Int32} {x6 : Int32} {x7 : Int32} {x8 : Int32} {x9 : Int32} {x10 : Int32} {x11 : Int32} {x12 : Int32} {x13 : Int32} {x14 : Int32} {x15 : Int32} {x16 : Int32} {x17 : Int32} {r1 : Nat} {t0 : Int32} {z : ow_MS} {Q : ow_MS → Prop} (H : Tt (fun K k => qm_X13_step_10 K (q_X13_step K k) x2 x3 x4 x5 x6 x7 x8 x9 x10 x11 x12 x13 x14 x15 x16 x17 r1 t0 z) Q) : Tt (fun K k => q_X13_step K k 10 x2 x3 x4 x5 x6 x7 x8 x9 x10 x11 x12 x13 x14 x15 x16 x17 r1 t0 z) Q := w_un (fun _ _ => rfl) H
theorem u_X13_step_9 {x2 : Int32} {x3 : Int32} {x4 : Int32} {x5 : Int32} {x6 : Int32} {x7 : Int32} {x8 : Int32} {x9 : Int32} {x10 : Int32} {x11 : Int32} {x12 : Int32} {x13 : Int32} {x14 : Int32} {x15 : Int32} {x16 : Int32} {x17 : Int32} {r1 : Nat} {t0 : Int32} {z : ow_MS} {Q : ow_MS → Prop} (H : Tt (fun K k => qm_X13_step_9 K (q_X13_step K k) x2 x3 x4 x5 x6 x7 x8 x9 x10 x11 x12 x13 x14 x15 x16 x17 r1 t0 z) Q) : Tt (fun K k => q_X13_step K k 9 x2 x3 x4 x5 x6 x7 x8 x9 x10 x11 x12 x13 x14 x15 x16 x17 r1 t0 z) Q := w_un (fun _ _ => rfl) H
theorem u_X13_step_7 {x2 : Int32} {x3 : Int32} {x4 : Int32} {x5 : Int32} {x6 : Int32} {x7 : Int32} {x8 : Int32} {x9 : Int32} {x10 : Int32} {x11 : Int32} {x12 : Int32} {x13 : Int32} {x14 : Int32} {x15 : Int32} {x16 : Int32} {x17 : Int32} {r1 : Nat} {t0 : Int32} {z : ow_MS} {Q : ow_MS → Prop} (H : Tt (fun K k => qm_X13_step_7 K (q_X13_step K k) x2 x3 x4 x5 x6 x7 x8 x9 x10 x11 x12 x13 x14 x15 x16 x17 r1 t0 z) Q) : Tt (fun K k => q_X13_step K k 7 x2 x3 x4 x5 x6 x7 x8 x9 x10 x11 x12 x13 x14 x15 x16 x17 r1 t0 z) Q := w_un (fun _ _ => rfl) H
theorem u_X13_step_8 {x2 : Int32} {x3 : Int32} {x4 : Int32} {x5 : Int32} {x6 : Int32} {x7 : Int32} {x8 : Int32} {x9 : Int32} {x10 : Int32} {x11 : Int32} {x12 : Int32} {x13 : Int32} {x14 : Int32} {x15 : Int32} {x16 : Int32} {x17 : Int32} {r1 : Nat} {t0 : Int32} {z : ow_MS} {Q : ow_MS → Prop} (H : Tt (fun K k => qm_X13_step_8 K (q_X13_step K k) x2 x3 x4 x5 x6 x7 x8 x9 x10 x11 x12 x13 x14 x15 x16 x17 r1 t0 z) Q) : Tt (fun K k => q_X13_step K k 8 x2 x3 x4 x5 x6 x7 x8 x9 x10 x11 x12 x13 x14 x15 x16 x17 r1 t0 z) Q := w_un (fun _ _ => rfl) H
theorem u_X13_step_5 {x2 : Int32} {x3 : Int32} {x4 : Int32} {x5 : Int32} {x6 : Int32} {x7 : Int32} {x8 : Int32} {x9 : Int32} {x10 : Int32} {x11 : Int32} {x12 : Int32} {x13 : Int32} {x14 : Int32} {x15 : Int32} {x16 : Int32} {x17 : Int32} {r1 : Nat} {t0 : Int32} {z : ow_MS} {Q : ow_MS → Prop} (H : Tt (fun K k => qm_X13_step_5 K (q_X13_step K k) x2 x3 x4 x5 x6 x7 x8 x9 x10 x11 x12 x13 x14 x15 x16 x17 r1 t0 z) Q) : Tt (fun K k => q_X13_step K k 5 x2 x3 x4 x5 x6 x7 x8 x9 x10 x11 x12 x13 x14 x15 x16 x17 r1 t0 z) Q := w_un (fun _ _ => rfl) H
theorem u_X13_step_6 {x2 : Int32} {x3 : Int32} {x4 : Int32} {x5 : Int32} {x6 : Int32} {x7 : Int32} {x8 : Int32} {x9 : Int32} {x10 : Int32} {x11 : Int32} {x12 : Int32} {x13 : Int32} {x14 : Int32} {x15 : Int32} {x16 : Int32} {x17 : Int32} {r1 : Nat} {t0 : Int32} {z : ow_MS} {Q : ow_MS → Prop} (H : Tt (fun K k => qm_X13_step_6 K (q_X13_step K k) x2 x3 x4 x5 x6 x7 x8 x9 x10 x11 x12 x13 x14 x15 x16 x17 r1 t0 z) Q) : Tt (fun K k => q_X13_step K k 6 x2 x3 x4 x5 x6 x7 x8 x9 x10 x11 x12 x13 x14 x15 x16 x17 r1 t0 z) Q := w_un (fun _ _ => rfl) H
theorem u_X13_step_4 {x2 : Int32} {x3 : Int32} {x4 : Int32} {x5 : Int32} {x6 : Int32} {x7 : Int32} {x8 : Int32} {x9 : Int32} {x10 : Int32} {x11 : Int32} {x12 : Int32} {x13 : Int32} {x14 : Int32} {x15 : Int32} {x16 : Int32} {x17 : Int32} {r1 : Nat} {t0 : Int32} {z : ow_MS} {Q : ow_MS → Prop} (H : Tt (fun K k => qm_X13_step_4 K (q_X13_step K k) x2 x3 x4 x5 x6 x7 x8 x9 x10 x11 x12 x13 x14 x15 x16 x17 r1 t0 z) Q) : Tt (fun K k => q_X13_step K k 4 x2 x3 x4 x5 x6 x7 x8 x9 x10 x11 x12 x13 x14 x15 x16 x17 r1 t0 z) Q := w_un (fun _ _ => rfl) H
theorem u_X13_step_3 {x2 : Int32} {x3 : Int32} {x4 : Int32} {x5 : Int32} {x6 : Int32} {x7 : Int32} {x8 : Int32} {x9 : Int32} {x10 : Int32} {x11 : Int32} {x12 : Int32} {x13 : Int32} {x14 : Int32} {x15 : Int32} {x16 : Int32} {x17 : Int32} {r1 : Nat} {t0 : Int32} {z : ow_MS} {Q : ow_MS → Prop} (H : Tt (fun K k => qm_X13_step_3 K (q_X13_step K k) x2 x3 x4 x5 x6 x7 x8 x9 x10 x11 x12 x13 x14 x15 x16 x17 r1 t0 z) Q) : Tt (fun K k => q_X13_step K k 3 x2 x3 x4 x5 x6 x7 x8 x9 x10 x11 x12 x13 x14 x15 x16 x17 r1 t0 z) Q := w_un (fun _ _ => rfl) H
theorem u_X13_step_2 {x2 : Int32} {x3 : Int32} {x4 : Int32} {x5 : Int32} {x6 : Int32} {x7 : Int32} {x8 : Int32} {x9 : Int32} {x10 : Int32} {x11 : Int32} {x12 : Int32} {x13 : Int32} {x14 : Int32} {x15 : Int32} {x16 : Int32} {x17 : Int32} {r1 : Nat} {t0 : Int32} {z : ow_MS} {Q : ow_MS → Prop} (H : Tt (fun K k => qm_X13_step_2 K (q_X13_step K k) x2 x3 x4 x5 x6 x7 x8 x9 x10 x11 x12 x13 x14 x15 x16 x17 r1 t0 z) Q) : Tt (fun K k => q_X13_step K k 2 x2 x3 x4 x5 x6 x7 x8 x9 x10 x11 x12 x13 x14 x15 x16 x17 r1 t0 z) Q := w_un (fun _ _ => rfl) H
theorem u_X13_step_1 {x2 : Int32} {x3 : Int32} {x4 : Int32} {x5 : Int32} {x6 : Int32} {x7 : Int32} {x8 : Int32} {x9 : Int32} {x10 : Int32} {x11 : Int32} {x12 : Int32} {x13 : Int32} {x14 : Int32} {x15 : Int32} {x16 : Int32} {x17 : Int32} {r1 : Nat} {t0 : Int32} {z : ow_MS} {Q : ow_MS → Prop} (H : Tt (fun K k => qm_X13_step_1 K (q_X13_step K k) x2 x3 x4 x5 x6 x7 x8 x9 x10 x11 x12 x13 x14 x15 x16 x17 r1 t0 z) Q) : Tt (fun K k => q_X13_step K k 1 x2 x3 x4 x5 x6 x7 x8 x9 x10 x11 x12 x13 x14 x15 x16 x17 r1 t0 z) Q := w_un (fun _ _ => rfl) H
theorem e_X13_step {r1 : Nat} {x2 : Int32} {x3 : Int32} {x4 : Int32} {x5 : Int32} {z : ow_MS} {Q : ow_MS → Prop} (H : Tt (fun K k => q_X13_step K k 0 x2 x3 x4 x5 0 0 0 0 0 0 0 0 0 0 0 0 r1 0 z) Q) : Te (fun K => qe_X13_step K r1 x2 x3 x4 x5 z) Q := w_te H
theorem u_X13_step_0 {x2 : Int32} {x3 : Int32} {x4 : Int32} {x5 : Int32} {x6 : Int32} {x7 : Int32} {x8 : Int32} {x9 : Int32} {x10 : Int32} {x11 : Int32} {x12 : Int32} {x13 : Int32} {x14 : Int32} {x15 : Int32} {x16 : Int32} {x17 : Int32} {r1 : Nat} {t0 : Int32} {z : ow_MS} {Q : ow_MS → Prop} (H : Tt (fun K k => qm_X13_step_0 K (q_X13_step K k) x2 x3 x4 x5 x6 x7 x8 x9 x10 x11 x12 x13 x14 x15 x16 x17 r1 t0 z) Q) : Tt (fun K k => q_X13_step K k 0 x2 x3 x4 x5 x6 x7 x8 x9 x10 x11 x12 x13 x14 x15 x16 x17 r1 t0 z) Q := w_un (fun _ _ => rfl) H
theorem tp_step {n c P s m x pr size b : Nat} {A : rn_L} {sg : Nat → Bool} (hn : mw_net n) (hK : chOK A sg c P) (hA : oNet z n A sg) (hI : stI z A sg c) (hpl : plA z A sg c) (hs : s < 2 ^ c) (hx : x < c) (hb : btN s x = 0) (hpr1 : 2 ≤ pr) (hpr : pr ≤ 997) (hw : wkB z size b) : Te (fun K => qe_X13_step K n (nI s) (nI m) (nI x) (nI pr) z) (fun z1 => wkB z1 size (b + 2 * pr) ∧ fr (fun g => g = 89) z z1) := by
  obtain ⟨hok, hc, hC, hL9, hbs, -⟩ := hK
  have hV := okF_len hok
  have hd := wkF_ok hA.wk
  have hmn := net_mod hn
  have h2c : 2 ^ c ≤ 256 := two_mono (b := 8) hc
  have ht := st_lt hs hx hb
  have hLs := hL9 s hs
  have hLt := hL9 (s + 2 ^ x) ht
  have hb1 : bsN A sg (s + 2 ^ x + 1) ≤ bsN A sg (2 ^ c) := bs_mono ht
  rw [bs_s] at hb1
  let Q : ow_MS → Prop := fun z1 => wkB z1 size (b + 2 * pr) ∧ fr (fun g => g = 89) z z1
  have lo : ∀ {t g : Nat}, t < 2 ^ c → g < A.flatten.length → ∃ l, l < LcN A sg t ∧ z.2.1 81 (32 * t + g) = nI l := fun h1 h2 => hI.2.2 _ _ h1 h2
  obtain ⟨v0, v01, v02⟩ := ok_has hok hx
  -- the place of what comes
  have plc : ∀ {r : Nat}, r < 2 ^ LcN A sg (s + 2 ^ x) → ∃ k, k < 1200 ∧ z.2.1 84 (bsN A sg (s + 2 ^ x) + r) = nI k := fun hr => hpl.2 _ (by omega)
  have c1 : ∀ (d v : Nat), v + d = v0 → (∀ u, u < v → crs A u ≠ x) → Tt (fun K i => q_X13_step K i 1 (nI s) (nI m) (nI x) (nI pr) (nI v) 0 0 0 0 0 0 0 0 0 0 0 n 0 z) Q := by
    have found : ∀ v, v < A.flatten.length → crs A v = x → Tt (fun K i => q_X13_step K i 1 (nI s) (nI m) (nI x) (nI pr) (nI v) 0 0 0 0 0 0 0 0 0 0 0 n 0 z) Q := by
      intro v hv hcv
      have hml := mtf_lt hd hv
      have hpv := rn_pv_lt hv
      have hpm := rn_pv_lt hml
      obtain ⟨la, la1, la2⟩ := lo hs hv
      obtain ⟨lb, lb1, lb2⟩ := lo hs hpv
      obtain ⟨lc, lc1, lc2⟩ := lo hs hml
      obtain ⟨ld, ld1, ld2⟩ := lo hs hpm
      obtain ⟨ka, ka1, ka2⟩ := lo ht hv
      obtain ⟨kb, kb1, kb2⟩ := lo ht hpv
      obtain ⟨kc, kc1, kc2⟩ := lo ht hml
      obtain ⟨kd, kd1, kd2⟩ := lo ht hpm
      have c2 : ∀ (one : Nat), one ≤ pr → Tt (fun K i => q_X13_step K i 2 (nI s) (nI m) (nI x) (nI pr) (nI v) (nI (mtf A v)) (nI (s + 2 ^ x)) 0 0 0 0 0 0 0 0 0 n (nI one) z) Q := by
        intro one hone
        -- from label 9 on
        have put : ∀ {r : Nat} (y : ow_MS) (bb : Nat), r < 2 ^ LcN A sg (s + 2 ^ x) → fr (fun g => g = 89) z y → wkB y size bb → ∃ k, k < 1200 ∧ y.2.1 83 (s + 2 ^ x) = nI (bsN A sg (s + 2 ^ x)) ∧ y.2.1 84 (bsN A sg (s + 2 ^ x) + r) = nI k ∧ bsN A sg (s + 2 ^ x) + r < 13200 := by
          intro r y bb hr hf hwy
          obtain ⟨k, hk, ek⟩ := plc hr
          exact ⟨k, hk, by rw [(hf 83 (by omega)).2.1]; exact hI.2.1 _ (by omega), by rw [(hf 84 (by omega)).2.1]; exact ek, by omega⟩
        have add1 : ∀ {r : Nat} (y : ow_MS) (bb : Nat) {E : ow_MS → Nat → Nat → Option ow_MS} (j : Int32), r < 2 ^ LcN A sg (s + 2 ^ x) → fr (fun g => g = 89) z y → wkB y size bb → j = nI r → (∀ y1, fr (fun g => g = 89) z y1 → wkB y1 size (bb + pr) → Tt (E y1) Q) → Tt (fun K i => rdI mX y 83 (nI (s + 2 ^ x)) fun v1 => rdI mX y 84 (v1 + j) fun v2 => rdI mX y 89 v2 fun v3 => wrI mX y 89 v2 (v3 + nI one) fun y1 => E y1 K i) Q := by
          intro r y bb E j hr hf hwy hj H
          obtain ⟨k, hk, e83, e84, hlt⟩ := put y bb hr hf hwy
          refine w_rdI ml83 rfl (by omega) e83 (w_rdI (i := bsN A sg (s + 2 ^ x) + r) ml84 (by rw [hj, nI_add]) hlt e84 (w_rdI ml89 rfl (by omega) rfl (w_wrI ml89 rfl (by omega) (H _ (fr_I2 hf rfl) (wkB_mono (by omega) (wkB_add hwy rfl rfl))))))
        have c9 : ∀ (r lx ly : Nat) (x15 x16 t0 : Int32), r < 2 ^ LcN A sg (s + 2 ^ x) → ly < LcN A sg (s + 2 ^ x) → lx < LcN A sg (s + 2 ^ x) → ∀ (x10 x11 : Int32), Tt (fun K i => q_X13_step K i 9 (nI s) (nI m) (nI x) (nI pr) (nI v) (nI (mtf A v)) (nI (s + 2 ^ x)) (nI one) x10 x11 (nI lx) (nI ly) (nI r) x15 x16 0 n t0 z) Q := by
          intro r lx ly x15 x16 t0 hr hly hlx x10 x11
          obtain ⟨r1, hr1, er1⟩ := or_bit hr hlx hLt
          obtain ⟨r2, hr2, er2⟩ := or_bit hr hly hLt
          have c13 : ∀ (x16 x17 : Int32) (y : ow_MS), fr (fun g => g = 89) z y → wkB y size (b + pr) → Tt (fun K i => q_X13_step K i 13 (nI s) (nI m) (nI x) (nI pr) (nI v) (nI (mtf A v)) (nI (s + 2 ^ x)) (nI one) x10 x11 (nI lx) (nI ly) (nI r) x15 x16 x17 n 0 y) Q := by
            intro x16 x17 y hf hwy
            refine u_X13_step_13 ?_; unfold qm_X13_step_13
            exact w_some ⟨wkB_mono (by omega) hwy, hf⟩
          have c12 : ∀ (x16 x17 : Int32), Tt (fun K i => q_X13_step K i 12 (nI s) (nI m) (nI x) (nI pr) (nI v) (nI (mtf A v)) (nI (s + 2 ^ x)) (nI one) x10 x11 (nI lx) (nI ly) (nI r) x15 x16 x17 n 0 z) Q := by
            intro x16 x17
            refine u_X13_step_12 ?_; unfold qm_X13_step_12
            exact add1 z b _ hr fr_rf hw rfl (fun y1 f1 w1 => c13 _ _ y1 f1 w1)
          have c11 : ∀ (x16 x17 : Int32), Tt (fun K i => q_X13_step K i 11 (nI s) (nI m) (nI x) (nI pr) (nI v) (nI (mtf A v)) (nI (s + 2 ^ x)) (nI one) x10 x11 (nI lx) (nI ly) (nI r) x15 x16 x17 n 0 z) Q := by
            intro x16 x17
            refine u_X13_step_11 ?_; unfold qm_X13_step_11
            exact w_if (fun _ => w_if (fun _ => c13 _ _ z fr_rf (wkB_mono (by omega) hw)) (fun _ => c12 _ _)) (fun _ => c12 _ _)
          have c10 : ∀ (x16 t0 : Int32), Tt (fun K i => q_X13_step K i 10 (nI s) (nI m) (nI x) (nI pr) (nI v) (nI (mtf A v)) (nI (s + 2 ^ x)) (nI one) x10 x11 (nI lx) (nI ly) (nI r) x15 x16 0 n t0 z) Q := by
            intro x16 t0
            refine u_X13_step_10 ?_; unfold qm_X13_step_10
            exact w_if (fun _ => c11 _ _) (fun _ => w_if (fun _ => c11 _ _) (fun _ => add1 z b _ hr1 fr_rf hw er1 (fun y1 f1 w1 => c13 _ _ y1 f1 w1)))
          refine u_X13_step_9 ?_; unfold qm_X13_step_9
          exact w_if (fun _ => w_if (fun _ => add1 z b _ hr fr_rf hw rfl (fun y1 f1 w1 => w_some ⟨wkB_mono (by omega) w1, f1⟩)) (fun _ => add1 z b _ hr1 fr_rf hw er1 (fun y1 f1 w1 => add1 y1 (b + pr) _ hr2 f1 w1 er2 (fun y2 f2 w2 => w_some ⟨wkB_mono (by omega) w2, f2⟩)))) (fun _ => w_if (fun _ => c10 _ _) (fun _ => c10 _ _))
        have c7 : ∀ (d k r lx ly : Nat) (x10 x11 : Int32), k + d = eC A + 1 → 1 ≤ k → r < 2 ^ LcN A sg (s + 2 ^ x) → ly < LcN A sg (s + 2 ^ x) → lx < LcN A sg (s + 2 ^ x) → Tt (fun K i => q_X13_step K i 7 (nI s) (nI m) (nI x) (nI pr) (nI v) (nI (mtf A v)) (nI (s + 2 ^ x)) (nI one) x10 x11 (nI lx) (nI ly) (nI r) (nI (eC A)) (nI k) 0 n 0 z) Q := by
          have heC : eC A ≤ 6 := by have := neC_eC A; omega
          intro d
          induction d with
          | zero =>
            intro k r lx ly x10 x11 hk hk1 hr hly hlx
            refine u_X13_step_7 ?_; unfold qm_X13_step_7
            exact w_ltT (by omega) (by omega) (w_if (fun _ => c9 _ _ _ _ _ _ hr hly hlx _ _) (fun _ => c9 _ _ _ _ _ _ hr hly hlx _ _))
          | succ d ih7 =>
            intro k r lx ly x10 x11 hk hk1 hr hly hlx
            have hle : k ≤ LcN A sg (s + 2 ^ x) := by unfold LcN; omega
            obtain ⟨r1, hr1, er1⟩ := or_bit (l := LcN A sg (s + 2 ^ x) - k) hr (by omega) hLt
            have c8 : ∀ r, r < 2 ^ LcN A sg (s + 2 ^ x) → Tt (fun K i => q_X13_step K i 8 (nI s) (nI m) (nI x) (nI pr) (nI v) (nI (mtf A v)) (nI (s + 2 ^ x)) (nI one) x10 x11 (nI lx) (nI ly) (nI r) (nI (eC A)) (nI k) 0 n 0 z) Q := by
              intro r hr
              refine u_X13_step_8 ?_; unfold qm_X13_step_8
              rw [show nI k + 1 = nI (k + 1) from nI_1 _]
              exact ih7 (k + 1) r lx ly _ _ (by omega) (by omega) hr hly hlx
            refine u_X13_step_7 ?_; unfold qm_X13_step_7
            refine w_ltF (by omega) (by omega) (w_rdI ml82 rfl (by omega) (hI.1 s hs) (w_if (fun _ => w_rdI ml82 rfl (by omega) (hI.1 _ ht) ?_) (fun _ => c8 r hr)))
            rw [pk_sub hle, er1]
            exact c8 r1 hr1
        have c5 : ∀ (d g r lx ly : Nat) (x10 x11 : Int32), g + d = A.flatten.length → r < 2 ^ LcN A sg (s + 2 ^ x) → ly < LcN A sg (s + 2 ^ x) → lx < LcN A sg (s + 2 ^ x) → Tt (fun K i => q_X13_step K i 5 (nI s) (nI m) (nI x) (nI pr) (nI v) (nI (mtf A v)) (nI (s + 2 ^ x)) (nI one) x10 x11 (nI lx) (nI ly) (nI r) (nI g) 0 0 n 0 z) Q := by
          intro d
          induction d with
          | zero =>
            intro g r lx ly x10 x11 hg hr hly hlx
            refine u_X13_step_5 ?_; unfold qm_X13_step_5
            refine w_rdF hA.1.V (w_leT (by omega) (by omega) (w_cs1 (tp_circles2 hn (by omega) (by omega) hA.1.1) (fun a y e => ?_)))
            cases e
            exact c7 (eC A) 1 r lx ly _ _ (by omega) (Nat.le_refl _) hr hly hlx
          | succ d ih5 =>
            intro g r lx ly x10 x11 hg hr hly hlx
            have hgl : g < A.flatten.length := by omega
            obtain ⟨l, l1, l2⟩ := lo hs hgl
            obtain ⟨l', l'1, l'2⟩ := lo ht hgl
            obtain ⟨r1, hr1, er1⟩ := or_bit hr l'1 hLt
            have c6 : ∀ r (x16 : Int32), r < 2 ^ LcN A sg (s + 2 ^ x) → Tt (fun K i => q_X13_step K i 6 (nI s) (nI m) (nI x) (nI pr) (nI v) (nI (mtf A v)) (nI (s + 2 ^ x)) (nI one) x10 x11 (nI lx) (nI ly) (nI r) (nI g) x16 0 n 0 z) Q := by
              intro r x16 hr
              refine u_X13_step_6 ?_; unfold qm_X13_step_6
              rw [show nI g + 1 = nI (g + 1) from nI_1 _]
              exact ih5 (g + 1) r lx ly _ _ (by omega) hr hly hlx
            refine u_X13_step_5 ?_; unfold qm_X13_step_5
            rw [i32x, i32x]
            refine w_rdF hA.1.V (w_leF (by omega) hgl (w_rdI ml81 rfl (by omega) l2 (w_if (fun _ => c6 _ _ hr) (fun _ => w_if (fun _ => c6 _ _ hr) (fun _ => w_if (fun _ => w_rdI ml81 rfl (by omega) l'2 ?_) (fun _ => c6 _ _ hr))))))
            rw [er1]
            exact c6 _ _ hr1
        have c4 : ∀ (ly : Nat) (x10 x11 : Int32), ly < LcN A sg (s + 2 ^ x) → Tt (fun K i => q_X13_step K i 4 (nI s) (nI m) (nI x) (nI pr) (nI v) (nI (mtf A v)) (nI (s + 2 ^ x)) (nI one) x10 x11 (nI ka) 0 0 0 0 0 n (nI ly) z) Q := by
          intro ly x10 x11 hly
          refine u_X13_step_4 ?_; unfold qm_X13_step_4
          exact c5 A.flatten.length 0 0 ka ly _ _ (by omega) (Nat.two_pow_pos _) hly ka1
        have c3 : ∀ (x10 x11 : Int32), Tt (fun K i => q_X13_step K i 3 (nI s) (nI m) (nI x) (nI pr) (nI v) (nI (mtf A v)) (nI (s + 2 ^ x)) (nI one) x10 0 0 0 0 0 0 0 n x11 z) Q := by
          intro x10 x11
          refine u_X13_step_3 ?_; unfold qm_X13_step_3
          rw [i32x, i32x]
          exact w_rdI ml81 rfl (by omega) ka2 (w_rdI (pl10 hn) rfl (by omega) (lk_p hA.1 hv) (w_rdI ml81 i32x (by omega) kb2 (w_if (fun _ => w_rdI ml81 rfl (by omega) kc2 (w_if (fun _ => w_rdI (pl10 hn) rfl (by omega) (lk_p hA.1 hml) (w_rdI ml81 i32x (by omega) kd2 (c4 _ _ _ kd1))) (fun _ => w_rdI ml81 rfl (by omega) kc2 (c4 _ _ _ kc1)))) (fun _ => w_rdI (pl10 hn) rfl (by omega) (lk_p hA.1 hv) (w_rdI ml81 i32x (by omega) kb2 (c4 _ _ _ kb1))))))
        refine u_X13_step_2 ?_; unfold qm_X13_step_2
        rw [i32x, i32x]
        exact w_rdI ml81 rfl (by omega) la2 (w_rdI (pl10 hn) rfl (by omega) (lk_p hA.1 hv) (w_rdI ml81 i32x (by omega) lb2 (w_if (fun _ => w_rdI ml81 rfl (by omega) lc2 (w_if (fun _ => w_rdI (pl10 hn) rfl (by omega) (lk_p hA.1 hml) (w_rdI ml81 i32x (by omega) ld2 (c3 _ _))) (fun _ => w_rdI ml81 rfl (by omega) lc2 (c3 _ _)))) (fun _ => w_rdI (pl10 hn) rfl (by omega) (lk_p hA.1 hv) (w_rdI ml81 i32x (by omega) lb2 (c3 _ _))))))
      refine u_X13_step_1 ?_; unfold qm_X13_step_1
      refine w_rdI (pl4 hn) rfl (by omega) (lk_cu hA.1 hv).1 (w_ifT (by rw [hcv]) (w_rdI (pl7 hn) rfl (by omega) (lk_m hd hA.1 hv) ?_))
      rw [st_or (by omega) (by omega) hb]
      refine w_if (fun _ => c2 1 (by omega)) (fun _ => ?_)
      rw [show nI pr - 1 = nI (pr - 1) from pk_sub (b := 1) (by omega)]
      exact c2 (pr - 1) (by omega)
    intro d
    induction d with
    | zero =>
      intro v hv _
      exact found v (by omega) (by rw [show v = v0 by omega]; exact v02)
    | succ d ih =>
      intro v hv hall
      by_cases hcv : crs A v = x
      · exact found v (by omega) hcv
      · have hcx := (hA.cx (i := v) (by omega)).1
        refine u_X13_step_1 ?_; unfold qm_X13_step_1
        refine w_rdI (pl4 hn) rfl (by omega) (lk_cu hA.1 (by omega)).1 (w_ifF (fun e9 => hcv ((nI_eq (by omega) (by omega)).mp e9)) ?_)
        rw [show nI v + 1 = nI (v + 1) from nI_1 _]
        refine ih (v + 1) (by omega) (fun u hu => ?_)
        by_cases huv : u = v
        · rw [huv]; exact hcv
        · exact hall u (by omega)
  refine e_X13_step ?_
  refine u_X13_step_0 ?_; unfold qm_X13_step_0
  exact c1 v0 0 (by omega) (fun u hu => absurd hu (by omega))
end CHB
