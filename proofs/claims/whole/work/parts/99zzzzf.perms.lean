/-! the reference's constructor: its tables of permutations -/
theorem ma74 : (mX_a.2 74).2.1 = 480 := rfl
theorem ma75 : (mX_a.2 75).2.1 = 2880 := rfl
theorem ma76 : (mX_a.2 76).2.1 = 2880 := rfl
theorem ma97 : (mX_a.2 97).2.1 = 6 := rfl
theorem ma98 : (mX_a.2 98).2.1 = 3600 := rfl
theorem ma99 : (mX_a.2 99).2.1 = 7200 := rfl
theorem ma100 : (mX_a.2 100).2.1 = 720 := rfl
theorem ma101 : (mX_a.2 101).2.1 = 2880 := rfl
theorem ma102 : (mX_a.2 102).2.1 = 720 := rfl
theorem ma103 : (mX_a.2 103).2.1 = 720 := rfl
theorem ma104 : (mX_a.2 104).2.1 = 2880 := rfl
theorem ma105 : (mX_a.2 105).2.1 = 2880 := rfl
theorem ma106 : (mX_a.2 106).2.1 = 5 := rfl
theorem ma107 : (mX_a.2 107).2.1 = 400 := rfl
def sP (x3 x5 : Int32) : Int32 := ((x3 : Int32) >>> (((2 * x5) : Int32) &&& 31)) &&& 3
theorem sP_c : ∀ c : Fin 256, ∀ a : Fin 4, sP (nI c.val) (nI a.val) = nI (c.val / 4 ^ a.val % 4) := by decide +kernel
theorem sP_t {c a : Nat} (hc : c < 256) (ha : a < 4) : ∃ t, t ≤ 3 ∧ sP (nI c) (nI a) = nI t := ⟨c / 4 ^ a % 4, by have := Nat.mod_lt (c / 4 ^ a) (show 0 < 4 by omega); omega, sP_c ⟨c, hc⟩ ⟨a, ha⟩⟩
def pmI (c t : Int32) : Nat → Nat → Int32 → Int32
  | 0, _, x => x
  | d + 1, b, x => pmI c t d (b + 1) (x &&& (if sP c (nI b) = t then 0 else 1))
def pmO (m c : Nat) : Nat → Nat → Int32 → Int32
  | 0, _, x => x
  | d + 1, a, x => pmO m c d (a + 1) (pmI (nI c) (sP (nI c) (nI a)) a 0 (x &&& (if nI m ≤ nI a then (if sP (nI c) (nI a) = nI a then 1 else 0) else (if nI m ≤ sP (nI c) (nI a) then 0 else 1))))
def pmA (m c : Nat) : Bool := decide (pmO m c 4 0 1 ≠ 0)
def pmC (m : Nat) : Nat → Nat
  | 0 => 0
  | c + 1 => pmC m c + (if pmA m c = true then 1 else 0)
theorem pmC_c : pmC 1 256 = 1 ∧ pmC 2 256 = 2 ∧ pmC 3 256 = 6 ∧ pmC 4 256 = 24 := by decide +kernel
theorem pmC_th {m : Nat} (h1 : 1 ≤ m) (h4 : m ≤ 4) : pmC m 256 = thM m := by
  obtain ⟨a, b, c, d⟩ := pmC_c
  have : m = 1 ∨ m = 2 ∨ m = 3 ∨ m = 4 := by omega
  rcases this with rfl | rfl | rfl | rfl
  · exact a
  · exact b
  · exact c
  · exact d
theorem pmC_mono (m : Nat) : ∀ d c, pmC m c ≤ pmC m (c + d)
  | 0, c => Nat.le_refl _
  | d + 1, c => Nat.le_trans (pmC_mono m d c) (by show _ ≤ pmC m (c + d) + _; omega)
theorem pmC_le {m c : Nat} (h1 : 1 ≤ m) (h4 : m ≤ 4) (hc : c ≤ 256) : pmC m c ≤ thM m := by
  have := pmC_mono m (256 - c) c
  rw [show c + (256 - c) = 256 by omega, pmC_th h1 h4] at this
  exact this
theorem pmC_lt {m c : Nat} (h1 : 1 ≤ m) (h4 : m ≤ 4) (hc : c < 256) (ha : pmA m c = true) : pmC m c + 1 ≤ thM m := by
  have := pmC_le h1 h4 (show c + 1 ≤ 256 by omega)
  have e : pmC m (c + 1) = pmC m c + (if pmA m c = true then 1 else 0) := rfl
  rw [e, if_pos ha] at this
  exact this
def pmJ (y : ow_MS) : Prop := (∀ i, ∃ t, t ≤ 3 ∧ y.2.1 74 i = nI t) ∧ ∀ m, 1 ≤ m → m ≤ 4 → ∀ o p, o < thM m → p < thM m → (∃ q, q < thM m ∧ y.2.1 75 (576 * m + 24 * o + p) = nI q) ∧ ∃ q, q < thM m ∧ y.2.1 76 (576 * m + 24 * o + p) = nI q
theorem pmJ_74 {y : ow_MS} {i t : Nat} (h : pmJ y) (ht : t ≤ 3) : pmJ (usI y 74 i (nI t)) := by
  refine ⟨fun j => ?_, fun m h1 h4 o p ho hp => ?_⟩
  · by_cases hj : j = i
    · exact ⟨t, ht, by rw [hj]; exact po_usI_at⟩
    · obtain ⟨t', a, b⟩ := h.1 j
      exact ⟨t', a, rd_ne hj b⟩
  · obtain ⟨⟨q, a, b⟩, q', a', b'⟩ := h.2 m h1 h4 o p ho hp
    exact ⟨⟨q, a, rd_ot (by omega) b⟩, q', a', rd_ot (by omega) b'⟩
theorem pm_ix {m o p m' o' p' : Nat} (e : 576 * m + 24 * o + p = 576 * m' + 24 * o' + p') (ho : o < thM m) (hp : p < thM m) (ho' : o' < thM m') (hp' : p' < thM m') : m = m' := by
  have := (thM_le m).2
  have := (thM_le m').2
  omega
theorem pmJ_75 {y : ow_MS} {m o p q : Nat} (h : pmJ y) (ho : o < thM m) (hp : p < thM m) (hq : q < thM m) : pmJ (usI y 75 (576 * m + 24 * o + p) (nI q)) := by
  refine ⟨fun j => ?_, fun m' h1 h4 o' p' ho' hp' => ?_⟩
  · obtain ⟨t', a, b⟩ := h.1 j
    exact ⟨t', a, rd_ot (by omega) b⟩
  · obtain ⟨⟨q1, a, b⟩, q', a', b'⟩ := h.2 m' h1 h4 o' p' ho' hp'
    refine ⟨?_, q', a', rd_ot (by omega) b'⟩
    by_cases hj : 576 * m' + 24 * o' + p' = 576 * m + 24 * o + p
    · have := pm_ix hj ho' hp' ho hp
      exact ⟨q, by rw [this]; exact hq, by rw [hj]; exact po_usI_at⟩
    · exact ⟨q1, a, rd_ne hj b⟩
theorem pmJ_76 {y : ow_MS} {m o p q : Nat} (h : pmJ y) (ho : o < thM m) (hp : p < thM m) (hq : q < thM m) : pmJ (usI y 76 (576 * m + 24 * o + p) (nI q)) := by
  refine ⟨fun j => ?_, fun m' h1 h4 o' p' ho' hp' => ?_⟩
  · obtain ⟨t', a, b⟩ := h.1 j
    exact ⟨t', a, rd_ot (by omega) b⟩
  · obtain ⟨⟨q1, a, b⟩, q', a', b'⟩ := h.2 m' h1 h4 o' p' ho' hp'
    refine ⟨⟨q1, a, rd_ot (by omega) b⟩, ?_⟩
    by_cases hj : 576 * m' + 24 * o' + p' = 576 * m + 24 * o + p
    · have := pm_ix hj ho' hp' ho hp
      exact ⟨q, by rw [this]; exact hq, by rw [hj]; exact po_usI_at⟩
    · exact ⟨q', a', rd_ne hj b'⟩
theorem e_X13_image_a {x1 : Int32} {x2 : Int32} {x3 : Int32} {z : ow_MS} {Q : (Int32 × ow_MS) → Prop} (H : Tt (fun K _ => qm_X13_image_0_a K x1 x2 x3 z) Q) : Te (fun K => qe_X13_image_a K x1 x2 x3 z) Q := w_te0 H
theorem tp_image_a {y : ow_MS} {m p a : Nat} (hy : pmJ y) (hm : m ≤ 4) (hp : p < 24) (ha : a ≤ 3) : Te (fun K => qe_X13_image_a K (nI m) (nI p) (nI a) y) (fun r => (∃ t, t ≤ 3 ∧ r.1 = nI t) ∧ r.2 = y) := by
  obtain ⟨t, ht, e⟩ := hy.1 (96 * m + 4 * p + a)
  refine e_X13_image_a ?_; unfold qm_X13_image_0_a
  exact w_rdI ma74 (by rw [show (96 : Int32) * nI m = nI (96 * m) from pk_mul 96 m, show (4 : Int32) * nI p = nI (4 * p) from pk_mul 4 p, nI_add, nI_add]) (by omega) e (w_some ⟨⟨t, ht, rfl⟩, rfl⟩)
def pmP (g : Nat) : Prop := g = 74 ∨ g = 75 ∨ g = 76
theorem pm576 {m o p : Nat} : (576 : Int32) * nI m + 24 * nI o + nI p = nI (576 * m + 24 * o + p) := by
  rw [show (576 : Int32) * nI m = nI (576 * m) from pk_mul 576 m, show (24 : Int32) * nI o = nI (24 * o) from pk_mul 24 o, nI_add, nI_add]
theorem pm96 {m p a : Nat} : (96 : Int32) * nI m + 4 * nI p + nI a = nI (96 * m + 4 * p + a) := by
  rw [show (96 : Int32) * nI m = nI (96 * m) from pk_mul 96 m, show (4 : Int32) * nI p = nI (4 * p) from pk_mul 4 p, nI_add, nI_add]
theorem u_X13_makePermutations_a_1 {x1 : Int32} {x2 : Int32} {x3 : Int32} {x4 : Int32} {x5 : Int32} {x6 : Int32} {x7 : Int32} {x8 : Int32} {t0 : Int32} {t1 : Int32} {z : ow_MS} {Q : ow_MS → Prop} (H : Tt (fun K k => qm_X13_makePermutations_1_a K (q_X13_makePermutations_a K k) x1 x2 x3 x4 x5 x6 x7 x8 t0 t1 z) Q) : Tt (fun K k => q_X13_makePermutations_a K k 1 x1 x2 x3 x4 x5 x6 x7 x8 t0 t1 z) Q := w_un (fun _ _ => rfl) H
theorem u_X13_makePermutations_a_16 {x1 : Int32} {x2 : Int32} {x3 : Int32} {x4 : Int32} {x5 : Int32} {x6 : Int32} {x7 : Int32} {x8 : Int32} {t0 : Int32} {t1 : Int32} {z : ow_MS} {Q : ow_MS → Prop} (H : Tt (fun K k => qm_X13_makePermutations_16_a K (q_X13_makePermutations_a K k) x1 x2 x3 x4 x5 x6 x7 x8 t0 t1 z) Q) : Tt (fun K k => q_X13_makePermutations_a K k 16 x1 x2 x3 x4 x5 x6 x7 x8 t0 t1 z) Q := w_un (fun _ _ => rfl) H
theorem u_X13_makePermutations_a_15 {x1 : Int32} {x2 : Int32} {x3 : Int32} {x4 : Int32} {x5 : Int32} {x6 : Int32} {x7 : Int32} {x8 : Int32} {t0 : Int32} {t1 : Int32} {z : ow_MS} {Q : ow_MS → Prop} (H : Tt (fun K k => qm_X13_makePermutations_15_a K (q_X13_makePermutations_a K k) x1 x2 x3 x4 x5 x6 x7 x8 t0 t1 z) Q) : Tt (fun K k => q_X13_makePermutations_a K k 15 x1 x2 x3 x4 x5 x6 x7 x8 t0 t1 z) Q := w_un (fun _ _ => rfl) H
theorem u_X13_makePermutations_a_12 {x1 : Int32} {x2 : Int32} {x3 : Int32} {x4 : Int32} {x5 : Int32} {x6 : Int32} {x7 : Int32} {x8 : Int32} {t0 : Int32} {t1 : Int32} {z : ow_MS} {Q : ow_MS → Prop} (H : Tt (fun K k => qm_X13_makePermutations_12_a K (q_X13_makePermutations_a K k) x1 x2 x3 x4 x5 x6 x7 x8 t0 t1 z) Q) : Tt (fun K k => q_X13_makePermutations_a K k 12 x1 x2 x3 x4 x5 x6 x7 x8 t0 t1 z) Q := w_un (fun _ _ => rfl) H
theorem u_X13_makePermutations_a_14 {x1 : Int32} {x2 : Int32} {x3 : Int32} {x4 : Int32} {x5 : Int32} {x6 : Int32} {x7 : Int32} {x8 : Int32} {t0 : Int32} {t1 : Int32} {z : ow_MS} {Q : ow_MS → Prop} (H : Tt (fun K k => qm_X13_makePermutations_14_a K (q_X13_makePermutations_a K k) x1 x2 x3 x4 x5 x6 x7 x8 t0 t1 z) Q) : Tt (fun K k => q_X13_makePermutations_a K k 14 x1 x2 x3 x4 x5 x6 x7 x8 t0 t1 z) Q := w_un (fun _ _ => rfl) H
theorem u_X13_makePermutations_a_13 {x1 : Int32} {x2 : Int32} {x3 : Int32} {x4 : Int32} {x5 : Int32} {x6 : Int32} {x7 : Int32} {x8 : Int32} {t0 : Int32} {t1 : Int32} {z : ow_MS} {Q : ow_MS → Prop} (H : Tt (fun K k => qm_X13_makePermutations_13_a K (q_X13_makePermutations_a K k) x1 x2 x3 x4 x5 x6 x7 x8 t0 t1 z) Q) : Tt (fun K k => q_X13_makePermutations_a K k 13 x1 x2 x3 x4 x5 x6 x7 x8 t0 t1 z) Q := w_un (fun _ _ => rfl) H
theorem u_X13_makePermutations_a_11 {x1 : Int32} {x2 : Int32} {x3 : Int32} {x4 : Int32} {x5 : Int32} {x6 : Int32} {x7 : Int32} {x8 : Int32} {t0 : Int32} {t1 : Int32} {z : ow_MS} {Q : ow_MS → Prop} (H : Tt (fun K k => qm_X13_makePermutations_11_a K (q_X13_makePermutations_a K k) x1 x2 x3 x4 x5 x6 x7 x8 t0 t1 z) Q) : Tt (fun K k => q_X13_makePermutations_a K k 11 x1 x2 x3 x4 x5 x6 x7 x8 t0 t1 z) Q := w_un (fun _ _ => rfl) H
theorem u_X13_makePermutations_a_10 {x1 : Int32} {x2 : Int32} {x3 : Int32} {x4 : Int32} {x5 : Int32} {x6 : Int32} {x7 : Int32} {x8 : Int32} {t0 : Int32} {t1 : Int32} {z : ow_MS} {Q : ow_MS → Prop} (H : Tt (fun K k => qm_X13_makePermutations_10_a K (q_X13_makePermutations_a K k) x1 x2 x3 x4 x5 x6 x7 x8 t0 t1 z) Q) : Tt (fun K k => q_X13_makePermutations_a K k 10 x1 x2 x3 x4 x5 x6 x7 x8 t0 t1 z) Q := w_un (fun _ _ => rfl) H
theorem u_X13_makePermutations_a_9 {x1 : Int32} {x2 : Int32} {x3 : Int32} {x4 : Int32} {x5 : Int32} {x6 : Int32} {x7 : Int32} {x8 : Int32} {t0 : Int32} {t1 : Int32} {z : ow_MS} {Q : ow_MS → Prop} (H : Tt (fun K k => qm_X13_makePermutations_9_a K (q_X13_makePermutations_a K k) x1 x2 x3 x4 x5 x6 x7 x8 t0 t1 z) Q) : Tt (fun K k => q_X13_makePermutations_a K k 9 x1 x2 x3 x4 x5 x6 x7 x8 t0 t1 z) Q := w_un (fun _ _ => rfl) H
theorem u_X13_makePermutations_a_2 {x1 : Int32} {x2 : Int32} {x3 : Int32} {x4 : Int32} {x5 : Int32} {x6 : Int32} {x7 : Int32} {x8 : Int32} {t0 : Int32} {t1 : Int32} {z : ow_MS} {Q : ow_MS → Prop} (H : Tt (fun K k => qm_X13_makePermutations_2_a K (q_X13_makePermutations_a K k) x1 x2 x3 x4 x5 x6 x7 x8 t0 t1 z) Q) : Tt (fun K k => q_X13_makePermutations_a K k 2 x1 x2 x3 x4 x5 x6 x7 x8 t0 t1 z) Q := w_un (fun _ _ => rfl) H
theorem u_X13_makePermutations_a_8 {x1 : Int32} {x2 : Int32} {x3 : Int32} {x4 : Int32} {x5 : Int32} {x6 : Int32} {x7 : Int32} {x8 : Int32} {t0 : Int32} {t1 : Int32} {z : ow_MS} {Q : ow_MS → Prop} (H : Tt (fun K k => qm_X13_makePermutations_8_a K (q_X13_makePermutations_a K k) x1 x2 x3 x4 x5 x6 x7 x8 t0 t1 z) Q) : Tt (fun K k => q_X13_makePermutations_a K k 8 x1 x2 x3 x4 x5 x6 x7 x8 t0 t1 z) Q := w_un (fun _ _ => rfl) H
theorem u_X13_makePermutations_a_7 {x1 : Int32} {x2 : Int32} {x3 : Int32} {x4 : Int32} {x5 : Int32} {x6 : Int32} {x7 : Int32} {x8 : Int32} {t0 : Int32} {t1 : Int32} {z : ow_MS} {Q : ow_MS → Prop} (H : Tt (fun K k => qm_X13_makePermutations_7_a K (q_X13_makePermutations_a K k) x1 x2 x3 x4 x5 x6 x7 x8 t0 t1 z) Q) : Tt (fun K k => q_X13_makePermutations_a K k 7 x1 x2 x3 x4 x5 x6 x7 x8 t0 t1 z) Q := w_un (fun _ _ => rfl) H
theorem u_X13_makePermutations_a_3 {x1 : Int32} {x2 : Int32} {x3 : Int32} {x4 : Int32} {x5 : Int32} {x6 : Int32} {x7 : Int32} {x8 : Int32} {t0 : Int32} {t1 : Int32} {z : ow_MS} {Q : ow_MS → Prop} (H : Tt (fun K k => qm_X13_makePermutations_3_a K (q_X13_makePermutations_a K k) x1 x2 x3 x4 x5 x6 x7 x8 t0 t1 z) Q) : Tt (fun K k => q_X13_makePermutations_a K k 3 x1 x2 x3 x4 x5 x6 x7 x8 t0 t1 z) Q := w_un (fun _ _ => rfl) H
theorem u_X13_makePermutations_a_5 {x1 : Int32} {x2 : Int32} {x3 : Int32} {x4 : Int32} {x5 : Int32} {x6 : Int32} {x7 : Int32} {x8 : Int32} {t0 : Int32} {t1 : Int32} {z : ow_MS} {Q : ow_MS → Prop} (H : Tt (fun K k => qm_X13_makePermutations_5_a K (q_X13_makePermutations_a K k) x1 x2 x3 x4 x5 x6 x7 x8 t0 t1 z) Q) : Tt (fun K k => q_X13_makePermutations_a K k 5 x1 x2 x3 x4 x5 x6 x7 x8 t0 t1 z) Q := w_un (fun _ _ => rfl) H
theorem u_X13_makePermutations_a_6 {x1 : Int32} {x2 : Int32} {x3 : Int32} {x4 : Int32} {x5 : Int32} {x6 : Int32} {x7 : Int32} {x8 : Int32} {t0 : Int32} {t1 : Int32} {z : ow_MS} {Q : ow_MS → Prop} (H : Tt (fun K k => qm_X13_makePermutations_6_a K (q_X13_makePermutations_a K k) x1 x2 x3 x4 x5 x6 x7 x8 t0 t1 z) Q) : Tt (fun K k => q_X13_makePermutations_a K k 6 x1 x2 x3 x4 x5 x6 x7 x8 t0 t1 z) Q := w_un (fun _ _ => rfl) H
theorem u_X13_makePermutations_a_4 {x1 : Int32} {x2 : Int32} {x3 : Int32} {x4 : Int32} {x5 : Int32} {x6 : Int32} {x7 : Int32} {x8 : Int32} {t0 : Int32} {t1 : Int32} {z : ow_MS} {Q : ow_MS → Prop} (H : Tt (fun K k => qm_X13_makePermutations_4_a K (q_X13_makePermutations_a K k) x1 x2 x3 x4 x5 x6 x7 x8 t0 t1 z) Q) : Tt (fun K k => q_X13_makePermutations_a K k 4 x1 x2 x3 x4 x5 x6 x7 x8 t0 t1 z) Q := w_un (fun _ _ => rfl) H
theorem e_X13_makePermutations_a {z : ow_MS} {Q : ow_MS → Prop} (H : Tt (fun K k => q_X13_makePermutations_a K k 0 0 0 0 0 0 0 0 0 0 0 z) Q) : Te (fun K => qe_X13_makePermutations_a K z) Q := w_te H
theorem u_X13_makePermutations_a_0 {x1 : Int32} {x2 : Int32} {x3 : Int32} {x4 : Int32} {x5 : Int32} {x6 : Int32} {x7 : Int32} {x8 : Int32} {t0 : Int32} {t1 : Int32} {z : ow_MS} {Q : ow_MS → Prop} (H : Tt (fun K k => qm_X13_makePermutations_0_a K (q_X13_makePermutations_a K k) x1 x2 x3 x4 x5 x6 x7 x8 t0 t1 z) Q) : Tt (fun K k => q_X13_makePermutations_a K k 0 x1 x2 x3 x4 x5 x6 x7 x8 t0 t1 z) Q := w_un (fun _ _ => rfl) H
theorem tp_perms_a {z : ow_MS} (hz : pmJ z) : Te (fun K => qe_X13_makePermutations_a K z) (fun z1 => pmJ z1 ∧ fr pmP z z1) := by
  let Q : ow_MS → Prop := fun z1 => pmJ z1 ∧ fr pmP z z1
  have key : ∀ (dm m : Nat) (y : ow_MS), m + dm = 5 → 1 ≤ m → Q y → Tt (fun K t => q_X13_makePermutations_a K t 1 (nI m) 0 0 0 0 0 0 0 0 0 y) Q := by
    intro dm
    induction dm with
    | zero =>
      intro m y hm h1 hy
      refine u_X13_makePermutations_a_1 ?_; unfold qm_X13_makePermutations_1_a
      exact w_ltT (a := 4) (by omega) (by omega) (w_some hy)
    | succ dm ihm =>
      intro m y hm h1 hy
      have h4 : m ≤ 4 := by omega
      have hT := thM_le m
      generalize hTT : thM m = T at hT
      -- the three loops over o, x, y
      have c12 : ∀ (o x w : Nat), o < T → x < T → w < T → (∀ y', Q y' → Tt (fun K t => q_X13_makePermutations_a K t 11 (nI m) (nI T) (nI o) (nI x) (nI (w + 1)) 0 0 0 0 0 y') Q) → ∀ (d a : Nat) (x6 x7 : Int32) (y' : ow_MS), a + d = m → Q y' → Tt (fun K t => q_X13_makePermutations_a K t 12 (nI m) (nI T) (nI o) (nI x) (nI w) x6 x7 (nI a) 0 0 y') Q := by
        intro o x w ho hx hw K11 d
        have k16 : ∀ (x6 x7 x8 : Int32) (y' : ow_MS), Q y' → Tt (fun K t => q_X13_makePermutations_a K t 16 (nI m) (nI T) (nI o) (nI x) (nI w) x6 x7 x8 0 0 y') Q := by
          intro x6 x7 x8 y' hy'
          refine u_X13_makePermutations_a_16 ?_; unfold qm_X13_makePermutations_16_a
          rw [nI_1]
          exact K11 y' hy'
        have k15 : ∀ (x6 x7 x8 : Int32) (y' : ow_MS), Q y' → Tt (fun K t => q_X13_makePermutations_a K t 15 (nI m) (nI T) (nI o) (nI x) (nI w) x6 x7 x8 0 0 y') Q := by
          intro x6 x7 x8 y' hy'
          refine u_X13_makePermutations_a_15 ?_; unfold qm_X13_makePermutations_15_a
          rw [pm576]
          exact w_if (fun _ => k16 _ _ _ _ hy') (fun _ => w_wrI ma76 rfl (by omega) (k16 _ _ _ _ ⟨pmJ_76 hy'.1 (by omega) (by omega) (by omega), fr_I2 hy'.2 (Or.inr (Or.inr rfl))⟩))
        induction d with
        | zero =>
          intro a x6 x7 y' ha hy'
          refine u_X13_makePermutations_a_12 ?_; unfold qm_X13_makePermutations_12_a
          rw [pm576]
          exact w_leT (by omega) (by omega) (w_if (fun _ => k15 _ _ _ _ hy') (fun _ => w_wrI ma75 rfl (by omega) (k15 _ _ _ _ ⟨pmJ_75 hy'.1 (by omega) (by omega) (by omega), fr_I2 hy'.2 (Or.inr (Or.inl rfl))⟩)))
        | succ d ih =>
          intro a x6 x7 y' ha hy'
          have k14 : ∀ (x6 x7 t0 t1 : Int32), Tt (fun K t => q_X13_makePermutations_a K t 14 (nI m) (nI T) (nI o) (nI x) (nI w) x6 x7 (nI a) t0 t1 y') Q := by
            intro x6 x7 t0 t1
            refine u_X13_makePermutations_a_14 ?_; unfold qm_X13_makePermutations_14_a
            rw [nI_1]
            exact ih (a + 1) _ _ y' (by omega) hy'
          have k13 : ∀ (x6 x7 t0 t1 : Int32), Tt (fun K t => q_X13_makePermutations_a K t 13 (nI m) (nI T) (nI o) (nI x) (nI w) x6 x7 (nI a) t0 t1 y') Q := by
            intro x6 x7 t0 t1
            refine u_X13_makePermutations_a_13 ?_; unfold qm_X13_makePermutations_13_a
            refine w_cs1 (tp_image_a hy'.1 h4 (by omega) (by omega)) ?_
            rintro v y1 ⟨⟨t2, ht2, e2⟩, e1⟩
            dsimp only at e1 e2
            subst e1
            subst e2
            refine w_cs1 (tp_image_a hy'.1 h4 (by omega) ht2) ?_
            rintro v y1 ⟨⟨t3, ht3, e2⟩, e1⟩
            dsimp only at e1 e2
            subst e1
            subst e2
            refine w_cs1 (tp_image_a hy'.1 h4 (by omega) (by omega)) ?_
            rintro v y1 ⟨⟨t4, ht4, e2⟩, e1⟩
            dsimp only at e1 e2
            subst e1
            subst e2
            refine w_cs1 (tp_image_a hy'.1 h4 (by omega) ht4) ?_
            rintro v y1 ⟨⟨t5, ht5, e2⟩, e1⟩
            dsimp only at e1 e2
            subst e1
            subst e2
            exact w_if (fun _ => k14 _ _ _ _) (fun _ => k14 _ _ _ _)
          refine u_X13_makePermutations_a_12 ?_; unfold qm_X13_makePermutations_12_a
          refine w_leF (by omega) (by omega) ?_
          refine w_cs1 (tp_image_a hy'.1 h4 (by omega) (by omega)) ?_
          rintro v y1 ⟨⟨t2, ht2, e2⟩, e1⟩
          dsimp only at e1 e2
          subst e1
          subst e2
          refine w_cs1 (tp_image_a hy'.1 h4 (by omega) ht2) ?_
          rintro v y1 ⟨⟨t3, ht3, e2⟩, e1⟩
          dsimp only at e1 e2
          subst e1
          subst e2
          refine w_cs1 (tp_image_a hy'.1 h4 (by omega) (by omega)) ?_
          rintro v y1 ⟨⟨t4, ht4, e2⟩, e1⟩
          dsimp only at e1 e2
          subst e1
          subst e2
          refine w_cs1 (tp_image_a hy'.1 h4 (by omega) ht4) ?_
          rintro v y1 ⟨⟨t5, ht5, e2⟩, e1⟩
          dsimp only at e1 e2
          subst e1
          subst e2
          exact w_if (fun _ => k13 _ _ _ _) (fun _ => k13 _ _ _ _)
      have c11 : ∀ (o x : Nat), o < T → x < T → (∀ y', Q y' → Tt (fun K t => q_X13_makePermutations_a K t 10 (nI m) (nI T) (nI o) (nI (x + 1)) 0 0 0 0 0 0 y') Q) → ∀ (d w : Nat) (y' : ow_MS), w + d = T → Q y' → Tt (fun K t => q_X13_makePermutations_a K t 11 (nI m) (nI T) (nI o) (nI x) (nI w) 0 0 0 0 0 y') Q := by
        intro o x ho hx K10 d
        induction d with
        | zero =>
          intro w y' hw hy'
          refine u_X13_makePermutations_a_11 ?_; unfold qm_X13_makePermutations_11_a
          rw [nI_1]
          exact w_leT (by omega) (by omega) (K10 y' hy')
        | succ d ih =>
          intro w y' hw hy'
          refine u_X13_makePermutations_a_11 ?_; unfold qm_X13_makePermutations_11_a
          exact w_leF (by omega) (by omega) (c12 o x w ho hx (by omega) (fun y2 h2 => ih (w + 1) y2 (by omega) h2) m 0 1 1 y' (by omega) hy')
      have c10 : ∀ (o : Nat), o < T → (∀ y', Q y' → Tt (fun K t => q_X13_makePermutations_a K t 9 (nI m) (nI T) (nI (o + 1)) 0 0 0 0 0 0 0 y') Q) → ∀ (d x : Nat) (y' : ow_MS), x + d = T → Q y' → Tt (fun K t => q_X13_makePermutations_a K t 10 (nI m) (nI T) (nI o) (nI x) 0 0 0 0 0 0 y') Q := by
        intro o ho K9 d
        induction d with
        | zero =>
          intro x y' hx hy'
          refine u_X13_makePermutations_a_10 ?_; unfold qm_X13_makePermutations_10_a
          rw [nI_1]
          exact w_leT (by omega) (by omega) (K9 y' hy')
        | succ d ih =>
          intro x y' hx hy'
          refine u_X13_makePermutations_a_10 ?_; unfold qm_X13_makePermutations_10_a
          exact w_leF (by omega) (by omega) (c11 o x ho (by omega) (fun y2 h2 => ih (x + 1) y2 (by omega) h2) T 0 y' (by omega) hy')
      have c9 : ∀ (d o : Nat) (y' : ow_MS), o + d = T → Q y' → Tt (fun K t => q_X13_makePermutations_a K t 9 (nI m) (nI T) (nI o) 0 0 0 0 0 0 0 y') Q := by
        intro d
        induction d with
        | zero =>
          intro o y' ho hy'
          refine u_X13_makePermutations_a_9 ?_; unfold qm_X13_makePermutations_9_a
          rw [nI_1]
          exact w_leT (by omega) (by omega) (ihm (m + 1) y' (by omega) (by omega) hy')
        | succ d ih =>
          intro o y' ho hy'
          refine u_X13_makePermutations_a_9 ?_; unfold qm_X13_makePermutations_9_a
          exact w_leF (by omega) (by omega) (c10 o (by omega) (fun y2 h2 => ih (o + 1) y2 (by omega) h2) T 0 y' (by omega) hy')
      -- the codes
      have c2 : ∀ (d c : Nat) (y' : ow_MS), c + d = 256 → Q y' → Tt (fun K t => q_X13_makePermutations_a K t 2 (nI m) (nI (pmC m c)) (nI c) 0 0 0 0 0 0 0 y') Q := by
        intro d
        induction d with
        | zero =>
          intro c y' hc hy'
          have e : c = 256 := by omega
          subst e
          refine u_X13_makePermutations_a_2 ?_; unfold qm_X13_makePermutations_2_a
          rw [pmC_th h1 h4, hTT]
          exact w_leT (a := 256) (by omega) (by omega) (c9 T 0 y' (by omega) hy')
        | succ d ih =>
          intro c y' hc hy'
          have k8 : ∀ (x2 x4 x5 : Int32) (y2 : ow_MS), x2 = nI (pmC m (c + 1)) → Q y2 → Tt (fun K t => q_X13_makePermutations_a K t 8 (nI m) x2 (nI c) x4 x5 0 0 0 0 0 y2) Q := by
            intro x2 x4 x5 y2 e h2
            subst e
            refine u_X13_makePermutations_a_8 ?_; unfold qm_X13_makePermutations_8_a
            rw [nI_1]
            exact ih (c + 1) y2 (by omega) h2
          have k7 : pmA m c = true → ∀ (dd a : Nat) (x4 : Int32) (y2 : ow_MS), a + dd = 4 → Q y2 → Tt (fun K t => q_X13_makePermutations_a K t 7 (nI m) (nI (pmC m c)) (nI c) x4 (nI a) 0 0 0 0 0 y2) Q := by
            intro hA dd
            have hlt := pmC_lt h1 h4 (show c < 256 by omega) hA
            rw [hTT] at hlt
            induction dd with
            | zero =>
              intro a x4 y2 ha h2
              refine u_X13_makePermutations_a_7 ?_; unfold qm_X13_makePermutations_7_a
              refine w_leT (a := 4) (by omega) (by omega) (k8 _ _ _ _ ?_ h2)
              rw [nI_1]
              show _ = nI (pmC m c + (if pmA m c = true then 1 else 0))
              rw [if_pos hA]
            | succ dd ihd =>
              intro a x4 y2 ha h2
              obtain ⟨t, ht, e⟩ := sP_t (show c < 256 by omega) (show a < 4 by omega)
              unfold sP at e
              refine u_X13_makePermutations_a_7 ?_; unfold qm_X13_makePermutations_7_a
              rw [pm96, e, nI_1 a]
              exact w_leF (a := 4) (by omega) (by omega) (w_wrI ma74 rfl (by omega) (ihd (a + 1) x4 _ (by omega) ⟨pmJ_74 h2.1 ht, fr_I2 h2.2 (Or.inl rfl)⟩))
          have k3 : ∀ (dd a : Nat) (x4 : Int32), a + dd = 4 → pmO m c dd a x4 = pmO m c 4 0 1 → Tt (fun K t => q_X13_makePermutations_a K t 3 (nI m) (nI (pmC m c)) (nI c) x4 (nI a) 0 0 0 0 0 y') Q := by
            intro dd
            induction dd with
            | zero =>
              intro a x4 ha e
              have e : x4 = pmO m c 4 0 1 := e
              refine u_X13_makePermutations_a_3 ?_; unfold qm_X13_makePermutations_3_a
              refine w_leT (a := 4) (by omega) (by omega) (w_if (fun h0 => ?_) (fun h0 => ?_))
              · refine k8 _ _ _ _ ?_ hy'
                show _ = nI (pmC m c + (if pmA m c = true then 1 else 0))
                rw [if_neg (fun h9 => (of_decide_eq_true h9) (e ▸ h0))]
                rfl
              · exact k7 (decide_eq_true (fun h9 => h0 (e.trans h9))) 4 0 _ _ (by omega) hy'
            | succ dd ihd =>
              intro a x4 ha e
              have k5 : ∀ (e5 b : Nat) (x4' : Int32), b + e5 = a → pmO m c dd (a + 1) (pmI (nI c) (sP (nI c) (nI a)) e5 b x4') = pmO m c 4 0 1 → Tt (fun K t => q_X13_makePermutations_a K t 5 (nI m) (nI (pmC m c)) (nI c) x4' (nI a) (sP (nI c) (nI a)) (nI b) 0 0 0 y') Q := by
                intro e5
                induction e5 with
                | zero =>
                  intro b x4' hb e'
                  refine u_X13_makePermutations_a_5 ?_; unfold qm_X13_makePermutations_5_a
                  rw [nI_1]
                  exact w_leT (by omega) (by omega) (ihd (a + 1) x4' (by omega) e')
                | succ e5 ih5 =>
                  intro b x4' hb e'
                  have e' : pmO m c dd (a + 1) (pmI (nI c) (sP (nI c) (nI a)) e5 (b + 1) (x4' &&& (if sP (nI c) (nI b) = sP (nI c) (nI a) then 0 else 1))) = pmO m c 4 0 1 := e'
                  have k6 : ∀ (t0 : Int32), t0 = (if sP (nI c) (nI b) = sP (nI c) (nI a) then 0 else 1) → Tt (fun K t => q_X13_makePermutations_a K t 6 (nI m) (nI (pmC m c)) (nI c) x4' (nI a) (sP (nI c) (nI a)) (nI b) 0 t0 x4' y') Q := by
                    intro t0 ht
                    subst ht
                    refine u_X13_makePermutations_a_6 ?_; unfold qm_X13_makePermutations_6_a
                    rw [nI_1]
                    exact ih5 (b + 1) _ (by omega) e'
                  refine u_X13_makePermutations_a_5 ?_; unfold qm_X13_makePermutations_5_a
                  refine w_leF (by omega) (by omega) (w_if (fun h9 => k6 _ ?_) (fun h9 => k6 _ ?_))
                  · exact (if_pos h9).symm
                  · exact (if_neg h9).symm
              have e : pmO m c dd (a + 1) (pmI (nI c) (sP (nI c) (nI a)) a 0 (x4 &&& (if nI m ≤ nI a then (if sP (nI c) (nI a) = nI a then 1 else 0) else (if nI m ≤ sP (nI c) (nI a) then 0 else 1)))) = pmO m c 4 0 1 := e
              have k4 : ∀ (t0 : Int32), t0 = (if nI m ≤ nI a then (if sP (nI c) (nI a) = nI a then 1 else 0) else (if nI m ≤ sP (nI c) (nI a) then 0 else 1)) → Tt (fun K t => q_X13_makePermutations_a K t 4 (nI m) (nI (pmC m c)) (nI c) x4 (nI a) (sP (nI c) (nI a)) 0 0 t0 x4 y') Q := by
                intro t0 ht
                subst ht
                refine u_X13_makePermutations_a_4 ?_; unfold qm_X13_makePermutations_4_a
                exact k5 a 0 _ (by omega) e
              refine u_X13_makePermutations_a_3 ?_; unfold qm_X13_makePermutations_3_a
              refine w_leF (a := 4) (by omega) (by omega) (w_if (fun h9 => w_if (fun h8 => k4 _ ?_) (fun h8 => k4 _ ?_)) (fun h9 => w_if (fun h8 => k4 _ ?_) (fun h8 => k4 _ ?_)))
              · exact ((if_pos h9).trans (if_pos h8)).symm
              · exact ((if_pos h9).trans (if_neg h8)).symm
              · exact ((if_neg h9).trans (if_pos h8)).symm
              · exact ((if_neg h9).trans (if_neg h8)).symm
          refine u_X13_makePermutations_a_2 ?_; unfold qm_X13_makePermutations_2_a
          exact w_leF (a := 256) (by omega) (by omega) (k3 4 0 1 (by omega) rfl)
      refine u_X13_makePermutations_a_1 ?_; unfold qm_X13_makePermutations_1_a
      exact w_ltF (a := 4) (by omega) (by omega) (c2 256 0 y (by omega) hy)
  refine e_X13_makePermutations_a ?_
  refine u_X13_makePermutations_a_0 ?_; unfold qm_X13_makePermutations_0_a
  exact key 4 1 z (by omega) (by omega) ⟨hz, fr_rf⟩
