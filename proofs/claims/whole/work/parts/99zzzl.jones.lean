/-! jones has an answer -/
def pcF : Nat → Nat → Nat
  | 0, _ => 0
  | n + 1, k => k % 2 + pcF n (k / 2)
theorem pcF_le : ∀ (n c k : Nat), k < 2 ^ c → pcF n k ≤ c
  | 0, c, k, _ => Nat.zero_le _
  | n + 1, 0, k, h => by
    have hk : k = 0 := by simpa using h
    subst hk
    have := pcF_le n 0 0 (by decide)
    show 0 + pcF n 0 ≤ 0
    omega
  | n + 1, c + 1, k, h => by
    have := pcF_le n c (k / 2) (by rw [Nat.pow_succ] at h; omega)
    show k % 2 + pcF n (k / 2) ≤ c + 1
    omega
def pc (k : Nat) : Nat := pcF 32 k
theorem bc_4096 : ∀ a : Fin 64, ∀ b : Fin 64, ow_bc (nI (64 * a.val + b.val)) = nI (pc (64 * a.val + b.val)) := by decide +kernel
theorem bc_pc {k : Nat} (h : k < 4096) : ow_bc (nI k) = nI (pc k) := by
  have := bc_4096 ⟨k / 64, by omega⟩ ⟨k % 64, by omega⟩
  rw [show 64 * (k / 64) + k % 64 = k by omega] at this
  exact this
theorem pc_le {c k : Nat} (h : k < 2 ^ c) : pc k ≤ c := pcF_le 32 c k h
theorem shl_31 : ∀ c : Fin 31, (1 : Int32) <<< (nI c.val &&& 31) = nI (2 ^ c.val) := by decide +kernel
theorem shl1 {c : Nat} (h : c < 31) : (1 : Int32) <<< (nI c &&& 31) = nI (2 ^ c) := shl_31 ⟨c, h⟩
theorem two_mono {a b : Nat} (h : a ≤ b) : 2 ^ a ≤ 2 ^ b := Nat.pow_le_pow_right (by decide) h
section JON
variable {X : (Nat → Nat → Int32) → Prop} {z : ow_MS}
def eCn (A : rn_L) (k : Nat) : Nat := ((List.range k).filter (fun c => !decide (rn_b A c < rn_b A (c + 1)))).length
theorem eCn_s {A : rn_L} {k : Nat} : eCn A (k + 1) = eCn A k + if rn_b A k = rn_b A (k + 1) then 1 else 0 := by
  unfold eCn
  have hm := rn_b_mono A k
  rw [List.range_succ, List.filter_append, List.length_append]
  by_cases h : rn_b A k = rn_b A (k + 1)
  · rw [if_pos h, List.filter_cons_of_pos (p := fun c => !decide (rn_b A c < rn_b A (c + 1))) (by rw [decide_eq_false (by omega)]; rfl)]
    rfl
  · rw [if_neg h, List.filter_cons_of_neg (p := fun c => !decide (rn_b A c < rn_b A (c + 1))) (by rw [decide_eq_true (by omega)]; decide)]
    rfl
theorem tp_circles2 {n : Nat} {A : rn_L} (hn : mw_net n) (hlen : A.flatten.length ≤ 40) (hcn : A.length ≤ 39) (hA : rn_At z n A []) : Te (fun K => qe_X13_circlesOf K n z) (fun r => r = (nI (eC A), z)) := by
  have key : ∀ (d c : Nat), c + d = A.length → Tt (fun K i => q_X13_circlesOf K i 1 (nI (eCn A c)) (nI c) n 0 0 z) (fun r => r = (nI (eC A), z)) := by
    intro d
    induction d with
    | zero =>
      intro c hc
      have hc : c = A.length := by omega
      subst hc
      refine u_X13_circlesOf_1 ?_; unfold qm_X13_circlesOf_1
      exact w_rdF hA.2.1 (w_leT (by omega) (by omega) (w_some rfl))
    | succ d ih =>
      intro c hc
      have hb1 := rn_b_le A c
      have hb2 := rn_b_le A (c + 1)
      refine u_X13_circlesOf_1 ?_; unfold qm_X13_circlesOf_1
      refine w_rdF hA.2.1 (w_leF (by omega) (by omega) (w_cs1 (R := fun r => r = (bZ (decide (rn_b A c = rn_b A (c + 1))), z)) ?_ (fun a z1 e => ?_)))
      · refine e_X12_isCircle ?_; unfold qm_X12_isCircle_0
        rw [nI_1]
        refine w_rdI (pl3 hn) rfl (by omega) (hA.2.2.1 c (by omega)) (w_rdI (pl3 hn) rfl (by omega) (hA.2.2.1 (c + 1) (by omega)) (w_eqN (by unfold rn_b at hb1; omega) (by unfold rn_b at hb2; omega) (fun h9 => w_okZ (Or.inr rfl) (w_some ?_)) (fun h9 => w_okZ (Or.inl rfl) (w_some ?_))))
        · rw [decide_eq_true (show rn_b A c = rn_b A (c + 1) from h9)]
          rfl
        · rw [decide_eq_false (show ¬ rn_b A c = rn_b A (c + 1) from h9)]
          rfl
      · cases e
        have := ih (c + 1) (by omega)
        rw [eCn_s] at this
        by_cases h9 : rn_b A c = rn_b A (c + 1)
        · rw [if_pos h9] at this
          rw [decide_eq_true h9]
          refine w_ifF (by decide) ?_
          refine u_X13_circlesOf_2 ?_; unfold qm_X13_circlesOf_2
          rw [nI_1, nI_1]
          exact this
        · rw [if_neg h9] at this
          rw [decide_eq_false h9]
          refine w_ifT rfl ?_
          refine u_X13_circlesOf_2 ?_; unfold qm_X13_circlesOf_2
          rw [nI_1, Int32.add_zero]
          exact this
  refine e_X13_circlesOf ?_
  refine u_X13_circlesOf_0 ?_; unfold qm_X13_circlesOf_0
  exact key A.length 0 (by omega)
/-- the writhe of the first visits -/
def wrN (A : rn_L) (sg : Nat → Bool) : Nat → Int
  | 0 => 0
  | v + 1 => wrN A sg v + if uns A v = 0 then (if sg (crs A v) then -1 else 1) else 0
theorem wrN_le {A : rn_L} {sg : Nat → Bool} : ∀ v, -((ovs A v).length : Int) ≤ wrN A sg v ∧ wrN A sg v ≤ (ovs A v).length
  | 0 => by
    show -((0 : Nat) : Int) ≤ 0 ∧ (0 : Int) ≤ (0 : Nat)
    decide
  | v + 1 => by
    have ih := wrN_le (A := A) (sg := sg) v
    have e : (ovs A (v + 1)).length = (ovs A v).length + if uns A v = 0 then 1 else 0 := by
      unfold ovs
      rw [List.range_succ, List.filter_append, List.length_append]
      by_cases h : uns A v = 0
      · rw [if_pos h, List.filter_cons_of_pos (p := fun u => decide (uns A u = 0)) (decide_eq_true h)]
        rfl
      · rw [if_neg h, List.filter_cons_of_neg (p := fun u => decide (uns A u = 0)) (by simpa using h)]
        rfl
    rw [e]
    show _ ≤ wrN A sg v + _ ∧ wrN A sg v + _ ≤ _
    by_cases h : uns A v = 0
    · rw [if_pos h, if_pos h]
      cases sg (crs A v) <;> simp <;> omega
    · rw [if_neg h, if_neg h]
      omega
theorem tp_writhe2 {n : Nat} {A : rn_L} {sg : Nat → Bool} (hn : mw_net n) (hA : oNet z n A sg) : Te (fun K => qe_X13_writheOf K n z) (fun r => r = (iI (wrN A sg A.flatten.length), z)) := by
  have hl := hA.len
  have key : ∀ (d v : Nat), v + d = A.flatten.length → Tt (fun K i => q_X13_writheOf K i 1 (iI (wrN A sg v)) (nI v) n 0 0 z) (fun r => r = (iI (wrN A sg A.flatten.length), z)) := by
    intro d
    induction d with
    | zero =>
      intro v hv
      have hv : v = A.flatten.length := by omega
      subst hv
      refine u_X13_writheOf_1 ?_; unfold qm_X13_writheOf_1
      exact w_rdF hA.1.V (w_leT (by omega) (by omega) (w_some rfl))
    | succ d ih =>
      intro v hv
      have hvl : v < A.flatten.length := by omega
      obtain ⟨c1, c2, c3⟩ := hA.cx hvl
      have := ih (v + 1) (by omega)
      have e : wrN A sg (v + 1) = wrN A sg v + if uns A v = 0 then (if sg (crs A v) then -1 else 1) else 0 := rfl
      rw [e, ← iI_add] at this
      refine u_X13_writheOf_1 ?_; unfold qm_X13_writheOf_1
      refine w_rdF hA.1.V (w_leF (by omega) hvl (w_rdI (pl5 hn) rfl (by omega) (lk_cu hA.1 hvl).2 (w_eqN (b := 0) (by omega) (by omega) (fun h9 => w_rdI (pl4 hn) rfl (by omega) (lk_cu hA.1 hvl).1 (w_rdI (pl6 hn) rfl (by omega) c3 ?_)) (fun h9 => ?_))))
      · rw [if_pos h9] at this
        refine u_X13_writheOf_2 ?_; unfold qm_X13_writheOf_2
        rw [nI_1]
        cases hs : sg (crs A v) with
        | true =>
          rw [hs] at this
          exact this
        | false =>
          rw [hs] at this
          exact this
      · rw [if_neg h9] at this
        refine u_X13_writheOf_2 ?_; unfold qm_X13_writheOf_2
        rw [nI_1]
        exact this
  refine e_X13_writheOf ?_
  refine u_X13_writheOf_0 ?_; unfold qm_X13_writheOf_0
  exact key A.flatten.length 0 (by omega)
/-- the term's place in the Jones row -/
theorem jn_ix {l t ze c : Nat} {w : Int} (hl : l ≤ 23) (hl1 : 1 ≤ l) (ht : t < l) (hz : ze ≤ c) (hc : c ≤ 12) (h1 : -12 ≤ w) (h2 : w ≤ 12) : ∃ k, k < 201 ∧ ((((2 * (nI l - 1)) - (4 * nI t)) + nI ze) - (nI c - nI ze) - (3 * iI w)) + 100 = nI k := by
  refine ⟨(2 * ((l : Int) - 1) - 4 * t + ze - (c - ze) - 3 * w + 100).toNat, by omega, ?_⟩
  rw [nI_iI l, nI_iI t, nI_iI ze, nI_iI c]
  show (((iI 2 * (iI l - iI 1)) - (iI 4 * iI t)) + iI ze) - (iI c - iI ze) - (iI 3 * iI w) + iI 100 = _
  rw [iI_sub, iI_mul, iI_mul, iI_sub, iI_add, iI_sub, iI_sub, iI_mul, iI_sub, iI_add]
  exact iI_nI (by omega)
theorem u_X13_makeJones_4 {x2 : Int32} {x3 : Int32} {x4 : Int32} {x5 : Int32} {x10 : Int32} {x11 : Int32} {x12 : Int32} {x13 : Int32} {w6 : Int64} {w8 : Int64} {w14 : Int64} {r1 : Nat} {t2 : Int32} {y0 : Int64} {y1 : Int64} {z : ow_MS} {Q : ow_MS → Prop} (H : Tt (fun K k => qm_X13_makeJones_4 K (q_X13_makeJones K k) x2 x3 x4 x5 x10 x11 x12 x13 w6 w8 w14 r1 t2 y0 y1 z) Q) : Tt (fun K k => q_X13_makeJones K k 4 x2 x3 x4 x5 x10 x11 x12 x13 w6 w8 w14 r1 t2 y0 y1 z) Q := w_un (fun _ _ => rfl) H
theorem u_X13_makeJones_6 {x2 : Int32} {x3 : Int32} {x4 : Int32} {x5 : Int32} {x10 : Int32} {x11 : Int32} {x12 : Int32} {x13 : Int32} {w6 : Int64} {w8 : Int64} {w14 : Int64} {r1 : Nat} {t2 : Int32} {y0 : Int64} {y1 : Int64} {z : ow_MS} {Q : ow_MS → Prop} (H : Tt (fun K k => qm_X13_makeJones_6 K (q_X13_makeJones K k) x2 x3 x4 x5 x10 x11 x12 x13 w6 w8 w14 r1 t2 y0 y1 z) Q) : Tt (fun K k => q_X13_makeJones K k 6 x2 x3 x4 x5 x10 x11 x12 x13 w6 w8 w14 r1 t2 y0 y1 z) Q := w_un (fun _ _ => rfl) H
theorem u_X13_makeJones_7 {x2 : Int32} {x3 : Int32} {x4 : Int32} {x5 : Int32} {x10 : Int32} {x11 : Int32} {x12 : Int32} {x13 : Int32} {w6 : Int64} {w8 : Int64} {w14 : Int64} {r1 : Nat} {t2 : Int32} {y0 : Int64} {y1 : Int64} {z : ow_MS} {Q : ow_MS → Prop} (H : Tt (fun K k => qm_X13_makeJones_7 K (q_X13_makeJones K k) x2 x3 x4 x5 x10 x11 x12 x13 w6 w8 w14 r1 t2 y0 y1 z) Q) : Tt (fun K k => q_X13_makeJones K k 7 x2 x3 x4 x5 x10 x11 x12 x13 w6 w8 w14 r1 t2 y0 y1 z) Q := w_un (fun _ _ => rfl) H
theorem u_X13_makeJones_9 {x2 : Int32} {x3 : Int32} {x4 : Int32} {x5 : Int32} {x10 : Int32} {x11 : Int32} {x12 : Int32} {x13 : Int32} {w6 : Int64} {w8 : Int64} {w14 : Int64} {r1 : Nat} {t2 : Int32} {y0 : Int64} {y1 : Int64} {z : ow_MS} {Q : ow_MS → Prop} (H : Tt (fun K k => qm_X13_makeJones_9 K (q_X13_makeJones K k) x2 x3 x4 x5 x10 x11 x12 x13 w6 w8 w14 r1 t2 y0 y1 z) Q) : Tt (fun K k => q_X13_makeJones K k 9 x2 x3 x4 x5 x10 x11 x12 x13 w6 w8 w14 r1 t2 y0 y1 z) Q := w_un (fun _ _ => rfl) H
theorem u_X13_makeJones_8 {x2 : Int32} {x3 : Int32} {x4 : Int32} {x5 : Int32} {x10 : Int32} {x11 : Int32} {x12 : Int32} {x13 : Int32} {w6 : Int64} {w8 : Int64} {w14 : Int64} {r1 : Nat} {t2 : Int32} {y0 : Int64} {y1 : Int64} {z : ow_MS} {Q : ow_MS → Prop} (H : Tt (fun K k => qm_X13_makeJones_8 K (q_X13_makeJones K k) x2 x3 x4 x5 x10 x11 x12 x13 w6 w8 w14 r1 t2 y0 y1 z) Q) : Tt (fun K k => q_X13_makeJones K k 8 x2 x3 x4 x5 x10 x11 x12 x13 w6 w8 w14 r1 t2 y0 y1 z) Q := w_un (fun _ _ => rfl) H
theorem u_X13_makeJones_5 {x2 : Int32} {x3 : Int32} {x4 : Int32} {x5 : Int32} {x10 : Int32} {x11 : Int32} {x12 : Int32} {x13 : Int32} {w6 : Int64} {w8 : Int64} {w14 : Int64} {r1 : Nat} {t2 : Int32} {y0 : Int64} {y1 : Int64} {z : ow_MS} {Q : ow_MS → Prop} (H : Tt (fun K k => qm_X13_makeJones_5 K (q_X13_makeJones K k) x2 x3 x4 x5 x10 x11 x12 x13 w6 w8 w14 r1 t2 y0 y1 z) Q) : Tt (fun K k => q_X13_makeJones K k 5 x2 x3 x4 x5 x10 x11 x12 x13 w6 w8 w14 r1 t2 y0 y1 z) Q := w_un (fun _ _ => rfl) H
theorem u_X13_makeJones_3 {x2 : Int32} {x3 : Int32} {x4 : Int32} {x5 : Int32} {x10 : Int32} {x11 : Int32} {x12 : Int32} {x13 : Int32} {w6 : Int64} {w8 : Int64} {w14 : Int64} {r1 : Nat} {t2 : Int32} {y0 : Int64} {y1 : Int64} {z : ow_MS} {Q : ow_MS → Prop} (H : Tt (fun K k => qm_X13_makeJones_3 K (q_X13_makeJones K k) x2 x3 x4 x5 x10 x11 x12 x13 w6 w8 w14 r1 t2 y0 y1 z) Q) : Tt (fun K k => q_X13_makeJones K k 3 x2 x3 x4 x5 x10 x11 x12 x13 w6 w8 w14 r1 t2 y0 y1 z) Q := w_un (fun _ _ => rfl) H
theorem u_X13_makeJones_2 {x2 : Int32} {x3 : Int32} {x4 : Int32} {x5 : Int32} {x10 : Int32} {x11 : Int32} {x12 : Int32} {x13 : Int32} {w6 : Int64} {w8 : Int64} {w14 : Int64} {r1 : Nat} {t2 : Int32} {y0 : Int64} {y1 : Int64} {z : ow_MS} {Q : ow_MS → Prop} (H : Tt (fun K k => qm_X13_makeJones_2 K (q_X13_makeJones K k) x2 x3 x4 x5 x10 x11 x12 x13 w6 w8 w14 r1 t2 y0 y1 z) Q) : Tt (fun K k => q_X13_makeJones K k 2 x2 x3 x4 x5 x10 x11 x12 x13 w6 w8 w14 r1 t2 y0 y1 z) Q := w_un (fun _ _ => rfl) H
theorem u_X13_makeJones_1 {x2 : Int32} {x3 : Int32} {x4 : Int32} {x5 : Int32} {x10 : Int32} {x11 : Int32} {x12 : Int32} {x13 : Int32} {w6 : Int64} {w8 : Int64} {w14 : Int64} {r1 : Nat} {t2 : Int32} {y0 : Int64} {y1 : Int64} {z : ow_MS} {Q : ow_MS → Prop} (H : Tt (fun K k => qm_X13_makeJones_1 K (q_X13_makeJones K k) x2 x3 x4 x5 x10 x11 x12 x13 w6 w8 w14 r1 t2 y0 y1 z) Q) : Tt (fun K k => q_X13_makeJones K k 1 x2 x3 x4 x5 x10 x11 x12 x13 w6 w8 w14 r1 t2 y0 y1 z) Q := w_un (fun _ _ => rfl) H
theorem e_X13_makeJones {r1 : Nat} {z : ow_MS} {Q : ow_MS → Prop} (H : Tt (fun K k => q_X13_makeJones K k 0 0 0 0 0 0 0 0 0 0 0 0 r1 0 0 0 z) Q) : Te (fun K => qe_X13_makeJones K r1 z) Q := w_te H
theorem u_X13_makeJones_0 {x2 : Int32} {x3 : Int32} {x4 : Int32} {x5 : Int32} {x10 : Int32} {x11 : Int32} {x12 : Int32} {x13 : Int32} {w6 : Int64} {w8 : Int64} {w14 : Int64} {r1 : Nat} {t2 : Int32} {y0 : Int64} {y1 : Int64} {z : ow_MS} {Q : ow_MS → Prop} (H : Tt (fun K k => qm_X13_makeJones_0 K (q_X13_makeJones K k) x2 x3 x4 x5 x10 x11 x12 x13 w6 w8 w14 r1 t2 y0 y1 z) Q) : Tt (fun K k => q_X13_makeJones K k 0 x2 x3 x4 x5 x10 x11 x12 x13 w6 w8 w14 r1 t2 y0 y1 z) Q := w_un (fun _ _ => rfl) H
theorem tp_makeJones {n : Nat} {A : rn_L} {sg : Nat → Bool} (hn : mw_net n) (hA : oNet z n A sg) : Te (fun K => qe_X13_makeJones K n z) (fun z1 => fr (fun g => g = 47 ∨ g = 48 ∨ g = 51) z z1) := by
  obtain ⟨c, hok, hc⟩ := hA.2.2.1
  have hV := okF_len hok
  have hC := hA.2.2.2
  have hmn := net_mod hn
  have hov := ovs_le hok
  have hw := wrN_le (A := A) (sg := sg) A.flatten.length
  have hne := neC_eC A
  generalize hwn : wrN A sg A.flatten.length = w at hw
  have hw1 : -12 ≤ w := by omega
  have hw2 : w ≤ 12 := by omega
  let Q : ow_MS → Prop := fun z1 => fr (fun g => g = 47 ∨ g = 48 ∨ g = 51) z z1
  have oA : ∀ {y : ow_MS}, fr (fun g => g = 47 ∨ g = 48 ∨ g = 51) z y → oNet y n A sg := fun hf => oNet_fr hf (fun g hg => by omega) hA
  have c4 : ∀ (d l : Nat) (y : ow_MS), l + d = 24 → 1 ≤ l → fr (fun g => g = 47 ∨ g = 48 ∨ g = 51) z y → Tt (fun K i => q_X13_makeJones K i 4 (nI c) (nI (eC A)) (iI w) (nI l) 0 0 0 0 0 0 0 n 0 0 0 y) Q := by
    intro d
    induction d with
    | zero =>
      intro l y hl hl1 hf
      refine u_X13_makeJones_4 ?_; unfold qm_X13_makeJones_4
      exact w_leT (a := 24) (by omega) (by omega) (w_some hf)
    | succ d ih =>
      intro l y hl hl1 hf
      have c6 : ∀ (d2 t : Nat) (w6 w8 : Int64) (y : ow_MS), t + d2 = l → fr (fun g => g = 47 ∨ g = 48 ∨ g = 51) z y → Tt (fun K i => q_X13_makeJones K i 6 (nI c) (nI (eC A)) (iI w) (nI l) (nI t) 0 0 0 w6 w8 0 n 0 0 0 y) Q := by
        intro d2
        induction d2 with
        | zero =>
          intro t w6 w8 y ht hf
          refine u_X13_makeJones_6 ?_; unfold qm_X13_makeJones_6
          rw [nI_1]
          exact w_leT (by omega) (by omega) (ih (l + 1) y (by omega) (by omega) hf)
        | succ d2 ih2 =>
          intro t w6 w8 y ht hf
          have c7 : ∀ (d3 ze : Nat) (y : ow_MS), ze + d3 = c + 1 → fr (fun g => g = 47 ∨ g = 48 ∨ g = 51) z y → Tt (fun K i => q_X13_makeJones K i 7 (nI c) (nI (eC A)) (iI w) (nI l) (nI t) ((2 * (nI l - 1)) - (4 * nI t)) (nI ze) 0 w6 w8 0 n 0 0 0 y) Q := by
            intro d3
            induction d3 with
            | zero =>
              intro ze y hz hf
              have hnz : (nI (t + 1)).toInt64 ≠ 0 := by
                rw [nI_l (by omega)]
                exact fun e => by
                  have := (pk_lEQ (a := t + 1) (b := 0) (by omega) (by omega)).mp e
                  omega
              refine u_X13_makeJones_7 ?_; unfold qm_X13_makeJones_7
              rw [show nI t + 1 = nI (t + 1) from nI_1 _]
              exact w_ltT (by omega) (by omega) (w_nzJ hnz (ih2 (t + 1) _ _ y (by omega) hf))
            | succ d3 ih3 =>
              intro ze y hz hf
              obtain ⟨k, hk, ek⟩ := jn_ix (l := l) (t := t) (ze := ze) (c := c) (w := w) (by omega) hl1 (by omega) (by omega) hc hw1 hw2
              have c9 : ∀ (x13 : Int32) (w14 : Int64) (y : ow_MS), fr (fun g => g = 47 ∨ g = 48 ∨ g = 51) z y → Tt (fun K i => q_X13_makeJones K i 9 (nI c) (nI (eC A)) (iI w) (nI l) (nI t) ((2 * (nI l - 1)) - (4 * nI t)) (nI ze) x13 w6 w8 w14 n 0 0 0 y) Q := by
                intro x13 w14 y hf
                refine u_X13_makeJones_9 ?_; unfold qm_X13_makeJones_9
                rw [show nI ze + 1 = nI (ze + 1) from nI_1 _]
                exact ih3 (ze + 1) y (by omega) hf
              have c8 : ∀ (x13 : Int32) (w14 y0 y1 : Int64) (y : ow_MS), fr (fun g => g = 47 ∨ g = 48 ∨ g = 51) z y → Tt (fun K i => q_X13_makeJones K i 8 (nI c) (nI (eC A)) (iI w) (nI l) (nI t) ((2 * (nI l - 1)) - (4 * nI t)) (nI ze) x13 w6 w8 w14 n (nI k) y0 y1 y) Q := by
                intro x13 w14 y0 y1 y hf
                refine u_X13_makeJones_8 ?_; unfold qm_X13_makeJones_8
                exact w_wrJ ml48 rfl hk (c9 _ _ _ (fr_J2 hf (Or.inr (Or.inl rfl))))
              refine u_X13_makeJones_7 ?_; unfold qm_X13_makeJones_7
              rw [ek]
              refine w_ltF (by omega) (by omega) (w_rdJ (i := 24 * ze + l) ml51 (by rw [show (24 : Int32) * nI ze = nI (24 * ze) from pk_mul 24 ze, nI_add]) (by omega) rfl (w_if (fun _ => c9 _ _ _ hf) (fun _ => w_rdJ ml48 rfl hk rfl (w_if (fun _ => c8 _ _ _ _ _ hf) (fun _ => c8 _ _ _ _ _ hf)))))
          refine u_X13_makeJones_6 ?_; unfold qm_X13_makeJones_6
          exact w_leF (by omega) (by omega) (c7 (c + 1) 0 y (by omega) hf)
      have c5 : ∀ (y0 : Int64), Tt (fun K i => q_X13_makeJones K i 5 (nI c) (nI (eC A)) (iI w) (nI l) 0 0 0 0 0 0 0 n 0 y0 0 y) Q := by
        intro y0
        refine u_X13_makeJones_5 ?_; unfold qm_X13_makeJones_5
        exact c6 l 0 _ _ y (by omega) hf
      refine u_X13_makeJones_4 ?_; unfold qm_X13_makeJones_4
      exact w_leF (a := 24) (by omega) (by omega) (w_if (fun _ => c5 _) (fun _ => c5 _))
  have c3 : ∀ (d k : Nat) (y : ow_MS), k + d = 201 → fr (fun g => g = 47 ∨ g = 48 ∨ g = 51) z y → Tt (fun K i => q_X13_makeJones K i 3 (nI c) (nI (eC A)) (nI k) 0 0 0 0 0 0 0 0 n 0 0 0 y) Q := by
    intro d
    induction d with
    | zero =>
      intro k y hk hf
      refine u_X13_makeJones_3 ?_; unfold qm_X13_makeJones_3
      refine w_ltT (a := 200) (by omega) (by omega) (w_cs1 (tp_writhe2 hn (oA hf)) (fun a y1 e => ?_))
      cases e
      rw [hwn]
      exact c4 23 1 y (by omega) (by omega) hf
    | succ d ih =>
      intro k y hk hf
      refine u_X13_makeJones_3 ?_; unfold qm_X13_makeJones_3
      rw [nI_1]
      exact w_ltF (a := 200) (by omega) (by omega) (w_wrJ ml48 rfl (by omega) (ih (k + 1) _ (by omega) (fr_J2 hf (Or.inr (Or.inl rfl)))))
  have h2c : 2 ^ c ≤ 4096 := two_mono (b := 12) hc
  have c2 : ∀ (d s : Nat) (y : ow_MS), s + d = 2 ^ c → fr (fun g => g = 47 ∨ g = 48 ∨ g = 51) z y → Tt (fun K i => q_X13_makeJones K i 2 (nI c) (nI (eC A)) (nI s) 0 0 0 0 0 0 0 0 n 0 0 0 y) Q := by
    intro d
    induction d with
    | zero =>
      intro s y hs hf
      refine u_X13_makeJones_2 ?_; unfold qm_X13_makeJones_2
      rw [shl1 (by omega)]
      exact w_leT (by omega) (by omega) (c3 201 0 y (by omega) hf)
    | succ d ih =>
      intro s y hs hf
      have hpc := pc_le (c := c) (k := s) (by omega)
      refine u_X13_makeJones_2 ?_; unfold qm_X13_makeJones_2
      rw [shl1 (by omega)]
      refine w_leF (by omega) (by omega) (w_cs0 (tp_loops (st := nI s) hn (oA hf)) (fun y1 ⟨u1, f1⟩ => ?_))
      have hf1 : fr (fun g => g = 47 ∨ g = 48 ∨ g = 51) z y1 := fr_tr hf (fr_mono (fun g hg => Or.inl hg) f1)
      have hlp := loops_le (sg := sg) (st := nI s) hok (by omega)
      refine w_cs1 (tp_countL (oA hf1).1.V (by omega) u1) (fun a y2 e => ?_)
      cases e
      generalize rtsN (lpA A sg (nI s) A.flatten.length) A.flatten.length = r at hlp
      have ei : ((24 : Int32) * (nI c - ow_bc (nI s))) + nI r + nI (eC A) = nI (24 * (c - pc s) + r + eC A) := by
        rw [bc_pc (by omega), pk_sub hpc, show (24 : Int32) * nI (c - pc s) = nI (24 * (c - pc s)) from pk_mul 24 _, nI_add, nI_add]
      rw [ei, nI_1]
      exact w_rdJ ml51 rfl (by omega) rfl (w_wrJ ml51 rfl (by omega) (ih (s + 1) _ (by omega) (fr_J2 hf1 (Or.inr (Or.inr rfl)))))
  have c1 : ∀ (d k : Nat) (y : ow_MS), k + d = 312 → fr (fun g => g = 47 ∨ g = 48 ∨ g = 51) z y → Tt (fun K i => q_X13_makeJones K i 1 (nI c) (nI (eC A)) (nI k) 0 0 0 0 0 0 0 0 n 0 0 0 y) Q := by
    intro d
    induction d with
    | zero =>
      intro k y hk hf
      refine u_X13_makeJones_1 ?_; unfold qm_X13_makeJones_1
      exact w_leT (a := 312) (by omega) (by omega) (c2 (2 ^ c) 0 y (by omega) hf)
    | succ d ih =>
      intro k y hk hf
      refine u_X13_makeJones_1 ?_; unfold qm_X13_makeJones_1
      rw [nI_1]
      exact w_leF (a := 312) (by omega) (by omega) (w_wrJ ml51 rfl (by omega) (ih (k + 1) _ (by omega) (fr_J2 hf (Or.inr (Or.inr rfl)))))
  refine e_X13_makeJones ?_
  refine u_X13_makeJones_0 ?_; unfold qm_X13_makeJones_0
  refine w_rdF hA.1.V (w_nzI (by decide) (w_cs1 (tp_circles2 hn (by omega) (by omega) hA.1.1) (fun a y e => ?_)))
  cases e
  rw [hV, show nI (2 * c) / 2 = nI c from by rw [show nI (2 * c) / 2 = nI (2 * c / 2) from pk_div (d := 2) (by omega) (by omega) (by omega)]; congr 1; omega]
  exact c1 312 0 z (by omega) fr_rf
theorem u_X13_jones_3 {x1 : Int32} {x2 : Int32} {x3 : Int32} {z : ow_MS} {Q : (Int32 × ow_MS) → Prop} (H : Tt (fun K k => qm_X13_jones_3 K (q_X13_jones K k) x1 x2 x3 z) Q) : Tt (fun K k => q_X13_jones K k 3 x1 x2 x3 z) Q := w_un (fun _ _ => rfl) H
theorem u_X13_jones_2 {x1 : Int32} {x2 : Int32} {x3 : Int32} {z : ow_MS} {Q : (Int32 × ow_MS) → Prop} (H : Tt (fun K k => qm_X13_jones_2 K (q_X13_jones K k) x1 x2 x3 z) Q) : Tt (fun K k => q_X13_jones K k 2 x1 x2 x3 z) Q := w_un (fun _ _ => rfl) H
theorem e_X13_jones {x1 : Int32} {x2 : Int32} {z : ow_MS} {Q : (Int32 × ow_MS) → Prop} (H : Tt (fun K k => q_X13_jones K k 0 x1 x2 0 z) Q) : Te (fun K => qe_X13_jones K x1 x2 z) Q := w_te H
theorem u_X13_jones_0 {x1 : Int32} {x2 : Int32} {x3 : Int32} {z : ow_MS} {Q : (Int32 × ow_MS) → Prop} (H : Tt (fun K k => qm_X13_jones_0 K (q_X13_jones K k) x1 x2 x3 z) Q) : Tt (fun K k => q_X13_jones K k 0 x1 x2 x3 z) Q := w_un (fun _ _ => rfl) H
theorem u_X13_jones_1 {x1 : Int32} {x2 : Int32} {x3 : Int32} {z : ow_MS} {Q : (Int32 × ow_MS) → Prop} (H : Tt (fun K k => qm_X13_jones_1 K (q_X13_jones K k) x1 x2 x3 z) Q) : Tt (fun K k => q_X13_jones K k 1 x1 x2 x3 z) Q := w_un (fun _ _ => rfl) H
theorem tp_jones {d k : Int32} (h : gI X z) : Te (fun K => qe_X13_jones K d k z) (fun r => gI X r.2) := by
  have h1 := gI_1 (c := 0) h
  have c3 : ∀ {x1 x2 : Int32} {y : ow_MS}, gI X y → Tt (fun K i => q_X13_jones K i 3 x1 x2 0 y) (fun r => gI X r.2) := by
    intro x1 x2 y hy
    refine u_X13_jones_3 ?_; unfold qm_X13_jones_3
    exact w_some hy
  have c2 : ∀ {x1 x2 : Int32} {y : ow_MS}, gI X y → Tt (fun K i => q_X13_jones K i 2 x1 x2 0 y) (fun r => gI X r.2) := by
    intro x1 x2 y hy
    refine u_X13_jones_2 ?_; unfold qm_X13_jones_2
    refine w_if (fun _ => c3 hy) (fun h0 => w_if (fun h9 => ?_) (fun _ => c3 hy))
    obtain ⟨a, ha, rfl⟩ := i32_rng (x := x2) (c := 100) (by omega) h0 (fun h8 => by
      rw [Int32.lt_iff_toInt_lt] at h8
      rw [Int32.le_iff_toInt_le] at h9
      exact absurd h8 (Int.not_lt.mpr h9))
    rw [show nI a - nI 100 + 100 = nI a from Int32.sub_add_cancel _ _]
    exact w_rdJ ml48 rfl (by omega) rfl (w_some hy)
  refine e_X13_jones ?_
  refine u_X13_jones_0 ?_; unfold qm_X13_jones_0
  refine w_wrF (w_has h1.2.1 (w_ifT rfl (w_fail h1)) (fun e A sg he hx hv hne => w_ifF (by decide) ?_))
  subst hx
  obtain ⟨_, _, ⟨T1, k1⟩, kC⟩ := h1.2.2.2.2.1
  have hTl := hv.1.1
  rw [show (32 : Int32) * nI e = nI (32 * e) from pk_mul 32 e]
  refine w_cs1 (tr_same (o := 32 * e) (p := 0) ml12 ml50 (by omega) (by omega) (by omega) (by omega) hv.1 k1) (fun a y e9 => ?_)
  cases e9
  refine w_if (fun _ => ?_) (fun _ => c2 h1)
  have lp2 : ∀ (dd i : Nat) (y1 y : ow_MS), i + dd = 32 → gI X y1 → y1.2.1 12 = (usF z 1 0).2.1 12 → fr (fun g => g = 50) y1 y → (∀ t, t < i → y.2.1 50 t = y1.2.1 12 (32 * e + t)) → Tt (fun K t => q_X13_jones K t 1 (nI e) k (nI i) y) (fun r => gI X r.2) := by
    intro dd
    induction dd with
    | zero =>
      intro i y1 y hi g1 e12 hf ht
      refine u_X13_jones_1 ?_; unfold qm_X13_jones_1
      refine w_leT (a := 32) (by omega) (by omega) (c2 (gI_cash hf (fun g hg => Or.inl (Or.inr (Or.inr (Or.inl hg)))) ?_ g1))
      obtain ⟨⟨T2, k2⟩, ⟨T3, k3⟩, -, ⟨T4, k4⟩, cc, k5, k6⟩ := g1.2.2.2.2.1
      have hrow : rc_At y1 12 (32 * e) (tk sg A) := by
        obtain ⟨a1, a2, a3, a4⟩ := hv.1
        exact ⟨a1, a2, by rw [e12]; exact a3, fun k t hk => by rw [e12]; exact a4 k t hk⟩
      exact ⟨⟨T2, rc_fr hf (by decide) k2⟩, ⟨T3, rc_fr hf (by decide) k3⟩, ⟨_, rc_cpy hrow (fun t h9 => ht t (by omega))⟩, ⟨T4, rc_fr hf (by decide) k4⟩, cc, k5, by rw [(hf 67 (by decide)).1]; exact k6⟩
    | succ dd ih =>
      intro i y1 y hi g1 e12 hf ht
      refine u_X13_jones_1 ?_; unfold qm_X13_jones_1
      rw [show (32 : Int32) * nI e = nI (32 * e) from pk_mul 32 e, nI_add, nI_1]
      refine w_leF (a := 32) (by omega) (by omega) (w_rdI ml12 rfl (by omega) rfl (w_wrI ml50 rfl (by omega) (ih (i + 1) y1 _ (by omega) g1 e12 (fr_I2 hf rfl) (fun t h9 => ?_))))
      by_cases hti : t = i
      · rw [hti, po_usI_at, (hf 12 (by decide)).2.1]
      · exact rd_ne hti (ht t (by omega))
  refine w_cs0 (to_open pn1 he hv) (fun z2 ⟨o2, f2⟩ => w_cs0 (tp_makeJones pn1 o2) (fun z3 f3 => ?_))
  have hf3 : fr (fun g => 1000 ≤ g ∨ g = 47 ∨ g = 48 ∨ g = 51) (usF z 1 0) z3 := fr_tr (fr_mono (fun g hg => by omega) f2) (fr_mono (fun g hg => by omega) f3)
  exact lp2 32 0 z3 z3 (by omega) (gI_fr hf3 (fun g hg => by unfold per; omega) h1) (hf3 12 (by omega)).2.1 fr_rf (fun t ht => absurd ht (by omega))
end JON
