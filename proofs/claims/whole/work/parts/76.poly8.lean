/-! paths: each end's other end -/
def pt_tie (P : Nat → Nat) (a b : Nat) : (Nat → Nat) × Nat := if P a = b then (P, 1) else (nu (nu P (P a) (P b)) (nu P (P a) (P b) b) (nu P (P a) (P b) a), 0)
def pt_un (P : Nat → Nat) (a b : Nat) : Nat → Nat := if P a = b then P else nu (nu P (P a) a) (nu P (P a) a b) b
def ow_b48 (P : Nat → Nat) : Prop := ∀ k, P k < 48
theorem nu_b48 {P : Nat → Nat} {j w : Nat} (h : ow_b48 P) (hw : w < 48) : ow_b48 (nu P j w) := by
  intro k
  show (if k = j then w else P k) < 48
  split
  · exact hw
  · exact h k
theorem pt_tie_b48 {P : Nat → Nat} {a b : Nat} (h : ow_b48 P) : ow_b48 (pt_tie P a b).1 := by
  unfold pt_tie
  split
  · exact h
  · exact nu_b48 (nu_b48 h (h b)) (nu_b48 h (h b) a)
theorem pt_un_b48 {P : Nat → Nat} {a b : Nat} (h : ow_b48 P) (ha : a < 48) (hb : b < 48) : ow_b48 (pt_un P a b) := by
  unfold pt_un
  split
  · exact h
  · exact nu_b48 (nu_b48 h ha) hb
theorem pt_tie_le (P : Nat → Nat) (a b : Nat) : (pt_tie P a b).2 ≤ 1 := by
  unfold pt_tie
  split
  · exact Nat.le_refl 1
  · exact Nat.zero_le 1
/-! both choices at each crossing -/
def tb_al (G : Nat → Int32) (x one : Nat) : Bool := decide (0 < G x) == decide (one = 0)
def tb_in (G : Nat → Int32) (x one : Nat) : Nat := if tb_al G x one then 4 * x + 2 else 4 * x + 3
def tb_ou (G : Nat → Int32) (x one : Nat) : Nat := if tb_al G x one then 4 * x + 3 else 4 * x + 2
def tb_1 (G : Nat → Int32) (P : Nat → Nat) (x one : Nat) : (Nat → Nat) × Nat := pt_tie P (4 * x + 1) (tb_in G x one)
def tb_2 (G : Nat → Int32) (P : Nat → Nat) (x one : Nat) : (Nat → Nat) × Nat := pt_tie (tb_1 G P x one).1 (4 * x) (tb_ou G x one)
def tb_cl (G : Nat → Int32) (P : Nat → Nat) (x one : Nat) : Nat := (tb_1 G P x one).2 + (tb_2 G P x one).2
def tb_ba (G : Nat → Int32) (P : Nat → Nat) (x one : Nat) : Nat → Nat := pt_un (pt_un P (4 * x) (tb_ou G x one)) (4 * x + 1) (tb_in G x one)
abbrev ow_TQ := (Nat → Nat) × (Nat → Int32)
def tb_run (G : Nat → Int32) : Nat → Nat → Nat → Nat → ow_TQ → ow_TQ
  | 0, _, o, z, q => (q.1, su q.2 (o * 24 + z) (q.2 (o * 24 + z) + 1))
  | d + 1, x, o, z, q =>
    (fun q1 : ow_TQ => (fun q2 : ow_TQ => (tb_ba G q2.1 x 1, q2.2)) (tb_run G d (x + 1) (o + 1) (z + tb_cl G q1.1 x 1) ((tb_2 G q1.1 x 1).1, q1.2))) (tb_ba G (tb_run G d (x + 1) (o + 0) (z + tb_cl G q.1 x 0) ((tb_2 G q.1 x 0).1, q.2)).1 x 0, (tb_run G d (x + 1) (o + 0) (z + tb_cl G q.1 x 0) ((tb_2 G q.1 x 0).1, q.2)).2)
def tb_stp (G : Nat → Int32) (d x o z one : Nat) (q : ow_TQ) : ow_TQ := (tb_ba G (tb_run G d (x + 1) (o + one) (z + tb_cl G q.1 x one) ((tb_2 G q.1 x one).1, q.2)).1 x one, (tb_run G d (x + 1) (o + one) (z + tb_cl G q.1 x one) ((tb_2 G q.1 x one).1, q.2)).2)
theorem tb_run_s (G : Nat → Int32) (d x o z : Nat) (q : ow_TQ) : tb_run G (d + 1) x o z q = tb_stp G d x o z 1 (tb_stp G d x o z 0 q) := rfl
/-- all states find their place -/
def tb_fit (G : Nat → Int32) : Nat → Nat → Nat → Nat → ow_TQ → Prop
  | 0, _, o, z, _ => o * 24 + z < 312
  | d + 1, x, o, z, q => tb_fit G d (x + 1) (o + 0) (z + tb_cl G q.1 x 0) ((tb_2 G q.1 x 0).1, q.2) ∧ tb_fit G d (x + 1) (o + 1) (z + tb_cl G (tb_stp G d x o z 0 q).1 x 1) ((tb_2 G (tb_stp G d x o z 0 q).1 x 1).1, (tb_stp G d x o z 0 q).2)
theorem tb_in_lt {G : Nat → Int32} {x one : Nat} (hx : x < 12) : tb_in G x one < 48 := by
  unfold tb_in
  split <;> omega
theorem tb_ou_lt {G : Nat → Int32} {x one : Nat} (hx : x < 12) : tb_ou G x one < 48 := by
  unfold tb_ou
  split <;> omega
theorem tb_2_b48 {G : Nat → Int32} {P : Nat → Nat} {x one : Nat} (h : ow_b48 P) : ow_b48 (tb_2 G P x one).1 := pt_tie_b48 (pt_tie_b48 h)
theorem tb_ba_b48 {G : Nat → Int32} {P : Nat → Nat} {x one : Nat} (h : ow_b48 P) (hx : x < 12) : ow_b48 (tb_ba G P x one) := pt_un_b48 (pt_un_b48 h (by omega) (tb_ou_lt hx)) (by omega) (tb_in_lt hx)
theorem tb_run_b48 {G : Nat → Int32} : ∀ (d x o z : Nat) (q : ow_TQ), x + d ≤ 12 → ow_b48 q.1 → ow_b48 (tb_run G d x o z q).1 := by
  intro d
  induction d with
  | zero => intro x o z q _ h; exact h
  | succ d ih =>
    intro x o z q hx h
    have key : ∀ (one : Nat) (q : ow_TQ), ow_b48 q.1 → ow_b48 (tb_stp G d x o z one q).1 := fun one q h => tb_ba_b48 (ih _ _ _ _ (by omega) (tb_2_b48 h)) (by omega)
    rw [tb_run_s]
    exact key 1 _ (key 0 _ h)
theorem dgX8_tie_0 : decode cX8_tie 0 = .ok (.aload_n 0, 1) := by decide +kernel
theorem dgX8_tie_1 : decode cX8_tie 1 = .ok (.getfield 41, 3) := by decide +kernel
theorem dgX8_tie_4 : decode cX8_tie 4 = .ok (.iload_n 1, 1) := by decide +kernel
theorem dgX8_tie_5 : decode cX8_tie 5 = .ok (.iaload, 1) := by decide +kernel
theorem dgX8_tie_6 : decode cX8_tie 6 = .ok (.iload_n 2, 1) := by decide +kernel
theorem dgX8_tie_7 : decode cX8_tie 7 = .ok (.if_icmp .ne 5, 3) := by decide +kernel
theorem dgX8_tie_10 : decode cX8_tie 10 = .ok (.iconst 1, 1) := by decide +kernel
theorem dgX8_tie_11 : decode cX8_tie 11 = .ok (.ireturn, 1) := by decide +kernel
theorem dgX8_tie_12 : decode cX8_tie 12 = .ok (.aload_n 0, 1) := by decide +kernel
theorem dgX8_tie_13 : decode cX8_tie 13 = .ok (.getfield 41, 3) := by decide +kernel
theorem dgX8_tie_16 : decode cX8_tie 16 = .ok (.aload_n 0, 1) := by decide +kernel
theorem dgX8_tie_17 : decode cX8_tie 17 = .ok (.getfield 41, 3) := by decide +kernel
theorem dgX8_tie_20 : decode cX8_tie 20 = .ok (.iload_n 1, 1) := by decide +kernel
theorem dgX8_tie_21 : decode cX8_tie 21 = .ok (.iaload, 1) := by decide +kernel
theorem dgX8_tie_22 : decode cX8_tie 22 = .ok (.aload_n 0, 1) := by decide +kernel
theorem dgX8_tie_23 : decode cX8_tie 23 = .ok (.getfield 41, 3) := by decide +kernel
theorem dgX8_tie_26 : decode cX8_tie 26 = .ok (.iload_n 2, 1) := by decide +kernel
theorem dgX8_tie_27 : decode cX8_tie 27 = .ok (.iaload, 1) := by decide +kernel
theorem dgX8_tie_28 : decode cX8_tie 28 = .ok (.iastore, 1) := by decide +kernel
theorem dgX8_tie_29 : decode cX8_tie 29 = .ok (.aload_n 0, 1) := by decide +kernel
theorem dgX8_tie_30 : decode cX8_tie 30 = .ok (.getfield 41, 3) := by decide +kernel
theorem dgX8_tie_33 : decode cX8_tie 33 = .ok (.aload_n 0, 1) := by decide +kernel
theorem dgX8_tie_34 : decode cX8_tie 34 = .ok (.getfield 41, 3) := by decide +kernel
theorem dgX8_tie_37 : decode cX8_tie 37 = .ok (.iload_n 2, 1) := by decide +kernel
theorem dgX8_tie_38 : decode cX8_tie 38 = .ok (.iaload, 1) := by decide +kernel
theorem dgX8_tie_39 : decode cX8_tie 39 = .ok (.aload_n 0, 1) := by decide +kernel
theorem dgX8_tie_40 : decode cX8_tie 40 = .ok (.getfield 41, 3) := by decide +kernel
theorem dgX8_tie_43 : decode cX8_tie 43 = .ok (.iload_n 1, 1) := by decide +kernel
theorem dgX8_tie_44 : decode cX8_tie 44 = .ok (.iaload, 1) := by decide +kernel
theorem dgX8_tie_45 : decode cX8_tie 45 = .ok (.iastore, 1) := by decide +kernel
theorem dgX8_tie_46 : decode cX8_tie 46 = .ok (.iconst 0, 1) := by decide +kernel
theorem dgX8_tie_47 : decode cX8_tie 47 = .ok (.ireturn, 1) := by decide +kernel
def wg_X8_tie : List Cond := .code yX8_tie cX8_tie 3 (some .int) :: (([.fieldLink RX8 41 "KnotHouse$Polynomials" "partner" "[I"] ++ wsX80) ++ [])
set_option maxHeartbeats 4000000 in
set_option maxRecDepth 100000 in
theorem kg_X8_tie (l : Launch) (dC : Nat → ClassId) (dI : Nat → Nat → Nat) (cI cB cJ cZ : ClassId) (aP : Nat) (px : Nat → Nat) (wr : Int32) (P : Nat → Nat) (hP9 : ow_b48 P) (a b : Nat) (ha : a < 48) (hb9 : b < 48) (sz : Nat) : Met l yX8_tie wg_X8_tie (({ frames := 0, cells := 0, slots := 0, locals := 0 } : Room)) (va_Pc [.ref aP, .int (nI a), .int (nI b)] (fun U => U.heap.size = sz ∧ va_P (dC, dI) vwCl [(aP, .inr (11, [.ref (px 0), .ref (px 1), .ref (px 2), .ref (px 3), .ref (px 4), .ref (px 5), .ref (px 6), .ref (px 7), .int wr])), ((px 6), .inl (cI, 48, .inl (ow_nI P)))] U.heap ∧ va_K (dC, dI) vwCl [(cI, .int), (cB, .byte), (cJ, .long), (cZ, .boolean)] U ∧ va_D (fun _ => True) [(aP, .inr (11, [.ref (px 0), .ref (px 1), .ref (px 2), .ref (px 3), .ref (px 4), .ref (px 5), .ref (px 6), .ref (px 7), .int wr])), ((px 6), .inl (cI, 48, .inl (ow_nI P)))])) (va_Qi (fun r (g : Unit) => r = nI (pt_tie P a b).2) (fun g t => va_P (dC, dI) vwCl [(aP, .inr (11, [.ref (px 0), .ref (px 1), .ref (px 2), .ref (px 3), .ref (px 4), .ref (px 5), .ref (px 6), .ref (px 7), .int wr])), ((px 6), .inl (cI, 48, .inl (ow_nI (pt_tie P a b).1)))] t.heap ∧ va_D (va_A [(aP, .inr (11, [.ref (px 0), .ref (px 1), .ref (px 2), .ref (px 3), .ref (px 4), .ref (px 5), .ref (px 6), .ref (px 7), .int wr])), ((px 6), .inl (cI, 48, .inl (ow_nI P)))] sz) [(aP, .inr (11, [.ref (px 0), .ref (px 1), .ref (px 2), .ref (px 3), .ref (px 4), .ref (px 5), .ref (px 6), .ref (px 7), .int wr])), ((px 6), .inl (cI, 48, .inl (ow_nI (pt_tie P a b).1)))]) (va_A [(aP, .inr (11, [.ref (px 0), .ref (px 1), .ref (px 2), .ref (px 3), .ref (px 4), .ref (px 5), .ref (px 6), .ref (px 7), .int wr])), ((px 6), .inl (cI, 48, .inl (ow_nI P)))] sz)) 0 0 (va_A [(aP, .inr (11, [.ref (px 0), .ref (px 1), .ref (px 2), .ref (px 3), .ref (px 4), .ref (px 5), .ref (px 6), .ref (px 7), .int wr])), ((px 6), .inl (cI, 48, .inl (ow_nI P)))] sz) := by
  refine Met.ofW (cc := cX8_tie) (maxL := 3) (ret := (some .int)) (by decide) rfl ?_
  intro p e s m args below meth c s₁ B hml hv
  obtain ⟨rfl, hsz, hP, hK, hD0⟩ := hv
  have hx := B.exec
  have hb := B.bytes
  have hr := B.returns
  have hts := atoms_spec (ws := wg_X8_tie) B.pre
  have hown : s.vm.findClass RX8 = some m.cls := findClass_of_methodNamed B.named
  have hlocks := B.notSynchronized
  subst hsz
  have hD := hD0.self (sz := s.heap.size)
  generalize hAe : va_A [(aP, .inr (11, [.ref (px 0), .ref (px 1), .ref (px 2), .ref (px 3), .ref (px 4), .ref (px 5), .ref (px 6), .ref (px 7), .int wr])), ((px 6), .inl (cI, 48, .inl (ow_nI P)))] s.heap.size = A at hD ⊢
  have hA : ∀ q : Nat, s.heap.size ≤ q → A q := fun q h => by rw [← hAe]; exact Or.inr h
  have hS : va_S A s.heap s.heap [] := va_S.rf
  have hP : va_P (dC, dI) vwCl [(aP, .inr (11, [.ref (px 0), .ref (px 1), .ref (px 2), .ref (px 3), .ref (px 4), .ref (px 5), .ref (px 6), .ref (px 7), .int wr])), ((px 6), .inl (cI, 48, .inl (ow_nI P)))] s.heap := hP
  have hl := lv_entry ([.ref aP, .int (nI a), .int (nI b)]) (n := 3) (Nat.le_of_ble_eq_true rfl)
  rw [lg_entry_eq]
  generalize (lg_sl ([.ref aP, .int (nI a), .int (nI b)]) ++ List.replicate (3 - (lg_sl ([.ref aP, .int (nI a), .int (nI b)])).length) Slot.unset).toArray = ls at hl ⊢
  have hl : lv_has ls 3 [(0, .ref aP), (1, .int (nI a)), (2, .int (nI b))] := hl
  refine ow_named (fun QQ hQQ => ?_)
  suffices key9 : ∀ (H : Heap) (locs : List Loc), va_P (dC, dI) vwCl [(aP, .inr (11, [.ref (px 0), .ref (px 1), .ref (px 2), .ref (px 3), .ref (px 4), .ref (px 5), .ref (px 6), .ref (px 7), .int wr])), ((px 6), .inl (cI, 48, .inl (ow_nI P)))] H → va_S A s.heap H locs → W p l e ({ frames := 0, cells := 0, slots := 0, locals := 0 } : Room) s m ([.ref aP, .int (nI a), .int (nI b)] : List Value).toArray below meth c H locs 0 0 QQ (F0 m 0 ls []) from key9 s.heap [] hP hS
  intro H locs hP hS
  refine lv_aload_n hx hb dgX8_tie_0 rfl (lv_at hl 0 rfl) ?_
  refine va_get (D := (dC, dI)) (ci := 11) (v := .ref (px 6)) (C := RX8) (T := TX8) (N := 9) hx hb hts (fun _ h => List.mem_cons_of_mem _ (List.mem_append_left _ (List.mem_append_right _ h))) hown hK hP 0 rfl rfl 6 (by decide) (hts (.fieldLink RX8 41 "KnotHouse$Polynomials" "partner" "[I") (by decide +kernel)) (fun _ h9 => h9) rfl dgX8_tie_1 ?_
  refine lv_iload_n hx hb dgX8_tie_4 rfl (lv_at hl 1 rfl) ?_
  refine va_iald hx hb hK hP 1 0 rfl rfl (vp_in_nI (n := a) (N := 48) ha (by decide)) dgX8_tie_5 ?_
  refine ow_topi (y := nI (P a)) (ow_nI_at P (Nat.lt_trans (m := 48) ha (by decide))) ?_
  refine lv_iload_n hx hb dgX8_tie_6 rfl (lv_at hl 2 rfl) ?_
  rcases Decidable.em (P a = b) with h1 | h1
  · refine lv_icmp_ne (tgt := 12) hx hb dgX8_tie_7 (by decide) (fun c9 => absurd c9 (not_not_intro (congrArg nI h1))) (fun _ => ?_)
    refine lv_iconst (v := 1) hx hb dgX8_tie_10 (by decide) ?_
    have hq : pt_tie P a b = (P, 1) := if_pos h1
    have hP : va_P (dC, dI) vwCl [(aP, .inr (11, [.ref (px 0), .ref (px 1), .ref (px 2), .ref (px 3), .ref (px 4), .ref (px 5), .ref (px 6), .ref (px 7), .int wr])), ((px 6), .inl (cI, 48, .inl (ow_nI (pt_tie P a b).1)))] H := by rw [hq]; exact hP
    have hD : va_D A [(aP, .inr (11, [.ref (px 0), .ref (px 1), .ref (px 2), .ref (px 3), .ref (px 4), .ref (px 5), .ref (px 6), .ref (px 7), .int wr])), ((px 6), .inl (cI, 48, .inl (ow_nI (pt_tie P a b).1)))] := by rw [hq]; exact hD
    rw [hQQ]
    exact W.iret (v := 1) hx hb hr (fun t ht hW => ⟨⟨1, (), rfl, by rw [hq]; rfl, by rw [ht]; exact hP, hD⟩, hS.F ht⟩) hS.2.2 dgX8_tie_11
  · refine lv_icmp_ne (tgt := 12) hx hb dgX8_tie_7 (by decide) (fun _ => ?_) (fun c9 => absurd c9 (fun h9 => h1 (ow_nI_inj (Nat.lt_trans (hP9 a) (by decide)) (by omega) h9)))
    refine lv_aload_n hx hb dgX8_tie_12 rfl (lv_at hl 0 rfl) ?_
    refine va_get (D := (dC, dI)) (ci := 11) (v := .ref (px 6)) (C := RX8) (T := TX8) (N := 9) hx hb hts (fun _ h => List.mem_cons_of_mem _ (List.mem_append_left _ (List.mem_append_right _ h))) hown hK hP 0 rfl rfl 6 (by decide) (hts (.fieldLink RX8 41 "KnotHouse$Polynomials" "partner" "[I") (by decide +kernel)) (fun _ h9 => h9) rfl dgX8_tie_13 ?_
    refine lv_aload_n hx hb dgX8_tie_16 rfl (lv_at hl 0 rfl) ?_
    refine va_get (D := (dC, dI)) (ci := 11) (v := .ref (px 6)) (C := RX8) (T := TX8) (N := 9) hx hb hts (fun _ h => List.mem_cons_of_mem _ (List.mem_append_left _ (List.mem_append_right _ h))) hown hK hP 0 rfl rfl 6 (by decide) (hts (.fieldLink RX8 41 "KnotHouse$Polynomials" "partner" "[I") (by decide +kernel)) (fun _ h9 => h9) rfl dgX8_tie_17 ?_
    refine lv_iload_n hx hb dgX8_tie_20 rfl (lv_at hl 1 rfl) ?_
    refine va_iald hx hb hK hP 1 0 rfl rfl (vp_in_nI (n := a) (N := 48) ha (by decide)) dgX8_tie_21 ?_
    refine ow_topi (y := nI (P a)) (ow_nI_at P (Nat.lt_trans (m := 48) ha (by decide))) ?_
    refine lv_aload_n hx hb dgX8_tie_22 rfl (lv_at hl 0 rfl) ?_
    refine va_get (D := (dC, dI)) (ci := 11) (v := .ref (px 6)) (C := RX8) (T := TX8) (N := 9) hx hb hts (fun _ h => List.mem_cons_of_mem _ (List.mem_append_left _ (List.mem_append_right _ h))) hown hK hP 0 rfl rfl 6 (by decide) (hts (.fieldLink RX8 41 "KnotHouse$Polynomials" "partner" "[I") (by decide +kernel)) (fun _ h9 => h9) rfl dgX8_tie_23 ?_
    refine lv_iload_n hx hb dgX8_tie_26 rfl (lv_at hl 2 rfl) ?_
    refine va_iald hx hb hK hP 1 0 rfl rfl (vp_in_nI (n := b) (N := 48) hb9 (by decide)) dgX8_tie_27 ?_
    refine ow_topi (y := nI (P b)) (ow_nI_at P (Nat.lt_trans (m := 48) hb9 (by decide))) ?_
    refine ow_iastN (j := P a) (w := P b) hx hb hK hP hD hS 1 0 rfl rfl (hP9 a) (by decide) dgX8_tie_28 (fun H locs hP hD hS => ?_)
    have hP : va_P (dC, dI) vwCl [(aP, .inr (11, [.ref (px 0), .ref (px 1), .ref (px 2), .ref (px 3), .ref (px 4), .ref (px 5), .ref (px 6), .ref (px 7), .int wr])), ((px 6), .inl (cI, 48, .inl (ow_nI (nu P (P a) (P b)))))] H := hP
    have hD : va_D A [(aP, .inr (11, [.ref (px 0), .ref (px 1), .ref (px 2), .ref (px 3), .ref (px 4), .ref (px 5), .ref (px 6), .ref (px 7), .int wr])), ((px 6), .inl (cI, 48, .inl (ow_nI (nu P (P a) (P b)))))] := hD
    refine lv_aload_n hx hb dgX8_tie_29 rfl (lv_at hl 0 rfl) ?_
    refine va_get (D := (dC, dI)) (ci := 11) (v := .ref (px 6)) (C := RX8) (T := TX8) (N := 9) hx hb hts (fun _ h => List.mem_cons_of_mem _ (List.mem_append_left _ (List.mem_append_right _ h))) hown hK hP 0 rfl rfl 6 (by decide) (hts (.fieldLink RX8 41 "KnotHouse$Polynomials" "partner" "[I") (by decide +kernel)) (fun _ h9 => h9) rfl dgX8_tie_30 ?_
    refine lv_aload_n hx hb dgX8_tie_33 rfl (lv_at hl 0 rfl) ?_
    refine va_get (D := (dC, dI)) (ci := 11) (v := .ref (px 6)) (C := RX8) (T := TX8) (N := 9) hx hb hts (fun _ h => List.mem_cons_of_mem _ (List.mem_append_left _ (List.mem_append_right _ h))) hown hK hP 0 rfl rfl 6 (by decide) (hts (.fieldLink RX8 41 "KnotHouse$Polynomials" "partner" "[I") (by decide +kernel)) (fun _ h9 => h9) rfl dgX8_tie_34 ?_
    refine lv_iload_n hx hb dgX8_tie_37 rfl (lv_at hl 2 rfl) ?_
    refine va_iald hx hb hK hP 1 0 rfl rfl (vp_in_nI (n := b) (N := 48) hb9 (by decide)) dgX8_tie_38 ?_
    refine ow_topi (y := nI ((nu P (P a) (P b)) b)) (ow_nI_at (nu P (P a) (P b)) (Nat.lt_trans (m := 48) hb9 (by decide))) ?_
    refine lv_aload_n hx hb dgX8_tie_39 rfl (lv_at hl 0 rfl) ?_
    refine va_get (D := (dC, dI)) (ci := 11) (v := .ref (px 6)) (C := RX8) (T := TX8) (N := 9) hx hb hts (fun _ h => List.mem_cons_of_mem _ (List.mem_append_left _ (List.mem_append_right _ h))) hown hK hP 0 rfl rfl 6 (by decide) (hts (.fieldLink RX8 41 "KnotHouse$Polynomials" "partner" "[I") (by decide +kernel)) (fun _ h9 => h9) rfl dgX8_tie_40 ?_
    refine lv_iload_n hx hb dgX8_tie_43 rfl (lv_at hl 1 rfl) ?_
    refine va_iald hx hb hK hP 1 0 rfl rfl (vp_in_nI (n := a) (N := 48) ha (by decide)) dgX8_tie_44 ?_
    refine ow_topi (y := nI ((nu P (P a) (P b)) a)) (ow_nI_at (nu P (P a) (P b)) (Nat.lt_trans (m := 48) ha (by decide))) ?_
    refine ow_iastN (j := (nu P (P a) (P b)) b) (w := (nu P (P a) (P b)) a) hx hb hK hP hD hS 1 0 rfl rfl (nu_b48 hP9 (hP9 b) b) (by decide) dgX8_tie_45 (fun H locs hP hD hS => ?_)
    have hP : va_P (dC, dI) vwCl [(aP, .inr (11, [.ref (px 0), .ref (px 1), .ref (px 2), .ref (px 3), .ref (px 4), .ref (px 5), .ref (px 6), .ref (px 7), .int wr])), ((px 6), .inl (cI, 48, .inl (ow_nI (nu (nu P (P a) (P b)) ((nu P (P a) (P b)) b) ((nu P (P a) (P b)) a)))))] H := hP
    have hD : va_D A [(aP, .inr (11, [.ref (px 0), .ref (px 1), .ref (px 2), .ref (px 3), .ref (px 4), .ref (px 5), .ref (px 6), .ref (px 7), .int wr])), ((px 6), .inl (cI, 48, .inl (ow_nI (nu (nu P (P a) (P b)) ((nu P (P a) (P b)) b) ((nu P (P a) (P b)) a)))))] := hD
    refine lv_iconst (v := 0) hx hb dgX8_tie_46 (by decide) ?_
    have hq : pt_tie P a b = (nu (nu P (P a) (P b)) ((nu P (P a) (P b)) b) ((nu P (P a) (P b)) a), 0) := if_neg h1
    have hP : va_P (dC, dI) vwCl [(aP, .inr (11, [.ref (px 0), .ref (px 1), .ref (px 2), .ref (px 3), .ref (px 4), .ref (px 5), .ref (px 6), .ref (px 7), .int wr])), ((px 6), .inl (cI, 48, .inl (ow_nI (pt_tie P a b).1)))] H := by rw [hq]; exact hP
    have hD : va_D A [(aP, .inr (11, [.ref (px 0), .ref (px 1), .ref (px 2), .ref (px 3), .ref (px 4), .ref (px 5), .ref (px 6), .ref (px 7), .int wr])), ((px 6), .inl (cI, 48, .inl (ow_nI (pt_tie P a b).1)))] := by rw [hq]; exact hD
    rw [hQQ]
    exact W.iret (v := 0) hx hb hr (fun t ht hW => ⟨⟨0, (), rfl, by rw [hq]; rfl, by rw [ht]; exact hP, hD⟩, hS.F ht⟩) hS.2.2 dgX8_tie_47
theorem dgX8_untie_0 : decode cX8_untie 0 = .ok (.aload_n 0, 1) := by decide +kernel
theorem dgX8_untie_1 : decode cX8_untie 1 = .ok (.getfield 41, 3) := by decide +kernel
theorem dgX8_untie_4 : decode cX8_untie 4 = .ok (.iload_n 1, 1) := by decide +kernel
theorem dgX8_untie_5 : decode cX8_untie 5 = .ok (.iaload, 1) := by decide +kernel
theorem dgX8_untie_6 : decode cX8_untie 6 = .ok (.iload_n 2, 1) := by decide +kernel
theorem dgX8_untie_7 : decode cX8_untie 7 = .ok (.if_icmp .eq 27, 3) := by decide +kernel
theorem dgX8_untie_10 : decode cX8_untie 10 = .ok (.aload_n 0, 1) := by decide +kernel
theorem dgX8_untie_11 : decode cX8_untie 11 = .ok (.getfield 41, 3) := by decide +kernel
theorem dgX8_untie_14 : decode cX8_untie 14 = .ok (.aload_n 0, 1) := by decide +kernel
theorem dgX8_untie_15 : decode cX8_untie 15 = .ok (.getfield 41, 3) := by decide +kernel
theorem dgX8_untie_18 : decode cX8_untie 18 = .ok (.iload_n 1, 1) := by decide +kernel
theorem dgX8_untie_19 : decode cX8_untie 19 = .ok (.iaload, 1) := by decide +kernel
theorem dgX8_untie_20 : decode cX8_untie 20 = .ok (.iload_n 1, 1) := by decide +kernel
theorem dgX8_untie_21 : decode cX8_untie 21 = .ok (.iastore, 1) := by decide +kernel
theorem dgX8_untie_22 : decode cX8_untie 22 = .ok (.aload_n 0, 1) := by decide +kernel
theorem dgX8_untie_23 : decode cX8_untie 23 = .ok (.getfield 41, 3) := by decide +kernel
theorem dgX8_untie_26 : decode cX8_untie 26 = .ok (.aload_n 0, 1) := by decide +kernel
theorem dgX8_untie_27 : decode cX8_untie 27 = .ok (.getfield 41, 3) := by decide +kernel
theorem dgX8_untie_30 : decode cX8_untie 30 = .ok (.iload_n 2, 1) := by decide +kernel
theorem dgX8_untie_31 : decode cX8_untie 31 = .ok (.iaload, 1) := by decide +kernel
theorem dgX8_untie_32 : decode cX8_untie 32 = .ok (.iload_n 2, 1) := by decide +kernel
theorem dgX8_untie_33 : decode cX8_untie 33 = .ok (.iastore, 1) := by decide +kernel
theorem dgX8_untie_34 : decode cX8_untie 34 = .ok (.return_, 1) := by decide +kernel
def wg_X8_untie : List Cond := .code yX8_untie cX8_untie 3 none :: (([.fieldLink RX8 41 "KnotHouse$Polynomials" "partner" "[I"] ++ wsX80) ++ [])
set_option maxHeartbeats 4000000 in
set_option maxRecDepth 100000 in
theorem kg_X8_untie (l : Launch) (dC : Nat → ClassId) (dI : Nat → Nat → Nat) (cI cB cJ cZ : ClassId) (aP : Nat) (px : Nat → Nat) (wr : Int32) (P : Nat → Nat) (hP9 : ow_b48 P) (a b : Nat) (ha : a < 48) (hb9 : b < 48) (sz : Nat) : Met l yX8_untie wg_X8_untie (({ frames := 0, cells := 0, slots := 0, locals := 0 } : Room)) (va_Pc [.ref aP, .int (nI a), .int (nI b)] (fun U => U.heap.size = sz ∧ va_P (dC, dI) vwCl [(aP, .inr (11, [.ref (px 0), .ref (px 1), .ref (px 2), .ref (px 3), .ref (px 4), .ref (px 5), .ref (px 6), .ref (px 7), .int wr])), ((px 6), .inl (cI, 48, .inl (ow_nI P)))] U.heap ∧ va_K (dC, dI) vwCl [(cI, .int), (cB, .byte), (cJ, .long), (cZ, .boolean)] U ∧ va_D (fun _ => True) [(aP, .inr (11, [.ref (px 0), .ref (px 1), .ref (px 2), .ref (px 3), .ref (px 4), .ref (px 5), .ref (px 6), .ref (px 7), .int wr])), ((px 6), .inl (cI, 48, .inl (ow_nI P)))])) (va_Qv (fun (g : Unit) => True) (fun g t => va_P (dC, dI) vwCl [(aP, .inr (11, [.ref (px 0), .ref (px 1), .ref (px 2), .ref (px 3), .ref (px 4), .ref (px 5), .ref (px 6), .ref (px 7), .int wr])), ((px 6), .inl (cI, 48, .inl (ow_nI (pt_un P a b))))] t.heap ∧ va_D (va_A [(aP, .inr (11, [.ref (px 0), .ref (px 1), .ref (px 2), .ref (px 3), .ref (px 4), .ref (px 5), .ref (px 6), .ref (px 7), .int wr])), ((px 6), .inl (cI, 48, .inl (ow_nI P)))] sz) [(aP, .inr (11, [.ref (px 0), .ref (px 1), .ref (px 2), .ref (px 3), .ref (px 4), .ref (px 5), .ref (px 6), .ref (px 7), .int wr])), ((px 6), .inl (cI, 48, .inl (ow_nI (pt_un P a b))))]) (va_A [(aP, .inr (11, [.ref (px 0), .ref (px 1), .ref (px 2), .ref (px 3), .ref (px 4), .ref (px 5), .ref (px 6), .ref (px 7), .int wr])), ((px 6), .inl (cI, 48, .inl (ow_nI P)))] sz)) 0 0 (va_A [(aP, .inr (11, [.ref (px 0), .ref (px 1), .ref (px 2), .ref (px 3), .ref (px 4), .ref (px 5), .ref (px 6), .ref (px 7), .int wr])), ((px 6), .inl (cI, 48, .inl (ow_nI P)))] sz) := by
  refine Met.ofW (cc := cX8_untie) (maxL := 3) (ret := none) (by decide) rfl ?_
  intro p e s m args below meth c s₁ B hml hv
  obtain ⟨rfl, hsz, hP, hK, hD0⟩ := hv
  have hx := B.exec
  have hb := B.bytes
  have hr := B.returns
  have hts := atoms_spec (ws := wg_X8_untie) B.pre
  have hown : s.vm.findClass RX8 = some m.cls := findClass_of_methodNamed B.named
  have hlocks := B.notSynchronized
  subst hsz
  have hD := hD0.self (sz := s.heap.size)
  generalize hAe : va_A [(aP, .inr (11, [.ref (px 0), .ref (px 1), .ref (px 2), .ref (px 3), .ref (px 4), .ref (px 5), .ref (px 6), .ref (px 7), .int wr])), ((px 6), .inl (cI, 48, .inl (ow_nI P)))] s.heap.size = A at hD ⊢
  have hA : ∀ q : Nat, s.heap.size ≤ q → A q := fun q h => by rw [← hAe]; exact Or.inr h
  have hS : va_S A s.heap s.heap [] := va_S.rf
  have hP : va_P (dC, dI) vwCl [(aP, .inr (11, [.ref (px 0), .ref (px 1), .ref (px 2), .ref (px 3), .ref (px 4), .ref (px 5), .ref (px 6), .ref (px 7), .int wr])), ((px 6), .inl (cI, 48, .inl (ow_nI P)))] s.heap := hP
  have hl := lv_entry ([.ref aP, .int (nI a), .int (nI b)]) (n := 3) (Nat.le_of_ble_eq_true rfl)
  rw [lg_entry_eq]
  generalize (lg_sl ([.ref aP, .int (nI a), .int (nI b)]) ++ List.replicate (3 - (lg_sl ([.ref aP, .int (nI a), .int (nI b)])).length) Slot.unset).toArray = ls at hl ⊢
  have hl : lv_has ls 3 [(0, .ref aP), (1, .int (nI a)), (2, .int (nI b))] := hl
  refine ow_named (fun QQ hQQ => ?_)
  suffices key9 : ∀ (H : Heap) (locs : List Loc), va_P (dC, dI) vwCl [(aP, .inr (11, [.ref (px 0), .ref (px 1), .ref (px 2), .ref (px 3), .ref (px 4), .ref (px 5), .ref (px 6), .ref (px 7), .int wr])), ((px 6), .inl (cI, 48, .inl (ow_nI P)))] H → va_S A s.heap H locs → W p l e ({ frames := 0, cells := 0, slots := 0, locals := 0 } : Room) s m ([.ref aP, .int (nI a), .int (nI b)] : List Value).toArray below meth c H locs 0 0 QQ (F0 m 0 ls []) from key9 s.heap [] hP hS
  intro H locs hP hS
  refine lv_aload_n hx hb dgX8_untie_0 rfl (lv_at hl 0 rfl) ?_
  refine va_get (D := (dC, dI)) (ci := 11) (v := .ref (px 6)) (C := RX8) (T := TX8) (N := 9) hx hb hts (fun _ h => List.mem_cons_of_mem _ (List.mem_append_left _ (List.mem_append_right _ h))) hown hK hP 0 rfl rfl 6 (by decide) (hts (.fieldLink RX8 41 "KnotHouse$Polynomials" "partner" "[I") (by decide +kernel)) (fun _ h9 => h9) rfl dgX8_untie_1 ?_
  refine lv_iload_n hx hb dgX8_untie_4 rfl (lv_at hl 1 rfl) ?_
  refine va_iald hx hb hK hP 1 0 rfl rfl (vp_in_nI (n := a) (N := 48) ha (by decide)) dgX8_untie_5 ?_
  refine ow_topi (y := nI (P a)) (ow_nI_at P (Nat.lt_trans (m := 48) ha (by decide))) ?_
  refine lv_iload_n hx hb dgX8_untie_6 rfl (lv_at hl 2 rfl) ?_
  rcases Decidable.em (P a = b) with h1 | h1
  · refine lv_icmp_eq (tgt := 34) hx hb dgX8_untie_7 (by decide) (fun _ => ?_) (fun c9 => absurd (congrArg nI h1) c9)
    have hq : pt_un P a b = P := if_pos h1
    have hP : va_P (dC, dI) vwCl [(aP, .inr (11, [.ref (px 0), .ref (px 1), .ref (px 2), .ref (px 3), .ref (px 4), .ref (px 5), .ref (px 6), .ref (px 7), .int wr])), ((px 6), .inl (cI, 48, .inl (ow_nI (pt_un P a b))))] H := by rw [hq]; exact hP
    have hD : va_D A [(aP, .inr (11, [.ref (px 0), .ref (px 1), .ref (px 2), .ref (px 3), .ref (px 4), .ref (px 5), .ref (px 6), .ref (px 7), .int wr])), ((px 6), .inl (cI, 48, .inl (ow_nI (pt_un P a b))))] := by rw [hq]; exact hD
    rw [hQQ]
    exact W.vret hx hb hr (fun t ht hW => ⟨⟨(), rfl, trivial, by rw [ht]; exact hP, hD⟩, hS.F ht⟩) hS.2.2 dgX8_untie_34
  · refine lv_icmp_eq (tgt := 34) hx hb dgX8_untie_7 (by decide) (fun c9 => absurd c9 (fun h9 => h1 (ow_nI_inj (Nat.lt_trans (hP9 a) (by decide)) (by omega) h9))) (fun _ => ?_)
    refine lv_aload_n hx hb dgX8_untie_10 rfl (lv_at hl 0 rfl) ?_
    refine va_get (D := (dC, dI)) (ci := 11) (v := .ref (px 6)) (C := RX8) (T := TX8) (N := 9) hx hb hts (fun _ h => List.mem_cons_of_mem _ (List.mem_append_left _ (List.mem_append_right _ h))) hown hK hP 0 rfl rfl 6 (by decide) (hts (.fieldLink RX8 41 "KnotHouse$Polynomials" "partner" "[I") (by decide +kernel)) (fun _ h9 => h9) rfl dgX8_untie_11 ?_
    refine lv_aload_n hx hb dgX8_untie_14 rfl (lv_at hl 0 rfl) ?_
    refine va_get (D := (dC, dI)) (ci := 11) (v := .ref (px 6)) (C := RX8) (T := TX8) (N := 9) hx hb hts (fun _ h => List.mem_cons_of_mem _ (List.mem_append_left _ (List.mem_append_right _ h))) hown hK hP 0 rfl rfl 6 (by decide) (hts (.fieldLink RX8 41 "KnotHouse$Polynomials" "partner" "[I") (by decide +kernel)) (fun _ h9 => h9) rfl dgX8_untie_15 ?_
    refine lv_iload_n hx hb dgX8_untie_18 rfl (lv_at hl 1 rfl) ?_
    refine va_iald hx hb hK hP 1 0 rfl rfl (vp_in_nI (n := a) (N := 48) ha (by decide)) dgX8_untie_19 ?_
    refine ow_topi (y := nI (P a)) (ow_nI_at P (Nat.lt_trans (m := 48) ha (by decide))) ?_
    refine lv_iload_n hx hb dgX8_untie_20 rfl (lv_at hl 1 rfl) ?_
    refine ow_iastN (j := P a) (w := a) hx hb hK hP hD hS 1 0 rfl rfl (hP9 a) (by decide) dgX8_untie_21 (fun H locs hP hD hS => ?_)
    have hP : va_P (dC, dI) vwCl [(aP, .inr (11, [.ref (px 0), .ref (px 1), .ref (px 2), .ref (px 3), .ref (px 4), .ref (px 5), .ref (px 6), .ref (px 7), .int wr])), ((px 6), .inl (cI, 48, .inl (ow_nI (nu P (P a) a))))] H := hP
    have hD : va_D A [(aP, .inr (11, [.ref (px 0), .ref (px 1), .ref (px 2), .ref (px 3), .ref (px 4), .ref (px 5), .ref (px 6), .ref (px 7), .int wr])), ((px 6), .inl (cI, 48, .inl (ow_nI (nu P (P a) a))))] := hD
    refine lv_aload_n hx hb dgX8_untie_22 rfl (lv_at hl 0 rfl) ?_
    refine va_get (D := (dC, dI)) (ci := 11) (v := .ref (px 6)) (C := RX8) (T := TX8) (N := 9) hx hb hts (fun _ h => List.mem_cons_of_mem _ (List.mem_append_left _ (List.mem_append_right _ h))) hown hK hP 0 rfl rfl 6 (by decide) (hts (.fieldLink RX8 41 "KnotHouse$Polynomials" "partner" "[I") (by decide +kernel)) (fun _ h9 => h9) rfl dgX8_untie_23 ?_
    refine lv_aload_n hx hb dgX8_untie_26 rfl (lv_at hl 0 rfl) ?_
    refine va_get (D := (dC, dI)) (ci := 11) (v := .ref (px 6)) (C := RX8) (T := TX8) (N := 9) hx hb hts (fun _ h => List.mem_cons_of_mem _ (List.mem_append_left _ (List.mem_append_right _ h))) hown hK hP 0 rfl rfl 6 (by decide) (hts (.fieldLink RX8 41 "KnotHouse$Polynomials" "partner" "[I") (by decide +kernel)) (fun _ h9 => h9) rfl dgX8_untie_27 ?_
    refine lv_iload_n hx hb dgX8_untie_30 rfl (lv_at hl 2 rfl) ?_
    refine va_iald hx hb hK hP 1 0 rfl rfl (vp_in_nI (n := b) (N := 48) hb9 (by decide)) dgX8_untie_31 ?_
    refine ow_topi (y := nI ((nu P (P a) a) b)) (ow_nI_at (nu P (P a) a) (Nat.lt_trans (m := 48) hb9 (by decide))) ?_
    refine lv_iload_n hx hb dgX8_untie_32 rfl (lv_at hl 2 rfl) ?_
    refine ow_iastN (j := (nu P (P a) a) b) (w := b) hx hb hK hP hD hS 1 0 rfl rfl (nu_b48 hP9 ha b) (by decide) dgX8_untie_33 (fun H locs hP hD hS => ?_)
    have hP : va_P (dC, dI) vwCl [(aP, .inr (11, [.ref (px 0), .ref (px 1), .ref (px 2), .ref (px 3), .ref (px 4), .ref (px 5), .ref (px 6), .ref (px 7), .int wr])), ((px 6), .inl (cI, 48, .inl (ow_nI (nu (nu P (P a) a) ((nu P (P a) a) b) b))))] H := hP
    have hD : va_D A [(aP, .inr (11, [.ref (px 0), .ref (px 1), .ref (px 2), .ref (px 3), .ref (px 4), .ref (px 5), .ref (px 6), .ref (px 7), .int wr])), ((px 6), .inl (cI, 48, .inl (ow_nI (nu (nu P (P a) a) ((nu P (P a) a) b) b))))] := hD
    have hq : pt_un P a b = nu (nu P (P a) a) ((nu P (P a) a) b) b := if_neg h1
    have hP : va_P (dC, dI) vwCl [(aP, .inr (11, [.ref (px 0), .ref (px 1), .ref (px 2), .ref (px 3), .ref (px 4), .ref (px 5), .ref (px 6), .ref (px 7), .int wr])), ((px 6), .inl (cI, 48, .inl (ow_nI (pt_un P a b))))] H := by rw [hq]; exact hP
    have hD : va_D A [(aP, .inr (11, [.ref (px 0), .ref (px 1), .ref (px 2), .ref (px 3), .ref (px 4), .ref (px 5), .ref (px 6), .ref (px 7), .int wr])), ((px 6), .inl (cI, 48, .inl (ow_nI (pt_un P a b))))] := by rw [hq]; exact hD
    rw [hQQ]
    exact W.vret hx hb hr (fun t ht hW => ⟨⟨(), rfl, trivial, by rw [ht]; exact hP, hD⟩, hS.F ht⟩) hS.2.2 dgX8_untie_34
theorem dgX8_conwayAt_0 : decode cX8_conwayAt 0 = .ok (.iload_n 1, 1) := by decide +kernel
theorem dgX8_conwayAt_1 : decode cX8_conwayAt 1 = .ok (.ifCond .lt 12, 3) := by decide +kernel
theorem dgX8_conwayAt_4 : decode cX8_conwayAt 4 = .ok (.iload_n 1, 1) := by decide +kernel
theorem dgX8_conwayAt_5 : decode cX8_conwayAt 5 = .ok (.aload_n 0, 1) := by decide +kernel
theorem dgX8_conwayAt_6 : decode cX8_conwayAt 6 = .ok (.getfield 26, 3) := by decide +kernel
theorem dgX8_conwayAt_9 : decode cX8_conwayAt 9 = .ok (.arraylength, 1) := by decide +kernel
theorem dgX8_conwayAt_10 : decode cX8_conwayAt 10 = .ok (.if_icmp .lt 7, 3) := by decide +kernel
theorem dgX8_conwayAt_13 : decode cX8_conwayAt 13 = .ok (.iconst 0, 1) := by decide +kernel
theorem dgX8_conwayAt_14 : decode cX8_conwayAt 14 = .ok (.goto 9, 3) := by decide +kernel
theorem dgX8_conwayAt_17 : decode cX8_conwayAt 17 = .ok (.aload_n 0, 1) := by decide +kernel
theorem dgX8_conwayAt_18 : decode cX8_conwayAt 18 = .ok (.getfield 26, 3) := by decide +kernel
theorem dgX8_conwayAt_21 : decode cX8_conwayAt 21 = .ok (.iload_n 1, 1) := by decide +kernel
theorem dgX8_conwayAt_22 : decode cX8_conwayAt 22 = .ok (.iaload, 1) := by decide +kernel
theorem dgX8_conwayAt_23 : decode cX8_conwayAt 23 = .ok (.ireturn, 1) := by decide +kernel
def wg_X8_conwayAt : List Cond := .code yX8_conwayAt cX8_conwayAt 2 (some .int) :: (([.fieldLink RX8 26 "KnotHouse$Polynomials" "inOne" "[I"] ++ wsX80) ++ [])
set_option maxHeartbeats 4000000 in
set_option maxRecDepth 100000 in
theorem kg_X8_conwayAt (l : Launch) (dC : Nat → ClassId) (dI : Nat → Nat → Nat) (cI cB cJ cZ : ClassId) (aP : Nat) (px : Nat → Nat) (wr : Int32) (f : Nat → Int32) (k : Int32) : Met l yX8_conwayAt wg_X8_conwayAt (({ frames := 0, cells := 0, slots := 0, locals := 0 } : Room)) (va_Pc [.ref aP, .int k] (fun U => va_P (dC, dI) vwCl [(aP, .inr (11, [.ref (px 0), .ref (px 1), .ref (px 2), .ref (px 3), .ref (px 4), .ref (px 5), .ref (px 6), .ref (px 7), .int wr])), ((px 2), .inl (cI, 13, .inl f))] U.heap ∧ va_K (dC, dI) vwCl [(cI, .int), (cB, .byte), (cJ, .long), (cZ, .boolean)] U)) (va_Qi (fun r (_ : Unit) => r = (if 0 ≤ k ∧ k < 13 then f k.toNatClampNeg else 0)) (fun _ _ => True) (fun _ => False)) 0 0 (fun _ => False) := by
  refine Met.ofW (cc := cX8_conwayAt) (maxL := 2) (ret := (some .int)) (by decide) rfl ?_
  intro p e s m args below meth c s₁ B hml hv
  obtain ⟨rfl, hP, hK⟩ := hv
  have hx := B.exec
  have hb := B.bytes
  have hr := B.returns
  have hts := atoms_spec (ws := wg_X8_conwayAt) B.pre
  have hown : s.vm.findClass RX8 = some m.cls := findClass_of_methodNamed B.named
  have hlocks := B.notSynchronized
  have hS : va_S (fun _ => False) s.heap s.heap [] := va_S.rf
  have hP : va_P (dC, dI) vwCl [(aP, .inr (11, [.ref (px 0), .ref (px 1), .ref (px 2), .ref (px 3), .ref (px 4), .ref (px 5), .ref (px 6), .ref (px 7), .int wr])), ((px 2), .inl (cI, 13, .inl f))] s.heap := hP
  have hl := lv_entry ([.ref aP, .int k]) (n := 2) (Nat.le_of_ble_eq_true rfl)
  rw [lg_entry_eq]
  generalize (lg_sl ([.ref aP, .int k]) ++ List.replicate (2 - (lg_sl ([.ref aP, .int k])).length) Slot.unset).toArray = ls at hl ⊢
  have hl : lv_has ls 2 [(0, .ref aP), (1, .int k)] := hl
  refine ow_named (fun QQ hQQ => ?_)
  refine lv_iload_n hx hb dgX8_conwayAt_0 rfl (lv_at hl 1 rfl) ?_
  rcases Decidable.em (k < 0) with h1 | h1
  · refine lv_if_lt (tgt := 13) hx hb dgX8_conwayAt_1 (by decide) (fun _ => ?_) (fun c9 => absurd (h1) c9)
    refine lv_iconst (v := 0) hx hb dgX8_conwayAt_13 (by decide) ?_
    refine lv_goto (tgt := 23) hx hb dgX8_conwayAt_14 (by decide) ?_
    rw [hQQ]
    exact W.iret (v := 0) hx hb hr (fun t ht hW => ⟨⟨0, (), rfl, by rw [if_neg (fun h9 => Int32.not_lt.mpr h9.1 h1)], trivial⟩, hS.F ht⟩) hS.2.2 dgX8_conwayAt_23
  · refine lv_if_lt (tgt := 13) hx hb dgX8_conwayAt_1 (by decide) (fun c9 => absurd c9 (h1)) (fun _ => ?_)
    refine lv_iload_n hx hb dgX8_conwayAt_4 rfl (lv_at hl 1 rfl) ?_
    refine lv_aload_n hx hb dgX8_conwayAt_5 rfl (lv_at hl 0 rfl) ?_
    refine va_get (D := (dC, dI)) (ci := 11) (v := .ref (px 2)) (C := RX8) (T := TX8) (N := 9) hx hb hts (fun _ h => List.mem_cons_of_mem _ (List.mem_append_left _ (List.mem_append_right _ h))) hown hK hP 0 rfl rfl 2 (by decide) (hts (.fieldLink RX8 26 "KnotHouse$Polynomials" "inOne" "[I") (by decide +kernel)) (fun _ h9 => h9) rfl dgX8_conwayAt_6 ?_
    refine va_alen (v := 13) hx hb hK hP 1 0 rfl rfl rfl dgX8_conwayAt_9 ?_
    rcases Decidable.em (k < 13) with h2 | h2
    · obtain ⟨j, hj, hkj⟩ : ∃ j : Nat, j < 13 ∧ k = nI j := by
        rcases pk_ix k (n := 13) (by decide) with h9 | h9 | h9
        · exact absurd h9 h1
        · exact absurd h2 (Int32.not_lt.mpr h9)
        · exact h9
      refine lv_icmp_lt (tgt := 17) hx hb dgX8_conwayAt_10 (by decide) (fun _ => ?_) (fun c9 => absurd (h2) c9)
      refine lv_aload_n hx hb dgX8_conwayAt_17 rfl (lv_at hl 0 rfl) ?_
      refine va_get (D := (dC, dI)) (ci := 11) (v := .ref (px 2)) (C := RX8) (T := TX8) (N := 9) hx hb hts (fun _ h => List.mem_cons_of_mem _ (List.mem_append_left _ (List.mem_append_right _ h))) hown hK hP 0 rfl rfl 2 (by decide) (hts (.fieldLink RX8 26 "KnotHouse$Polynomials" "inOne" "[I") (by decide +kernel)) (fun _ h9 => h9) rfl dgX8_conwayAt_18 ?_
      refine lv_iload_n hx hb dgX8_conwayAt_21 rfl (lv_at hl 1 rfl) ?_
      refine ow_topi (y := nI j) hkj ?_
      refine va_iald hx hb hK hP 1 0 rfl rfl (vp_in_nI (n := j) (N := 13) hj (by decide)) dgX8_conwayAt_22 ?_
      refine ow_topi (y := f j) (congrArg f (nI_clamp (n := j) (Nat.lt_trans (m := 13) hj (by decide)))) ?_
      rw [hQQ]
      exact W.iret (v := (f j)) hx hb hr (fun t ht hW => ⟨⟨(f j), (), rfl, by rw [if_pos ⟨Int32.not_lt.mp h1, h2⟩, hkj, nI_clamp (by omega)], trivial⟩, hS.F ht⟩) hS.2.2 dgX8_conwayAt_23
    · refine lv_icmp_lt (tgt := 17) hx hb dgX8_conwayAt_10 (by decide) (fun c9 => absurd c9 (h2)) (fun _ => ?_)
      refine lv_iconst (v := 0) hx hb dgX8_conwayAt_13 (by decide) ?_
      refine lv_goto (tgt := 23) hx hb dgX8_conwayAt_14 (by decide) ?_
      rw [hQQ]
      exact W.iret (v := 0) hx hb hr (fun t ht hW => ⟨⟨0, (), rfl, by rw [if_neg (fun h9 => h2 h9.2)], trivial⟩, hS.F ht⟩) hS.2.2 dgX8_conwayAt_23
theorem dgX8_takeBoth_0 : decode cX8_takeBoth 0 = .ok (.iload_n 1, 1) := by decide +kernel
theorem dgX8_takeBoth_1 : decode cX8_takeBoth 1 = .ok (.aload_n 0, 1) := by decide +kernel
theorem dgX8_takeBoth_2 : decode cX8_takeBoth 2 = .ok (.getfield 45, 3) := by decide +kernel
theorem dgX8_takeBoth_5 : decode cX8_takeBoth 5 = .ok (.getfield 79, 3) := by decide +kernel
theorem dgX8_takeBoth_8 : decode cX8_takeBoth 8 = .ok (.if_icmp .lt 19, 3) := by decide +kernel
theorem dgX8_takeBoth_11 : decode cX8_takeBoth 11 = .ok (.aload_n 0, 1) := by decide +kernel
theorem dgX8_takeBoth_12 : decode cX8_takeBoth 12 = .ok (.getfield 38, 3) := by decide +kernel
theorem dgX8_takeBoth_15 : decode cX8_takeBoth 15 = .ok (.iload_n 2, 1) := by decide +kernel
theorem dgX8_takeBoth_16 : decode cX8_takeBoth 16 = .ok (.bipush 24, 2) := by decide +kernel
theorem dgX8_takeBoth_18 : decode cX8_takeBoth 18 = .ok (.imul, 1) := by decide +kernel
theorem dgX8_takeBoth_19 : decode cX8_takeBoth 19 = .ok (.iload_n 3, 1) := by decide +kernel
theorem dgX8_takeBoth_20 : decode cX8_takeBoth 20 = .ok (.iadd, 1) := by decide +kernel
theorem dgX8_takeBoth_21 : decode cX8_takeBoth 21 = .ok (.dup2, 1) := by decide +kernel
theorem dgX8_takeBoth_22 : decode cX8_takeBoth 22 = .ok (.iaload, 1) := by decide +kernel
theorem dgX8_takeBoth_23 : decode cX8_takeBoth 23 = .ok (.iconst 1, 1) := by decide +kernel
theorem dgX8_takeBoth_24 : decode cX8_takeBoth 24 = .ok (.iadd, 1) := by decide +kernel
theorem dgX8_takeBoth_25 : decode cX8_takeBoth 25 = .ok (.iastore, 1) := by decide +kernel
theorem dgX8_takeBoth_26 : decode cX8_takeBoth 26 = .ok (.return_, 1) := by decide +kernel
theorem dgX8_takeBoth_27 : decode cX8_takeBoth 27 = .ok (.iconst 4, 1) := by decide +kernel
theorem dgX8_takeBoth_28 : decode cX8_takeBoth 28 = .ok (.iload_n 1, 1) := by decide +kernel
theorem dgX8_takeBoth_29 : decode cX8_takeBoth 29 = .ok (.imul, 1) := by decide +kernel
theorem dgX8_takeBoth_30 : decode cX8_takeBoth 30 = .ok (.istore 4, 2) := by decide +kernel
theorem dgX8_takeBoth_32 : decode cX8_takeBoth 32 = .ok (.iconst 4, 1) := by decide +kernel
theorem dgX8_takeBoth_33 : decode cX8_takeBoth 33 = .ok (.iload_n 1, 1) := by decide +kernel
theorem dgX8_takeBoth_34 : decode cX8_takeBoth 34 = .ok (.imul, 1) := by decide +kernel
theorem dgX8_takeBoth_35 : decode cX8_takeBoth 35 = .ok (.iconst 1, 1) := by decide +kernel
theorem dgX8_takeBoth_36 : decode cX8_takeBoth 36 = .ok (.iadd, 1) := by decide +kernel
theorem dgX8_takeBoth_37 : decode cX8_takeBoth 37 = .ok (.istore 5, 2) := by decide +kernel
theorem dgX8_takeBoth_39 : decode cX8_takeBoth 39 = .ok (.iconst 4, 1) := by decide +kernel
theorem dgX8_takeBoth_40 : decode cX8_takeBoth 40 = .ok (.iload_n 1, 1) := by decide +kernel
theorem dgX8_takeBoth_41 : decode cX8_takeBoth 41 = .ok (.imul, 1) := by decide +kernel
theorem dgX8_takeBoth_42 : decode cX8_takeBoth 42 = .ok (.iconst 2, 1) := by decide +kernel
theorem dgX8_takeBoth_43 : decode cX8_takeBoth 43 = .ok (.iadd, 1) := by decide +kernel
theorem dgX8_takeBoth_44 : decode cX8_takeBoth 44 = .ok (.istore 6, 2) := by decide +kernel
theorem dgX8_takeBoth_46 : decode cX8_takeBoth 46 = .ok (.iconst 4, 1) := by decide +kernel
theorem dgX8_takeBoth_47 : decode cX8_takeBoth 47 = .ok (.iload_n 1, 1) := by decide +kernel
theorem dgX8_takeBoth_48 : decode cX8_takeBoth 48 = .ok (.imul, 1) := by decide +kernel
theorem dgX8_takeBoth_49 : decode cX8_takeBoth 49 = .ok (.iconst 3, 1) := by decide +kernel
theorem dgX8_takeBoth_50 : decode cX8_takeBoth 50 = .ok (.iadd, 1) := by decide +kernel
theorem dgX8_takeBoth_51 : decode cX8_takeBoth 51 = .ok (.istore 7, 2) := by decide +kernel
theorem dgX8_takeBoth_53 : decode cX8_takeBoth 53 = .ok (.iconst 0, 1) := by decide +kernel
theorem dgX8_takeBoth_54 : decode cX8_takeBoth 54 = .ok (.istore 8, 2) := by decide +kernel
theorem dgX8_takeBoth_56 : decode cX8_takeBoth 56 = .ok (.iload 8, 2) := by decide +kernel
theorem dgX8_takeBoth_58 : decode cX8_takeBoth 58 = .ok (.iconst 2, 1) := by decide +kernel
theorem dgX8_takeBoth_59 : decode cX8_takeBoth 59 = .ok (.if_icmp .ge 124, 3) := by decide +kernel
theorem dgX8_takeBoth_62 : decode cX8_takeBoth 62 = .ok (.aload_n 0, 1) := by decide +kernel
theorem dgX8_takeBoth_63 : decode cX8_takeBoth 63 = .ok (.getfield 45, 3) := by decide +kernel
theorem dgX8_takeBoth_66 : decode cX8_takeBoth 66 = .ok (.getfield 83, 3) := by decide +kernel
theorem dgX8_takeBoth_69 : decode cX8_takeBoth 69 = .ok (.iload_n 1, 1) := by decide +kernel
theorem dgX8_takeBoth_70 : decode cX8_takeBoth 70 = .ok (.iaload, 1) := by decide +kernel
theorem dgX8_takeBoth_71 : decode cX8_takeBoth 71 = .ok (.ifCond .le 7, 3) := by decide +kernel
theorem dgX8_takeBoth_74 : decode cX8_takeBoth 74 = .ok (.iconst 1, 1) := by decide +kernel
theorem dgX8_takeBoth_75 : decode cX8_takeBoth 75 = .ok (.goto 4, 3) := by decide +kernel
theorem dgX8_takeBoth_78 : decode cX8_takeBoth 78 = .ok (.iconst 0, 1) := by decide +kernel
theorem dgX8_takeBoth_79 : decode cX8_takeBoth 79 = .ok (.iload 8, 2) := by decide +kernel
theorem dgX8_takeBoth_81 : decode cX8_takeBoth 81 = .ok (.ifCond .ne 7, 3) := by decide +kernel
theorem dgX8_takeBoth_84 : decode cX8_takeBoth 84 = .ok (.iconst 1, 1) := by decide +kernel
theorem dgX8_takeBoth_85 : decode cX8_takeBoth 85 = .ok (.goto 4, 3) := by decide +kernel
theorem dgX8_takeBoth_88 : decode cX8_takeBoth 88 = .ok (.iconst 0, 1) := by decide +kernel
theorem dgX8_takeBoth_89 : decode cX8_takeBoth 89 = .ok (.if_icmp .ne 7, 3) := by decide +kernel
theorem dgX8_takeBoth_92 : decode cX8_takeBoth 92 = .ok (.iconst 1, 1) := by decide +kernel
theorem dgX8_takeBoth_93 : decode cX8_takeBoth 93 = .ok (.goto 4, 3) := by decide +kernel
theorem dgX8_takeBoth_96 : decode cX8_takeBoth 96 = .ok (.iconst 0, 1) := by decide +kernel
theorem dgX8_takeBoth_97 : decode cX8_takeBoth 97 = .ok (.istore 9, 2) := by decide +kernel
theorem dgX8_takeBoth_99 : decode cX8_takeBoth 99 = .ok (.iload 9, 2) := by decide +kernel
theorem dgX8_takeBoth_101 : decode cX8_takeBoth 101 = .ok (.ifCond .eq 8, 3) := by decide +kernel
theorem dgX8_takeBoth_104 : decode cX8_takeBoth 104 = .ok (.iload 6, 2) := by decide +kernel
theorem dgX8_takeBoth_106 : decode cX8_takeBoth 106 = .ok (.goto 5, 3) := by decide +kernel
theorem dgX8_takeBoth_109 : decode cX8_takeBoth 109 = .ok (.iload 7, 2) := by decide +kernel
theorem dgX8_takeBoth_111 : decode cX8_takeBoth 111 = .ok (.istore 10, 2) := by decide +kernel
theorem dgX8_takeBoth_113 : decode cX8_takeBoth 113 = .ok (.iload 9, 2) := by decide +kernel
theorem dgX8_takeBoth_115 : decode cX8_takeBoth 115 = .ok (.ifCond .eq 8, 3) := by decide +kernel
theorem dgX8_takeBoth_118 : decode cX8_takeBoth 118 = .ok (.iload 7, 2) := by decide +kernel
theorem dgX8_takeBoth_120 : decode cX8_takeBoth 120 = .ok (.goto 5, 3) := by decide +kernel
theorem dgX8_takeBoth_123 : decode cX8_takeBoth 123 = .ok (.iload 6, 2) := by decide +kernel
theorem dgX8_takeBoth_125 : decode cX8_takeBoth 125 = .ok (.istore 11, 2) := by decide +kernel
theorem dgX8_takeBoth_127 : decode cX8_takeBoth 127 = .ok (.aload_n 0, 1) := by decide +kernel
theorem dgX8_takeBoth_128 : decode cX8_takeBoth 128 = .ok (.iload 5, 2) := by decide +kernel
theorem dgX8_takeBoth_130 : decode cX8_takeBoth 130 = .ok (.iload 10, 2) := by decide +kernel
theorem dgX8_takeBoth_132 : decode cX8_takeBoth 132 = .ok (.invokevirtual 130, 3) := by decide +kernel
theorem dgX8_takeBoth_135 : decode cX8_takeBoth 135 = .ok (.aload_n 0, 1) := by decide +kernel
theorem dgX8_takeBoth_136 : decode cX8_takeBoth 136 = .ok (.iload 4, 2) := by decide +kernel
theorem dgX8_takeBoth_138 : decode cX8_takeBoth 138 = .ok (.iload 11, 2) := by decide +kernel
theorem dgX8_takeBoth_140 : decode cX8_takeBoth 140 = .ok (.invokevirtual 130, 3) := by decide +kernel
theorem dgX8_takeBoth_143 : decode cX8_takeBoth 143 = .ok (.iadd, 1) := by decide +kernel
theorem dgX8_takeBoth_144 : decode cX8_takeBoth 144 = .ok (.istore 12, 2) := by decide +kernel
theorem dgX8_takeBoth_146 : decode cX8_takeBoth 146 = .ok (.aload_n 0, 1) := by decide +kernel
theorem dgX8_takeBoth_147 : decode cX8_takeBoth 147 = .ok (.iload_n 1, 1) := by decide +kernel
theorem dgX8_takeBoth_148 : decode cX8_takeBoth 148 = .ok (.iconst 1, 1) := by decide +kernel
theorem dgX8_takeBoth_149 : decode cX8_takeBoth 149 = .ok (.iadd, 1) := by decide +kernel
theorem dgX8_takeBoth_150 : decode cX8_takeBoth 150 = .ok (.iload_n 2, 1) := by decide +kernel
theorem dgX8_takeBoth_151 : decode cX8_takeBoth 151 = .ok (.iload 8, 2) := by decide +kernel
theorem dgX8_takeBoth_153 : decode cX8_takeBoth 153 = .ok (.iadd, 1) := by decide +kernel
theorem dgX8_takeBoth_154 : decode cX8_takeBoth 154 = .ok (.iload_n 3, 1) := by decide +kernel
theorem dgX8_takeBoth_155 : decode cX8_takeBoth 155 = .ok (.iload 12, 2) := by decide +kernel
theorem dgX8_takeBoth_157 : decode cX8_takeBoth 157 = .ok (.iadd, 1) := by decide +kernel
theorem dgX8_takeBoth_158 : decode cX8_takeBoth 158 = .ok (.invokevirtual 126, 3) := by decide +kernel
theorem dgX8_takeBoth_161 : decode cX8_takeBoth 161 = .ok (.aload_n 0, 1) := by decide +kernel
theorem dgX8_takeBoth_162 : decode cX8_takeBoth 162 = .ok (.iload 4, 2) := by decide +kernel
theorem dgX8_takeBoth_164 : decode cX8_takeBoth 164 = .ok (.iload 11, 2) := by decide +kernel
theorem dgX8_takeBoth_166 : decode cX8_takeBoth 166 = .ok (.invokevirtual 134, 3) := by decide +kernel
theorem dgX8_takeBoth_169 : decode cX8_takeBoth 169 = .ok (.aload_n 0, 1) := by decide +kernel
theorem dgX8_takeBoth_170 : decode cX8_takeBoth 170 = .ok (.iload 5, 2) := by decide +kernel
theorem dgX8_takeBoth_172 : decode cX8_takeBoth 172 = .ok (.iload 10, 2) := by decide +kernel
theorem dgX8_takeBoth_174 : decode cX8_takeBoth 174 = .ok (.invokevirtual 134, 3) := by decide +kernel
theorem dgX8_takeBoth_177 : decode cX8_takeBoth 177 = .ok (.iinc 8 1, 3) := by decide +kernel
theorem dgX8_takeBoth_180 : decode cX8_takeBoth 180 = .ok (.goto (-124), 3) := by decide +kernel
theorem dgX8_takeBoth_183 : decode cX8_takeBoth 183 = .ok (.return_, 1) := by decide +kernel
def wg_X8_takeBoth : List Cond := .code yX8_takeBoth cX8_takeBoth 13 none :: (([.fieldLink RX8 45 "KnotHouse$Polynomials" "net" "LKnotHouse$Net;", .fieldLink RX8 79 "KnotHouse$Net" "crossings" "I", .fieldLink RX8 38 "KnotHouse$Polynomials" "states" "[I", .fieldLink RX8 83 "KnotHouse$Net" "sign" "[I", .methodLink RX8 126 yX8_takeBoth, .instanceMethod yX8_takeBoth, .selects RX8 yX8_takeBoth yX8_takeBoth, .initialized RX8] ++ wsX80 ++ wsX70) ++ (wsV RX8 130 RX8 yX8_tie wg_X8_tie ++ (wsV RX8 134 RX8 yX8_untie wg_X8_untie ++ [])))
theorem gg_X8_takeBoth_0 : GoodIn wg_X8_takeBoth (wsV RX8 130 RX8 yX8_tie wg_X8_tie) := goodIn_sub (fun _ h => List.mem_cons_of_mem _ (List.mem_append_right _ (List.mem_append_left _ h))) (by decide +kernel)
theorem gg_X8_takeBoth_1 : GoodIn wg_X8_takeBoth (wsV RX8 134 RX8 yX8_untie wg_X8_untie) := goodIn_sub (fun _ h => List.mem_cons_of_mem _ (List.mem_append_right _ (List.mem_append_right _ (List.mem_append_left _ h)))) (by decide +kernel)
theorem gg_X8_takeBoth_self : GoodIn wg_X8_takeBoth (wsV RX8 126 RX8 yX8_takeBoth wg_X8_takeBoth) := goodIn_sub (by
  have key : ∀ w ∈ ([.methodLink RX8 126 yX8_takeBoth, .instanceMethod yX8_takeBoth, .selects RX8 yX8_takeBoth yX8_takeBoth, .initialized RX8] : List Cond), w ∈ wg_X8_takeBoth := by decide +kernel
  unfold wsV
  intro w h
  rcases List.mem_append.mp h with h | h
  · exact key w h
  · exact h) (by decide +kernel)
set_option maxHeartbeats 4000000 in
set_option maxRecDepth 100000 in
theorem kg_X8_takeBoth (l : Launch) (dC : Nat → ClassId) (dI : Nat → Nat → Nat) (cI cB cJ cZ : ClassId) (aP : Nat) (px : Nat → Nat) (wr : Int32) (nx : Nat → Nat) (x8 x9 x10 : Int32) (G : Nat → Int32) (cn : Nat) (hc : cn ≤ 12) : ∀ (d : Nat) (x o z : Nat) (q : ow_TQ) (_ : x + d = cn) (_ : ow_b48 q.1) (_ : tb_fit G d x o z q) (sz : Nat), Met l yX8_takeBoth wg_X8_takeBoth (({ frames := d + 1, cells := 0, slots := 0, locals := 40 + 32 * d } : Room)) (va_Pc [.ref aP, .int (nI x), .int (nI o), .int (nI z)] (fun U => U.heap.size = sz ∧ va_P (dC, dI) vwCl [(aP, .inr (11, [.ref (px 0), .ref (px 1), .ref (px 2), .ref (px 3), .ref (px 4), .ref (px 5), .ref (px 6), .ref (px 7), .int wr])), ((px 6), .inl (cI, 48, .inl (ow_nI q.1))), ((px 5), .inl (cI, 312, .inl q.2)), ((px 7), .inr (10, [.ref (nx 0), .ref (nx 1), .ref (nx 2), .ref (nx 3), .ref (nx 4), .ref (nx 5), .ref (nx 6), .int (nI cn), .int x8, .int x9, .int x10])), ((nx 2), .inl (cI, 12, .inl G))] U.heap ∧ va_K (dC, dI) vwCl [(cI, .int), (cB, .byte), (cJ, .long), (cZ, .boolean)] U ∧ va_D (fun _ => True) [(aP, .inr (11, [.ref (px 0), .ref (px 1), .ref (px 2), .ref (px 3), .ref (px 4), .ref (px 5), .ref (px 6), .ref (px 7), .int wr])), ((px 6), .inl (cI, 48, .inl (ow_nI q.1))), ((px 5), .inl (cI, 312, .inl q.2)), ((px 7), .inr (10, [.ref (nx 0), .ref (nx 1), .ref (nx 2), .ref (nx 3), .ref (nx 4), .ref (nx 5), .ref (nx 6), .int (nI cn), .int x8, .int x9, .int x10])), ((nx 2), .inl (cI, 12, .inl G))])) (va_Qv (fun (g : Unit) => True) (fun g t => va_P (dC, dI) vwCl [(aP, .inr (11, [.ref (px 0), .ref (px 1), .ref (px 2), .ref (px 3), .ref (px 4), .ref (px 5), .ref (px 6), .ref (px 7), .int wr])), ((px 6), .inl (cI, 48, .inl (ow_nI (tb_run G d x o z q).1))), ((px 5), .inl (cI, 312, .inl ((tb_run G d x o z q).2))), ((px 7), .inr (10, [.ref (nx 0), .ref (nx 1), .ref (nx 2), .ref (nx 3), .ref (nx 4), .ref (nx 5), .ref (nx 6), .int (nI cn), .int x8, .int x9, .int x10])), ((nx 2), .inl (cI, 12, .inl G))] t.heap ∧ va_D (va_A [(aP, .inr (11, [.ref (px 0), .ref (px 1), .ref (px 2), .ref (px 3), .ref (px 4), .ref (px 5), .ref (px 6), .ref (px 7), .int wr])), ((px 6), .inl (cI, 48, .inl (ow_nI q.1))), ((px 5), .inl (cI, 312, .inl q.2)), ((px 7), .inr (10, [.ref (nx 0), .ref (nx 1), .ref (nx 2), .ref (nx 3), .ref (nx 4), .ref (nx 5), .ref (nx 6), .int (nI cn), .int x8, .int x9, .int x10])), ((nx 2), .inl (cI, 12, .inl G))] sz) [(aP, .inr (11, [.ref (px 0), .ref (px 1), .ref (px 2), .ref (px 3), .ref (px 4), .ref (px 5), .ref (px 6), .ref (px 7), .int wr])), ((px 6), .inl (cI, 48, .inl (ow_nI (tb_run G d x o z q).1))), ((px 5), .inl (cI, 312, .inl ((tb_run G d x o z q).2))), ((px 7), .inr (10, [.ref (nx 0), .ref (nx 1), .ref (nx 2), .ref (nx 3), .ref (nx 4), .ref (nx 5), .ref (nx 6), .int (nI cn), .int x8, .int x9, .int x10])), ((nx 2), .inl (cI, 12, .inl G))]) (va_A [(aP, .inr (11, [.ref (px 0), .ref (px 1), .ref (px 2), .ref (px 3), .ref (px 4), .ref (px 5), .ref (px 6), .ref (px 7), .int wr])), ((px 6), .inl (cI, 48, .inl (ow_nI q.1))), ((px 5), .inl (cI, 312, .inl q.2)), ((px 7), .inr (10, [.ref (nx 0), .ref (nx 1), .ref (nx 2), .ref (nx 3), .ref (nx 4), .ref (nx 5), .ref (nx 6), .int (nI cn), .int x8, .int x9, .int x10])), ((nx 2), .inl (cI, 12, .inl G))] sz)) 0 0 (va_A [(aP, .inr (11, [.ref (px 0), .ref (px 1), .ref (px 2), .ref (px 3), .ref (px 4), .ref (px 5), .ref (px 6), .ref (px 7), .int wr])), ((px 6), .inl (cI, 48, .inl (ow_nI q.1))), ((px 5), .inl (cI, 312, .inl q.2)), ((px 7), .inr (10, [.ref (nx 0), .ref (nx 1), .ref (nx 2), .ref (nx 3), .ref (nx 4), .ref (nx 5), .ref (nx 6), .int (nI cn), .int x8, .int x9, .int x10])), ((nx 2), .inl (cI, 12, .inl G))] sz) := by
  intro d
  induction d with
  | zero =>
    intro x o z q hxd hq48 hfit sz
    refine Met.ofW (cc := cX8_takeBoth) (maxL := 13) (ret := none) (by decide) rfl ?_
    intro p e s m args below meth c s₁ B hml hv
    obtain ⟨rfl, hsz, hP, hK, hD0⟩ := hv
    have hx := B.exec
    have hb := B.bytes
    have hr := B.returns
    have hts := atoms_spec (ws := wg_X8_takeBoth) B.pre
    have hown : s.vm.findClass RX8 = some m.cls := findClass_of_methodNamed B.named
    have hlocks := B.notSynchronized
    subst hsz
    have hD := hD0.self (sz := s.heap.size)
    generalize hAe : va_A [(aP, .inr (11, [.ref (px 0), .ref (px 1), .ref (px 2), .ref (px 3), .ref (px 4), .ref (px 5), .ref (px 6), .ref (px 7), .int wr])), ((px 6), .inl (cI, 48, .inl (ow_nI q.1))), ((px 5), .inl (cI, 312, .inl q.2)), ((px 7), .inr (10, [.ref (nx 0), .ref (nx 1), .ref (nx 2), .ref (nx 3), .ref (nx 4), .ref (nx 5), .ref (nx 6), .int (nI cn), .int x8, .int x9, .int x10])), ((nx 2), .inl (cI, 12, .inl G))] s.heap.size = A at hD ⊢
    have hA : ∀ q : Nat, s.heap.size ≤ q → A q := fun q h => by rw [← hAe]; exact Or.inr h
    have hS : va_S A s.heap s.heap [] := va_S.rf
    have hP : va_P (dC, dI) vwCl [(aP, .inr (11, [.ref (px 0), .ref (px 1), .ref (px 2), .ref (px 3), .ref (px 4), .ref (px 5), .ref (px 6), .ref (px 7), .int wr])), ((px 6), .inl (cI, 48, .inl (ow_nI q.1))), ((px 5), .inl (cI, 312, .inl q.2)), ((px 7), .inr (10, [.ref (nx 0), .ref (nx 1), .ref (nx 2), .ref (nx 3), .ref (nx 4), .ref (nx 5), .ref (nx 6), .int (nI cn), .int x8, .int x9, .int x10])), ((nx 2), .inl (cI, 12, .inl G))] s.heap := hP
    have hl := lv_entry ([.ref aP, .int (nI x), .int (nI o), .int (nI z)]) (n := 13) (Nat.le_of_ble_eq_true rfl)
    rw [lg_entry_eq]
    generalize (lg_sl ([.ref aP, .int (nI x), .int (nI o), .int (nI z)]) ++ List.replicate (13 - (lg_sl ([.ref aP, .int (nI x), .int (nI o), .int (nI z)])).length) Slot.unset).toArray = ls at hl ⊢
    have hl : lv_has ls 13 [(0, .ref aP), (1, .int (nI x)), (2, .int (nI o)), (3, .int (nI z))] := hl
    refine ow_named (fun QQ hQQ => ?_)
    suffices key9 : ∀ (H : Heap) (locs : List Loc), va_P (dC, dI) vwCl [(aP, .inr (11, [.ref (px 0), .ref (px 1), .ref (px 2), .ref (px 3), .ref (px 4), .ref (px 5), .ref (px 6), .ref (px 7), .int wr])), ((px 6), .inl (cI, 48, .inl (ow_nI q.1))), ((px 5), .inl (cI, 312, .inl q.2)), ((px 7), .inr (10, [.ref (nx 0), .ref (nx 1), .ref (nx 2), .ref (nx 3), .ref (nx 4), .ref (nx 5), .ref (nx 6), .int (nI cn), .int x8, .int x9, .int x10])), ((nx 2), .inl (cI, 12, .inl G))] H → va_S A s.heap H locs → W p l e ({ frames := 0 + 1, cells := 0, slots := 0, locals := 40 + 32 * 0 } : Room) s m ([.ref aP, .int (nI x), .int (nI o), .int (nI z)] : List Value).toArray below meth c H locs 0 0 QQ (F0 m 0 ls []) from key9 s.heap [] hP hS
    intro H locs hP hS
    have hfit : o * 24 + z < 312 := hfit
    refine lv_iload_n hx hb dgX8_takeBoth_0 rfl (lv_at hl 1 rfl) ?_
    refine lv_aload_n hx hb dgX8_takeBoth_1 rfl (lv_at hl 0 rfl) ?_
    refine va_get (D := (dC, dI)) (ci := 11) (v := .ref (px 7)) (C := RX8) (T := TX8) (N := 9) hx hb hts (fun _ h => List.mem_cons_of_mem _ (List.mem_append_left _ (List.mem_append_left _ (List.mem_append_right _ h)))) hown hK hP 0 rfl rfl 7 (by decide) (hts (.fieldLink RX8 45 "KnotHouse$Polynomials" "net" "LKnotHouse$Net;") (by decide +kernel)) (fun _ h9 => h9) rfl dgX8_takeBoth_2 ?_
    refine va_get (D := (dC, dI)) (ci := 10) (v := .int (nI cn)) (C := RX7) (T := TX7) (N := 11) hx hb hts (fun _ h => List.mem_cons_of_mem _ (List.mem_append_left _ (List.mem_append_right _ h))) hown hK hP 3 rfl rfl 7 (by decide) (hts (.fieldLink RX8 79 "KnotHouse$Net" "crossings" "I") (by decide +kernel)) (fun _ h9 => h9) rfl dgX8_takeBoth_5 ?_
    refine lv_icmp_lt (tgt := 27) hx hb dgX8_takeBoth_8 (by decide) (fun c9 => absurd c9 (nI_nlt (a := x) (b := cn) (by omega) (by omega))) (fun _ => ?_)
    refine lv_aload_n hx hb dgX8_takeBoth_11 rfl (lv_at hl 0 rfl) ?_
    refine va_get (D := (dC, dI)) (ci := 11) (v := .ref (px 5)) (C := RX8) (T := TX8) (N := 9) hx hb hts (fun _ h => List.mem_cons_of_mem _ (List.mem_append_left _ (List.mem_append_left _ (List.mem_append_right _ h)))) hown hK hP 0 rfl rfl 5 (by decide) (hts (.fieldLink RX8 38 "KnotHouse$Polynomials" "states" "[I") (by decide +kernel)) (fun _ h9 => h9) rfl dgX8_takeBoth_12 ?_
    refine lv_iload_n hx hb dgX8_takeBoth_15 rfl (lv_at hl 2 rfl) ?_
    refine lv_bipush (v := 24) hx hb dgX8_takeBoth_16 (by decide) ?_
    refine lv_imul hx hb dgX8_takeBoth_18 ?_
    refine ow_topi (y := nI (o * 24)) (pk_mul o 24) ?_
    refine lv_iload_n hx hb dgX8_takeBoth_19 rfl (lv_at hl 3 rfl) ?_
    refine lv_iadd hx hb dgX8_takeBoth_20 ?_
    refine ow_topi (y := nI (o * 24 + z)) (nI_add (o * 24) z) ?_
    refine lv_dup2_11 hx hb dgX8_takeBoth_21 rfl rfl ?_
    refine va_iald hx hb hK hP 2 0 rfl rfl (vp_in_nI (n := o * 24 + z) (N := 312) hfit (by decide)) dgX8_takeBoth_22 ?_
    refine ow_topi (y := q.2 (o * 24 + z)) (congrArg q.2 (nI_clamp (n := o * 24 + z) (Nat.lt_trans (m := 312) hfit (by decide)))) ?_
    refine lv_iconst (v := 1) hx hb dgX8_takeBoth_23 (by decide) ?_
    refine lv_iadd hx hb dgX8_takeBoth_24 ?_
    refine ow_iastF (j := o * 24 + z) (x := q.2 (o * 24 + z) + 1) hx hb hK hP hD hS 2 0 rfl rfl hfit (by decide) dgX8_takeBoth_25 (fun H locs hP hD hS => ?_)
    have hP : va_P (dC, dI) vwCl [(aP, .inr (11, [.ref (px 0), .ref (px 1), .ref (px 2), .ref (px 3), .ref (px 4), .ref (px 5), .ref (px 6), .ref (px 7), .int wr])), ((px 6), .inl (cI, 48, .inl (ow_nI q.1))), ((px 5), .inl (cI, 312, .inl (su q.2 (o * 24 + z) (q.2 (o * 24 + z) + 1)))), ((px 7), .inr (10, [.ref (nx 0), .ref (nx 1), .ref (nx 2), .ref (nx 3), .ref (nx 4), .ref (nx 5), .ref (nx 6), .int (nI cn), .int x8, .int x9, .int x10])), ((nx 2), .inl (cI, 12, .inl G))] H := hP
    have hD : va_D A [(aP, .inr (11, [.ref (px 0), .ref (px 1), .ref (px 2), .ref (px 3), .ref (px 4), .ref (px 5), .ref (px 6), .ref (px 7), .int wr])), ((px 6), .inl (cI, 48, .inl (ow_nI q.1))), ((px 5), .inl (cI, 312, .inl (su q.2 (o * 24 + z) (q.2 (o * 24 + z) + 1)))), ((px 7), .inr (10, [.ref (nx 0), .ref (nx 1), .ref (nx 2), .ref (nx 3), .ref (nx 4), .ref (nx 5), .ref (nx 6), .int (nI cn), .int x8, .int x9, .int x10])), ((nx 2), .inl (cI, 12, .inl G))] := hD
    have hP : va_P (dC, dI) vwCl [(aP, .inr (11, [.ref (px 0), .ref (px 1), .ref (px 2), .ref (px 3), .ref (px 4), .ref (px 5), .ref (px 6), .ref (px 7), .int wr])), ((px 6), .inl (cI, 48, .inl (ow_nI (tb_run G 0 x o z q).1))), ((px 5), .inl (cI, 312, .inl ((tb_run G 0 x o z q).2))), ((px 7), .inr (10, [.ref (nx 0), .ref (nx 1), .ref (nx 2), .ref (nx 3), .ref (nx 4), .ref (nx 5), .ref (nx 6), .int (nI cn), .int x8, .int x9, .int x10])), ((nx 2), .inl (cI, 12, .inl G))] H := hP
    have hD : va_D A [(aP, .inr (11, [.ref (px 0), .ref (px 1), .ref (px 2), .ref (px 3), .ref (px 4), .ref (px 5), .ref (px 6), .ref (px 7), .int wr])), ((px 6), .inl (cI, 48, .inl (ow_nI (tb_run G 0 x o z q).1))), ((px 5), .inl (cI, 312, .inl ((tb_run G 0 x o z q).2))), ((px 7), .inr (10, [.ref (nx 0), .ref (nx 1), .ref (nx 2), .ref (nx 3), .ref (nx 4), .ref (nx 5), .ref (nx 6), .int (nI cn), .int x8, .int x9, .int x10])), ((nx 2), .inl (cI, 12, .inl G))] := hD
    rw [hQQ]
    exact W.vret hx hb hr (fun t ht hW => ⟨⟨(), rfl, trivial, by rw [ht]; exact hP, hD⟩, hS.F ht⟩) hS.2.2 dgX8_takeBoth_26
  | succ d ih =>
    intro x o z q hxd hq48 hfit sz
    refine Met.ofW (cc := cX8_takeBoth) (maxL := 13) (ret := none) (by decide) rfl ?_
    intro p e s m args below meth c s₁ B hml hv
    obtain ⟨rfl, hsz, hP, hK, hD0⟩ := hv
    have hx := B.exec
    have hb := B.bytes
    have hr := B.returns
    have hts := atoms_spec (ws := wg_X8_takeBoth) B.pre
    have hown : s.vm.findClass RX8 = some m.cls := findClass_of_methodNamed B.named
    have hlocks := B.notSynchronized
    subst hsz
    have hD := hD0.self (sz := s.heap.size)
    generalize hAe : va_A [(aP, .inr (11, [.ref (px 0), .ref (px 1), .ref (px 2), .ref (px 3), .ref (px 4), .ref (px 5), .ref (px 6), .ref (px 7), .int wr])), ((px 6), .inl (cI, 48, .inl (ow_nI q.1))), ((px 5), .inl (cI, 312, .inl q.2)), ((px 7), .inr (10, [.ref (nx 0), .ref (nx 1), .ref (nx 2), .ref (nx 3), .ref (nx 4), .ref (nx 5), .ref (nx 6), .int (nI cn), .int x8, .int x9, .int x10])), ((nx 2), .inl (cI, 12, .inl G))] s.heap.size = A at hD ⊢
    have hA : ∀ q : Nat, s.heap.size ≤ q → A q := fun q h => by rw [← hAe]; exact Or.inr h
    have hS : va_S A s.heap s.heap [] := va_S.rf
    have hP : va_P (dC, dI) vwCl [(aP, .inr (11, [.ref (px 0), .ref (px 1), .ref (px 2), .ref (px 3), .ref (px 4), .ref (px 5), .ref (px 6), .ref (px 7), .int wr])), ((px 6), .inl (cI, 48, .inl (ow_nI q.1))), ((px 5), .inl (cI, 312, .inl q.2)), ((px 7), .inr (10, [.ref (nx 0), .ref (nx 1), .ref (nx 2), .ref (nx 3), .ref (nx 4), .ref (nx 5), .ref (nx 6), .int (nI cn), .int x8, .int x9, .int x10])), ((nx 2), .inl (cI, 12, .inl G))] s.heap := hP
    have hl := lv_entry ([.ref aP, .int (nI x), .int (nI o), .int (nI z)]) (n := 13) (Nat.le_of_ble_eq_true rfl)
    rw [lg_entry_eq]
    generalize (lg_sl ([.ref aP, .int (nI x), .int (nI o), .int (nI z)]) ++ List.replicate (13 - (lg_sl ([.ref aP, .int (nI x), .int (nI o), .int (nI z)])).length) Slot.unset).toArray = ls at hl ⊢
    have hl : lv_has ls 13 [(0, .ref aP), (1, .int (nI x)), (2, .int (nI o)), (3, .int (nI z))] := hl
    refine ow_named (fun QQ hQQ => ?_)
    suffices key9 : ∀ (H : Heap) (locs : List Loc), va_P (dC, dI) vwCl [(aP, .inr (11, [.ref (px 0), .ref (px 1), .ref (px 2), .ref (px 3), .ref (px 4), .ref (px 5), .ref (px 6), .ref (px 7), .int wr])), ((px 6), .inl (cI, 48, .inl (ow_nI q.1))), ((px 5), .inl (cI, 312, .inl q.2)), ((px 7), .inr (10, [.ref (nx 0), .ref (nx 1), .ref (nx 2), .ref (nx 3), .ref (nx 4), .ref (nx 5), .ref (nx 6), .int (nI cn), .int x8, .int x9, .int x10])), ((nx 2), .inl (cI, 12, .inl G))] H → va_S A s.heap H locs → W p l e ({ frames := (d + 1) + 1, cells := 0, slots := 0, locals := 40 + 32 * (d + 1) } : Room) s m ([.ref aP, .int (nI x), .int (nI o), .int (nI z)] : List Value).toArray below meth c H locs 0 0 QQ (F0 m 0 ls []) from key9 s.heap [] hP hS
    intro H locs hP hS
    obtain ⟨hf0, hf1⟩ := hfit
    have hx12 : x < 12 := by omega
    refine lv_iload_n hx hb dgX8_takeBoth_0 rfl (lv_at hl 1 rfl) ?_
    refine lv_aload_n hx hb dgX8_takeBoth_1 rfl (lv_at hl 0 rfl) ?_
    refine va_get (D := (dC, dI)) (ci := 11) (v := .ref (px 7)) (C := RX8) (T := TX8) (N := 9) hx hb hts (fun _ h => List.mem_cons_of_mem _ (List.mem_append_left _ (List.mem_append_left _ (List.mem_append_right _ h)))) hown hK hP 0 rfl rfl 7 (by decide) (hts (.fieldLink RX8 45 "KnotHouse$Polynomials" "net" "LKnotHouse$Net;") (by decide +kernel)) (fun _ h9 => h9) rfl dgX8_takeBoth_2 ?_
    refine va_get (D := (dC, dI)) (ci := 10) (v := .int (nI cn)) (C := RX7) (T := TX7) (N := 11) hx hb hts (fun _ h => List.mem_cons_of_mem _ (List.mem_append_left _ (List.mem_append_right _ h))) hown hK hP 3 rfl rfl 7 (by decide) (hts (.fieldLink RX8 79 "KnotHouse$Net" "crossings" "I") (by decide +kernel)) (fun _ h9 => h9) rfl dgX8_takeBoth_5 ?_
    refine lv_icmp_lt (tgt := 27) hx hb dgX8_takeBoth_8 (by decide) (fun _ => ?_) (fun c9 => absurd (nI_lt (a := x) (b := cn) (by omega) (by omega)) c9)
    refine lv_iconst (v := 4) hx hb dgX8_takeBoth_27 (by decide) ?_
    refine lv_iload_n hx hb dgX8_takeBoth_28 rfl (lv_at hl 1 rfl) ?_
    refine lv_imul hx hb dgX8_takeBoth_29 ?_
    refine ow_topi (y := nI (4 * x)) (pk_mul 4 x) ?_
    refine lv_istore (lv' := [(4, .int (nI (4 * x))), (0, .ref aP), (1, .int (nI x)), (2, .int (nI o)), (3, .int (nI z))]) hx hb dgX8_takeBoth_30 hl (by decide) rfl (fun ls hl => ?_)
    refine lv_iconst (v := 4) hx hb dgX8_takeBoth_32 (by decide) ?_
    refine lv_iload_n hx hb dgX8_takeBoth_33 rfl (lv_at hl 2 rfl) ?_
    refine lv_imul hx hb dgX8_takeBoth_34 ?_
    refine ow_topi (y := nI (4 * x)) (pk_mul 4 x) ?_
    refine lv_iconst (v := 1) hx hb dgX8_takeBoth_35 (by decide) ?_
    refine lv_iadd hx hb dgX8_takeBoth_36 ?_
    refine ow_topi (y := nI (4 * x + 1)) (nI_1 (4 * x)) ?_
    refine lv_istore (lv' := [(5, .int (nI (4 * x + 1))), (4, .int (nI (4 * x))), (0, .ref aP), (1, .int (nI x)), (2, .int (nI o)), (3, .int (nI z))]) hx hb dgX8_takeBoth_37 hl (by decide) rfl (fun ls hl => ?_)
    refine lv_iconst (v := 4) hx hb dgX8_takeBoth_39 (by decide) ?_
    refine lv_iload_n hx hb dgX8_takeBoth_40 rfl (lv_at hl 3 rfl) ?_
    refine lv_imul hx hb dgX8_takeBoth_41 ?_
    refine ow_topi (y := nI (4 * x)) (pk_mul 4 x) ?_
    refine lv_iconst (v := 2) hx hb dgX8_takeBoth_42 (by decide) ?_
    refine lv_iadd hx hb dgX8_takeBoth_43 ?_
    refine ow_topi (y := nI (4 * x + 2)) (nI_add (4 * x) 2) ?_
    refine lv_istore (lv' := [(6, .int (nI (4 * x + 2))), (5, .int (nI (4 * x + 1))), (4, .int (nI (4 * x))), (0, .ref aP), (1, .int (nI x)), (2, .int (nI o)), (3, .int (nI z))]) hx hb dgX8_takeBoth_44 hl (by decide) rfl (fun ls hl => ?_)
    refine lv_iconst (v := 4) hx hb dgX8_takeBoth_46 (by decide) ?_
    refine lv_iload_n hx hb dgX8_takeBoth_47 rfl (lv_at hl 4 rfl) ?_
    refine lv_imul hx hb dgX8_takeBoth_48 ?_
    refine ow_topi (y := nI (4 * x)) (pk_mul 4 x) ?_
    refine lv_iconst (v := 3) hx hb dgX8_takeBoth_49 (by decide) ?_
    refine lv_iadd hx hb dgX8_takeBoth_50 ?_
    refine ow_topi (y := nI (4 * x + 3)) (nI_add (4 * x) 3) ?_
    refine lv_istore (lv' := [(7, .int (nI (4 * x + 3))), (6, .int (nI (4 * x + 2))), (5, .int (nI (4 * x + 1))), (4, .int (nI (4 * x))), (0, .ref aP), (1, .int (nI x)), (2, .int (nI o)), (3, .int (nI z))]) hx hb dgX8_takeBoth_51 hl (by decide) rfl (fun ls hl => ?_)
    refine lv_iconst (v := 0) hx hb dgX8_takeBoth_53 (by decide) ?_
    refine ow_topi (y := nI 0) (by decide) ?_
    refine lv_istore (lv' := [(8, .int (nI 0)), (7, .int (nI (4 * x + 3))), (6, .int (nI (4 * x + 2))), (5, .int (nI (4 * x + 1))), (4, .int (nI (4 * x))), (0, .ref aP), (1, .int (nI x)), (2, .int (nI o)), (3, .int (nI z))]) hx hb dgX8_takeBoth_54 hl (by decide) rfl (fun ls hl => ?_)
    have K99 : ∀ (one : Nat) (q : ow_TQ), one < 2 → ow_b48 q.1 → tb_fit G d (x + 1) (o + one) (z + tb_cl G q.1 x one) ((tb_2 G q.1 x one).1, q.2) → (∀ (H : Heap) (locs : List Loc) (ls : Array Slot), va_P (dC, dI) vwCl [(aP, .inr (11, [.ref (px 0), .ref (px 1), .ref (px 2), .ref (px 3), .ref (px 4), .ref (px 5), .ref (px 6), .ref (px 7), .int wr])), ((px 6), .inl (cI, 48, .inl (ow_nI (tb_stp G d x o z one q).1))), ((px 5), .inl (cI, 312, .inl ((tb_stp G d x o z one q).2))), ((px 7), .inr (10, [.ref (nx 0), .ref (nx 1), .ref (nx 2), .ref (nx 3), .ref (nx 4), .ref (nx 5), .ref (nx 6), .int (nI cn), .int x8, .int x9, .int x10])), ((nx 2), .inl (cI, 12, .inl G))] H → va_D A [(aP, .inr (11, [.ref (px 0), .ref (px 1), .ref (px 2), .ref (px 3), .ref (px 4), .ref (px 5), .ref (px 6), .ref (px 7), .int wr])), ((px 6), .inl (cI, 48, .inl (ow_nI (tb_stp G d x o z one q).1))), ((px 5), .inl (cI, 312, .inl ((tb_stp G d x o z one q).2))), ((px 7), .inr (10, [.ref (nx 0), .ref (nx 1), .ref (nx 2), .ref (nx 3), .ref (nx 4), .ref (nx 5), .ref (nx 6), .int (nI cn), .int x8, .int x9, .int x10])), ((nx 2), .inl (cI, 12, .inl G))] → va_S A s.heap H locs → lv_has ls 13 [(0, .ref aP), (1, .int (nI x)), (2, .int (nI o)), (3, .int (nI z)), (4, .int (nI (4 * x))), (5, .int (nI (4 * x + 1))), (6, .int (nI (4 * x + 2))), (7, .int (nI (4 * x + 3))), (8, .int (nI (one + 1)))] → W p l e ({ frames := (d + 1) + 1, cells := 0, slots := 0, locals := 40 + 32 * (d + 1) } : Room) s m ([.ref aP, .int (nI x), .int (nI o), .int (nI z)] : List Value).toArray below meth c H locs 0 0 QQ (F0 m 56 ls [])) → ∀ (H : Heap) (locs : List Loc) (ls : Array Slot), va_P (dC, dI) vwCl [(aP, .inr (11, [.ref (px 0), .ref (px 1), .ref (px 2), .ref (px 3), .ref (px 4), .ref (px 5), .ref (px 6), .ref (px 7), .int wr])), ((px 6), .inl (cI, 48, .inl (ow_nI q.1))), ((px 5), .inl (cI, 312, .inl q.2)), ((px 7), .inr (10, [.ref (nx 0), .ref (nx 1), .ref (nx 2), .ref (nx 3), .ref (nx 4), .ref (nx 5), .ref (nx 6), .int (nI cn), .int x8, .int x9, .int x10])), ((nx 2), .inl (cI, 12, .inl G))] H → va_D A [(aP, .inr (11, [.ref (px 0), .ref (px 1), .ref (px 2), .ref (px 3), .ref (px 4), .ref (px 5), .ref (px 6), .ref (px 7), .int wr])), ((px 6), .inl (cI, 48, .inl (ow_nI q.1))), ((px 5), .inl (cI, 312, .inl q.2)), ((px 7), .inr (10, [.ref (nx 0), .ref (nx 1), .ref (nx 2), .ref (nx 3), .ref (nx 4), .ref (nx 5), .ref (nx 6), .int (nI cn), .int x8, .int x9, .int x10])), ((nx 2), .inl (cI, 12, .inl G))] → va_S A s.heap H locs → lv_has ls 13 [(0, .ref aP), (1, .int (nI x)), (2, .int (nI o)), (3, .int (nI z)), (4, .int (nI (4 * x))), (5, .int (nI (4 * x + 1))), (6, .int (nI (4 * x + 2))), (7, .int (nI (4 * x + 3))), (8, .int (nI one)), (9, .int (bI (tb_al G x one)))] → W p l e ({ frames := (d + 1) + 1, cells := 0, slots := 0, locals := 40 + 32 * (d + 1) } : Room) s m ([.ref aP, .int (nI x), .int (nI o), .int (nI z)] : List Value).toArray below meth c H locs 0 0 QQ (F0 m 99 ls []) := by
      intro one q ho2 hq48 hfit hcont H locs ls hP hD hS hl
      have hin : (tb_in G x one) < 48 := tb_in_lt hx12
      have hou : (tb_ou G x one) < 48 := tb_ou_lt hx12
      have K127 : ∀ (H : Heap) (locs : List Loc) (ls : Array Slot), va_P (dC, dI) vwCl [(aP, .inr (11, [.ref (px 0), .ref (px 1), .ref (px 2), .ref (px 3), .ref (px 4), .ref (px 5), .ref (px 6), .ref (px 7), .int wr])), ((px 6), .inl (cI, 48, .inl (ow_nI q.1))), ((px 5), .inl (cI, 312, .inl q.2)), ((px 7), .inr (10, [.ref (nx 0), .ref (nx 1), .ref (nx 2), .ref (nx 3), .ref (nx 4), .ref (nx 5), .ref (nx 6), .int (nI cn), .int x8, .int x9, .int x10])), ((nx 2), .inl (cI, 12, .inl G))] H → va_D A [(aP, .inr (11, [.ref (px 0), .ref (px 1), .ref (px 2), .ref (px 3), .ref (px 4), .ref (px 5), .ref (px 6), .ref (px 7), .int wr])), ((px 6), .inl (cI, 48, .inl (ow_nI q.1))), ((px 5), .inl (cI, 312, .inl q.2)), ((px 7), .inr (10, [.ref (nx 0), .ref (nx 1), .ref (nx 2), .ref (nx 3), .ref (nx 4), .ref (nx 5), .ref (nx 6), .int (nI cn), .int x8, .int x9, .int x10])), ((nx 2), .inl (cI, 12, .inl G))] → va_S A s.heap H locs → lv_has ls 13 [(0, .ref aP), (1, .int (nI x)), (2, .int (nI o)), (3, .int (nI z)), (4, .int (nI (4 * x))), (5, .int (nI (4 * x + 1))), (6, .int (nI (4 * x + 2))), (7, .int (nI (4 * x + 3))), (8, .int (nI one)), (10, .int (nI (tb_in G x one))), (11, .int (nI (tb_ou G x one)))] → W p l e ({ frames := (d + 1) + 1, cells := 0, slots := 0, locals := 40 + 32 * (d + 1) } : Room) s m ([.ref aP, .int (nI x), .int (nI o), .int (nI z)] : List Value).toArray below meth c H locs 0 0 QQ (F0 m 127 ls []) := by
        intro H locs ls hP hD hS hl
        refine lv_aload_n hx hb dgX8_takeBoth_127 rfl (lv_at hl 0 rfl) ?_
        refine lv_iload hx hb dgX8_takeBoth_128 (lv_at hl 5 rfl) ?_
        refine lv_iload hx hb dgX8_takeBoth_130 (lv_at hl 9 rfl) ?_
        have hPc := hP.sub (ws' := [(aP, .inr (11, [.ref (px 0), .ref (px 1), .ref (px 2), .ref (px 3), .ref (px 4), .ref (px 5), .ref (px 6), .ref (px 7), .int wr])), ((px 6), .inl (cI, 48, .inl (ow_nI q.1)))]) [0, 1] rfl
        have hDc := hD.sub (ws' := [(aP, .inr (11, [.ref (px 0), .ref (px 1), .ref (px 2), .ref (px 3), .ref (px 4), .ref (px 5), .ref (px 6), .ref (px 7), .int wr])), ((px 6), .inl (cI, 48, .inl (ow_nI q.1)))]) [0, 1] (by decide) rfl
        have hFc := va_free (wc := [(aP, .inr (11, [.ref (px 0), .ref (px 1), .ref (px 2), .ref (px 3), .ref (px 4), .ref (px 5), .ref (px 6), .ref (px 7), .int wr])), ((px 6), .inl (cI, 48, .inl (ow_nI q.1)))]) hD hS hA [0, 1] rfl
        refine va_calli (va_runV (As := [.int (nI (4 * x + 1)), .int (nI (tb_in G x one))]) (rest := []) ⟨hx, hb, hml, hown, hts⟩ (kg_X8_tie l dC dI cI cB cJ cZ aP px wr q.1 hq48 (4 * x + 1) (tb_in G x one) (by omega) hin H.size) (cwV 2 hts gg_X8_takeBoth_0 rfl rfl rfl (by decide +kernel) ⟨(by dsimp only; omega), (by dsimp only; omega)⟩) ⟨fun a U g mk q => by obtain ⟨q0, q1, qP, qK, qD⟩ := q; exact ⟨q0, q1, qP, va_K.moved (u := U) (U := U.calling g mk a) (Vm.Alike.refl U.vm) qK, qD⟩, va_recv hK hPc (ci := 11) (q0 := 0) rfl rfl, fun U hU hW => ⟨rfl, by rw [hU], by rw [hU]; exact hPc, va_K.moved hW.alike hK, hDc.weaken (fun _ _ _ _ => trivial)⟩⟩ rfl rfl hl.1 rfl (lv_room (Nat.le_of_ble_eq_true rfl)) dgX8_takeBoth_132 ⟨(Nat.le_of_ble_eq_true rfl), (Nat.le_of_ble_eq_true rfl)⟩) hS (fun q _ h => hFc q h) hFc (fun ra9 u9 t H1 locs ht hvm hw hB hz1 hk1 hS => ?_)
        obtain ⟨hP1, hD1⟩ := hB
        rw [ht] at hP1
        obtain ⟨hP, hD⟩ := va_join (wr := [((px 5), .inl (cI, 312, .inl q.2)), ((px 7), .inr (10, [.ref (nx 0), .ref (nx 1), .ref (nx 2), .ref (nx 3), .ref (nx 4), .ref (nx 5), .ref (nx 6), .int (nI cn), .int x8, .int x9, .int x10])), ((nx 2), .inl (cI, 12, .inl G))]) (w1 := [(aP, .inr (11, [.ref (px 0), .ref (px 1), .ref (px 2), .ref (px 3), .ref (px 4), .ref (px 5), .ref (px 6), .ref (px 7), .int wr])), ((px 6), .inl (cI, 48, .inl (ow_nI (tb_1 G q.1 x one).1)))]) hP hD [0, 1] [2, 3, 4] rfl rfl (by decide) (by decide) hk1 hFc hP1 hD1
        generalize H1 = H at hP hS ⊢
        have hP : va_P (dC, dI) vwCl [((px 5), .inl (cI, 312, .inl q.2)), ((px 7), .inr (10, [.ref (nx 0), .ref (nx 1), .ref (nx 2), .ref (nx 3), .ref (nx 4), .ref (nx 5), .ref (nx 6), .int (nI cn), .int x8, .int x9, .int x10])), ((nx 2), .inl (cI, 12, .inl G)), (aP, .inr (11, [.ref (px 0), .ref (px 1), .ref (px 2), .ref (px 3), .ref (px 4), .ref (px 5), .ref (px 6), .ref (px 7), .int wr])), ((px 6), .inl (cI, 48, .inl (ow_nI (tb_1 G q.1 x one).1)))] H := hP
        have hD : va_D A [((px 5), .inl (cI, 312, .inl q.2)), ((px 7), .inr (10, [.ref (nx 0), .ref (nx 1), .ref (nx 2), .ref (nx 3), .ref (nx 4), .ref (nx 5), .ref (nx 6), .int (nI cn), .int x8, .int x9, .int x10])), ((nx 2), .inl (cI, 12, .inl G)), (aP, .inr (11, [.ref (px 0), .ref (px 1), .ref (px 2), .ref (px 3), .ref (px 4), .ref (px 5), .ref (px 6), .ref (px 7), .int wr])), ((px 6), .inl (cI, 48, .inl (ow_nI (tb_1 G q.1 x one).1)))] := hD
        have hP := hP.sub (ws' := [(aP, .inr (11, [.ref (px 0), .ref (px 1), .ref (px 2), .ref (px 3), .ref (px 4), .ref (px 5), .ref (px 6), .ref (px 7), .int wr])), ((px 6), .inl (cI, 48, .inl (ow_nI (tb_1 G q.1 x one).1))), ((px 5), .inl (cI, 312, .inl q.2)), ((px 7), .inr (10, [.ref (nx 0), .ref (nx 1), .ref (nx 2), .ref (nx 3), .ref (nx 4), .ref (nx 5), .ref (nx 6), .int (nI cn), .int x8, .int x9, .int x10])), ((nx 2), .inl (cI, 12, .inl G))]) [3, 4, 0, 1, 2] rfl
        have hD := hD.sub (ws' := [(aP, .inr (11, [.ref (px 0), .ref (px 1), .ref (px 2), .ref (px 3), .ref (px 4), .ref (px 5), .ref (px 6), .ref (px 7), .int wr])), ((px 6), .inl (cI, 48, .inl (ow_nI (tb_1 G q.1 x one).1))), ((px 5), .inl (cI, 312, .inl q.2)), ((px 7), .inr (10, [.ref (nx 0), .ref (nx 1), .ref (nx 2), .ref (nx 3), .ref (nx 4), .ref (nx 5), .ref (nx 6), .int (nI cn), .int x8, .int x9, .int x10])), ((nx 2), .inl (cI, 12, .inl G))]) [3, 4, 0, 1, 2] (by decide) rfl
        obtain rfl : ra9 = nI (tb_1 G q.1 x one).2 := hw
        refine lv_aload_n hx hb dgX8_takeBoth_135 rfl (lv_at hl 0 rfl) ?_
        refine lv_iload hx hb dgX8_takeBoth_136 (lv_at hl 4 rfl) ?_
        refine lv_iload hx hb dgX8_takeBoth_138 (lv_at hl 10 rfl) ?_
        have hb1 : ow_b48 (tb_1 G q.1 x one).1 := pt_tie_b48 hq48
        have hPc := hP.sub (ws' := [(aP, .inr (11, [.ref (px 0), .ref (px 1), .ref (px 2), .ref (px 3), .ref (px 4), .ref (px 5), .ref (px 6), .ref (px 7), .int wr])), ((px 6), .inl (cI, 48, .inl (ow_nI (tb_1 G q.1 x one).1)))]) [0, 1] rfl
        have hDc := hD.sub (ws' := [(aP, .inr (11, [.ref (px 0), .ref (px 1), .ref (px 2), .ref (px 3), .ref (px 4), .ref (px 5), .ref (px 6), .ref (px 7), .int wr])), ((px 6), .inl (cI, 48, .inl (ow_nI (tb_1 G q.1 x one).1)))]) [0, 1] (by decide) rfl
        have hFc := va_free (wc := [(aP, .inr (11, [.ref (px 0), .ref (px 1), .ref (px 2), .ref (px 3), .ref (px 4), .ref (px 5), .ref (px 6), .ref (px 7), .int wr])), ((px 6), .inl (cI, 48, .inl (ow_nI (tb_1 G q.1 x one).1)))]) hD hS hA [0, 1] rfl
        refine va_calli (va_runV (As := [.int (nI (4 * x)), .int (nI (tb_ou G x one))]) (rest := [.int (nI (tb_1 G q.1 x one).2)]) ⟨hx, hb, hml, hown, hts⟩ (kg_X8_tie l dC dI cI cB cJ cZ aP px wr (tb_1 G q.1 x one).1 hb1 (4 * x) (tb_ou G x one) (by omega) hou H.size) (cwV 2 hts gg_X8_takeBoth_0 rfl rfl rfl (by decide +kernel) ⟨(by dsimp only; omega), (by dsimp only; omega)⟩) ⟨fun a U g mk q => by obtain ⟨q0, q1, qP, qK, qD⟩ := q; exact ⟨q0, q1, qP, va_K.moved (u := U) (U := U.calling g mk a) (Vm.Alike.refl U.vm) qK, qD⟩, va_recv hK hPc (ci := 11) (q0 := 0) rfl rfl, fun U hU hW => ⟨rfl, by rw [hU], by rw [hU]; exact hPc, va_K.moved hW.alike hK, hDc.weaken (fun _ _ _ _ => trivial)⟩⟩ rfl rfl hl.1 rfl (lv_room (Nat.le_of_ble_eq_true rfl)) dgX8_takeBoth_140 ⟨(Nat.le_of_ble_eq_true rfl), (Nat.le_of_ble_eq_true rfl)⟩) hS (fun q _ h => hFc q h) hFc (fun rb9 u9 t H1 locs ht hvm hw hB hz1 hk1 hS => ?_)
        obtain ⟨hP1, hD1⟩ := hB
        rw [ht] at hP1
        obtain ⟨hP, hD⟩ := va_join (wr := [((px 5), .inl (cI, 312, .inl q.2)), ((px 7), .inr (10, [.ref (nx 0), .ref (nx 1), .ref (nx 2), .ref (nx 3), .ref (nx 4), .ref (nx 5), .ref (nx 6), .int (nI cn), .int x8, .int x9, .int x10])), ((nx 2), .inl (cI, 12, .inl G))]) (w1 := [(aP, .inr (11, [.ref (px 0), .ref (px 1), .ref (px 2), .ref (px 3), .ref (px 4), .ref (px 5), .ref (px 6), .ref (px 7), .int wr])), ((px 6), .inl (cI, 48, .inl (ow_nI (tb_2 G q.1 x one).1)))]) hP hD [0, 1] [2, 3, 4] rfl rfl (by decide) (by decide) hk1 hFc hP1 hD1
        generalize H1 = H at hP hS ⊢
        have hP : va_P (dC, dI) vwCl [((px 5), .inl (cI, 312, .inl q.2)), ((px 7), .inr (10, [.ref (nx 0), .ref (nx 1), .ref (nx 2), .ref (nx 3), .ref (nx 4), .ref (nx 5), .ref (nx 6), .int (nI cn), .int x8, .int x9, .int x10])), ((nx 2), .inl (cI, 12, .inl G)), (aP, .inr (11, [.ref (px 0), .ref (px 1), .ref (px 2), .ref (px 3), .ref (px 4), .ref (px 5), .ref (px 6), .ref (px 7), .int wr])), ((px 6), .inl (cI, 48, .inl (ow_nI (tb_2 G q.1 x one).1)))] H := hP
        have hD : va_D A [((px 5), .inl (cI, 312, .inl q.2)), ((px 7), .inr (10, [.ref (nx 0), .ref (nx 1), .ref (nx 2), .ref (nx 3), .ref (nx 4), .ref (nx 5), .ref (nx 6), .int (nI cn), .int x8, .int x9, .int x10])), ((nx 2), .inl (cI, 12, .inl G)), (aP, .inr (11, [.ref (px 0), .ref (px 1), .ref (px 2), .ref (px 3), .ref (px 4), .ref (px 5), .ref (px 6), .ref (px 7), .int wr])), ((px 6), .inl (cI, 48, .inl (ow_nI (tb_2 G q.1 x one).1)))] := hD
        have hP := hP.sub (ws' := [(aP, .inr (11, [.ref (px 0), .ref (px 1), .ref (px 2), .ref (px 3), .ref (px 4), .ref (px 5), .ref (px 6), .ref (px 7), .int wr])), ((px 6), .inl (cI, 48, .inl (ow_nI (tb_2 G q.1 x one).1))), ((px 5), .inl (cI, 312, .inl q.2)), ((px 7), .inr (10, [.ref (nx 0), .ref (nx 1), .ref (nx 2), .ref (nx 3), .ref (nx 4), .ref (nx 5), .ref (nx 6), .int (nI cn), .int x8, .int x9, .int x10])), ((nx 2), .inl (cI, 12, .inl G))]) [3, 4, 0, 1, 2] rfl
        have hD := hD.sub (ws' := [(aP, .inr (11, [.ref (px 0), .ref (px 1), .ref (px 2), .ref (px 3), .ref (px 4), .ref (px 5), .ref (px 6), .ref (px 7), .int wr])), ((px 6), .inl (cI, 48, .inl (ow_nI (tb_2 G q.1 x one).1))), ((px 5), .inl (cI, 312, .inl q.2)), ((px 7), .inr (10, [.ref (nx 0), .ref (nx 1), .ref (nx 2), .ref (nx 3), .ref (nx 4), .ref (nx 5), .ref (nx 6), .int (nI cn), .int x8, .int x9, .int x10])), ((nx 2), .inl (cI, 12, .inl G))]) [3, 4, 0, 1, 2] (by decide) rfl
        obtain rfl : rb9 = nI (tb_2 G q.1 x one).2 := hw
        refine lv_iadd hx hb dgX8_takeBoth_143 ?_
        refine ow_topi (y := nI (tb_cl G q.1 x one)) (nI_add _ _) ?_
        refine lv_istore (lv' := [(12, .int (nI (tb_cl G q.1 x one))), (0, .ref aP), (1, .int (nI x)), (2, .int (nI o)), (3, .int (nI z)), (4, .int (nI (4 * x))), (5, .int (nI (4 * x + 1))), (6, .int (nI (4 * x + 2))), (7, .int (nI (4 * x + 3))), (8, .int (nI one)), (10, .int (nI (tb_in G x one))), (11, .int (nI (tb_ou G x one)))]) hx hb dgX8_takeBoth_144 hl (by decide) rfl (fun ls hl => ?_)
        refine lv_aload_n hx hb dgX8_takeBoth_146 rfl (lv_at hl 1 rfl) ?_
        refine lv_iload_n hx hb dgX8_takeBoth_147 rfl (lv_at hl 2 rfl) ?_
        refine lv_iconst (v := 1) hx hb dgX8_takeBoth_148 (by decide) ?_
        refine lv_iadd hx hb dgX8_takeBoth_149 ?_
        refine ow_topi (y := nI (x + 1)) (nI_1 (x)) ?_
        refine lv_iload_n hx hb dgX8_takeBoth_150 rfl (lv_at hl 3 rfl) ?_
        refine lv_iload hx hb dgX8_takeBoth_151 (lv_at hl 9 rfl) ?_
        refine lv_iadd hx hb dgX8_takeBoth_153 ?_
        refine ow_topi (y := nI (o + one)) (nI_add o one) ?_
        refine lv_iload_n hx hb dgX8_takeBoth_154 rfl (lv_at hl 4 rfl) ?_
        refine lv_iload hx hb dgX8_takeBoth_155 (lv_at hl 0 rfl) ?_
        refine lv_iadd hx hb dgX8_takeBoth_157 ?_
        refine ow_topi (y := nI (z + tb_cl G q.1 x one)) (nI_add z (tb_cl G q.1 x one)) ?_
        have hPc := hP.sub (ws' := [(aP, .inr (11, [.ref (px 0), .ref (px 1), .ref (px 2), .ref (px 3), .ref (px 4), .ref (px 5), .ref (px 6), .ref (px 7), .int wr])), ((px 6), .inl (cI, 48, .inl (ow_nI (tb_2 G q.1 x one).1))), ((px 5), .inl (cI, 312, .inl q.2)), ((px 7), .inr (10, [.ref (nx 0), .ref (nx 1), .ref (nx 2), .ref (nx 3), .ref (nx 4), .ref (nx 5), .ref (nx 6), .int (nI cn), .int x8, .int x9, .int x10])), ((nx 2), .inl (cI, 12, .inl G))]) [0, 1, 2, 3, 4] rfl
        have hDc := hD.sub (ws' := [(aP, .inr (11, [.ref (px 0), .ref (px 1), .ref (px 2), .ref (px 3), .ref (px 4), .ref (px 5), .ref (px 6), .ref (px 7), .int wr])), ((px 6), .inl (cI, 48, .inl (ow_nI (tb_2 G q.1 x one).1))), ((px 5), .inl (cI, 312, .inl q.2)), ((px 7), .inr (10, [.ref (nx 0), .ref (nx 1), .ref (nx 2), .ref (nx 3), .ref (nx 4), .ref (nx 5), .ref (nx 6), .int (nI cn), .int x8, .int x9, .int x10])), ((nx 2), .inl (cI, 12, .inl G))]) [0, 1, 2, 3, 4] (by decide) rfl
        have hFc := va_free (wc := [(aP, .inr (11, [.ref (px 0), .ref (px 1), .ref (px 2), .ref (px 3), .ref (px 4), .ref (px 5), .ref (px 6), .ref (px 7), .int wr])), ((px 6), .inl (cI, 48, .inl (ow_nI (tb_2 G q.1 x one).1))), ((px 5), .inl (cI, 312, .inl q.2)), ((px 7), .inr (10, [.ref (nx 0), .ref (nx 1), .ref (nx 2), .ref (nx 3), .ref (nx 4), .ref (nx 5), .ref (nx 6), .int (nI cn), .int x8, .int x9, .int x10])), ((nx 2), .inl (cI, 12, .inl G))]) hD hS hA [0, 1, 2, 3, 4] rfl
        refine va_callv (va_runV (As := [.int (nI (x + 1)), .int (nI (o + one)), .int (nI (z + tb_cl G q.1 x one))]) (rest := []) ⟨hx, hb, hml, hown, hts⟩ (ih (x + 1) (o + one) (z + tb_cl G q.1 x one) ((tb_2 G q.1 x one).1, q.2) (by omega) (tb_2_b48 hq48) hfit H.size) (cwV 3 hts gg_X8_takeBoth_self rfl rfl rfl (by decide +kernel) ⟨(by dsimp only; omega), (by dsimp only; omega)⟩) ⟨fun a U g mk q => by obtain ⟨q0, q1, qP, qK, qD⟩ := q; exact ⟨q0, q1, qP, va_K.moved (u := U) (U := U.calling g mk a) (Vm.Alike.refl U.vm) qK, qD⟩, va_recv hK hPc (ci := 11) (q0 := 0) rfl rfl, fun U hU hW => ⟨rfl, by rw [hU], by rw [hU]; exact hPc, va_K.moved hW.alike hK, hDc.weaken (fun _ _ _ _ => trivial)⟩⟩ rfl rfl hl.1 rfl (lv_room (Nat.le_of_ble_eq_true rfl)) dgX8_takeBoth_158 ⟨(Nat.le_of_ble_eq_true rfl), (Nat.le_of_ble_eq_true rfl)⟩) hS (fun q _ h => hFc q h) hFc (fun u9 t H1 locs ht hvm hw hB hz1 hk1 hS => ?_)
        obtain ⟨hP1, hD1⟩ := hB
        rw [ht] at hP1
        obtain ⟨hP, hD⟩ := va_join (wr := []) (w1 := [(aP, .inr (11, [.ref (px 0), .ref (px 1), .ref (px 2), .ref (px 3), .ref (px 4), .ref (px 5), .ref (px 6), .ref (px 7), .int wr])), ((px 6), .inl (cI, 48, .inl (ow_nI (tb_run G d (x + 1) (o + one) (z + tb_cl G q.1 x one) ((tb_2 G q.1 x one).1, q.2)).1))), ((px 5), .inl (cI, 312, .inl ((tb_run G d (x + 1) (o + one) (z + tb_cl G q.1 x one) ((tb_2 G q.1 x one).1, q.2)).2))), ((px 7), .inr (10, [.ref (nx 0), .ref (nx 1), .ref (nx 2), .ref (nx 3), .ref (nx 4), .ref (nx 5), .ref (nx 6), .int (nI cn), .int x8, .int x9, .int x10])), ((nx 2), .inl (cI, 12, .inl G))]) hP hD [0, 1, 2, 3, 4] [] rfl rfl (by decide) (by decide) hk1 hFc hP1 hD1
        generalize H1 = H at hP hS ⊢
        have hP : va_P (dC, dI) vwCl [(aP, .inr (11, [.ref (px 0), .ref (px 1), .ref (px 2), .ref (px 3), .ref (px 4), .ref (px 5), .ref (px 6), .ref (px 7), .int wr])), ((px 6), .inl (cI, 48, .inl (ow_nI (tb_run G d (x + 1) (o + one) (z + tb_cl G q.1 x one) ((tb_2 G q.1 x one).1, q.2)).1))), ((px 5), .inl (cI, 312, .inl ((tb_run G d (x + 1) (o + one) (z + tb_cl G q.1 x one) ((tb_2 G q.1 x one).1, q.2)).2))), ((px 7), .inr (10, [.ref (nx 0), .ref (nx 1), .ref (nx 2), .ref (nx 3), .ref (nx 4), .ref (nx 5), .ref (nx 6), .int (nI cn), .int x8, .int x9, .int x10])), ((nx 2), .inl (cI, 12, .inl G))] H := hP
        have hD : va_D A [(aP, .inr (11, [.ref (px 0), .ref (px 1), .ref (px 2), .ref (px 3), .ref (px 4), .ref (px 5), .ref (px 6), .ref (px 7), .int wr])), ((px 6), .inl (cI, 48, .inl (ow_nI (tb_run G d (x + 1) (o + one) (z + tb_cl G q.1 x one) ((tb_2 G q.1 x one).1, q.2)).1))), ((px 5), .inl (cI, 312, .inl ((tb_run G d (x + 1) (o + one) (z + tb_cl G q.1 x one) ((tb_2 G q.1 x one).1, q.2)).2))), ((px 7), .inr (10, [.ref (nx 0), .ref (nx 1), .ref (nx 2), .ref (nx 3), .ref (nx 4), .ref (nx 5), .ref (nx 6), .int (nI cn), .int x8, .int x9, .int x10])), ((nx 2), .inl (cI, 12, .inl G))] := hD
        have hr48 : ow_b48 (tb_run G d (x + 1) (o + one) (z + tb_cl G q.1 x one) ((tb_2 G q.1 x one).1, q.2)).1 := tb_run_b48 d (x + 1) _ _ _ (by omega) (tb_2_b48 hq48)
        refine lv_aload_n hx hb dgX8_takeBoth_161 rfl (lv_at hl 1 rfl) ?_
        refine lv_iload hx hb dgX8_takeBoth_162 (lv_at hl 5 rfl) ?_
        refine lv_iload hx hb dgX8_takeBoth_164 (lv_at hl 11 rfl) ?_
        have hPc := hP.sub (ws' := [(aP, .inr (11, [.ref (px 0), .ref (px 1), .ref (px 2), .ref (px 3), .ref (px 4), .ref (px 5), .ref (px 6), .ref (px 7), .int wr])), ((px 6), .inl (cI, 48, .inl (ow_nI (tb_run G d (x + 1) (o + one) (z + tb_cl G q.1 x one) ((tb_2 G q.1 x one).1, q.2)).1)))]) [0, 1] rfl
        have hDc := hD.sub (ws' := [(aP, .inr (11, [.ref (px 0), .ref (px 1), .ref (px 2), .ref (px 3), .ref (px 4), .ref (px 5), .ref (px 6), .ref (px 7), .int wr])), ((px 6), .inl (cI, 48, .inl (ow_nI (tb_run G d (x + 1) (o + one) (z + tb_cl G q.1 x one) ((tb_2 G q.1 x one).1, q.2)).1)))]) [0, 1] (by decide) rfl
        have hFc := va_free (wc := [(aP, .inr (11, [.ref (px 0), .ref (px 1), .ref (px 2), .ref (px 3), .ref (px 4), .ref (px 5), .ref (px 6), .ref (px 7), .int wr])), ((px 6), .inl (cI, 48, .inl (ow_nI (tb_run G d (x + 1) (o + one) (z + tb_cl G q.1 x one) ((tb_2 G q.1 x one).1, q.2)).1)))]) hD hS hA [0, 1] rfl
        refine va_callv (va_runV (As := [.int (nI (4 * x)), .int (nI (tb_ou G x one))]) (rest := []) ⟨hx, hb, hml, hown, hts⟩ (kg_X8_untie l dC dI cI cB cJ cZ aP px wr (tb_run G d (x + 1) (o + one) (z + tb_cl G q.1 x one) ((tb_2 G q.1 x one).1, q.2)).1 hr48 (4 * x) (tb_ou G x one) (by omega) hou H.size) (cwV 2 hts gg_X8_takeBoth_1 rfl rfl rfl (by decide +kernel) ⟨(by dsimp only; omega), (by dsimp only; omega)⟩) ⟨fun a U g mk q => by obtain ⟨q0, q1, qP, qK, qD⟩ := q; exact ⟨q0, q1, qP, va_K.moved (u := U) (U := U.calling g mk a) (Vm.Alike.refl U.vm) qK, qD⟩, va_recv hK hPc (ci := 11) (q0 := 0) rfl rfl, fun U hU hW => ⟨rfl, by rw [hU], by rw [hU]; exact hPc, va_K.moved hW.alike hK, hDc.weaken (fun _ _ _ _ => trivial)⟩⟩ rfl rfl hl.1 rfl (lv_room (Nat.le_of_ble_eq_true rfl)) dgX8_takeBoth_166 ⟨(Nat.le_of_ble_eq_true rfl), (Nat.le_of_ble_eq_true rfl)⟩) hS (fun q _ h => hFc q h) hFc (fun u9 t H1 locs ht hvm hw hB hz1 hk1 hS => ?_)
        obtain ⟨hP1, hD1⟩ := hB
        rw [ht] at hP1
        obtain ⟨hP, hD⟩ := va_join (wr := [((px 5), .inl (cI, 312, .inl ((tb_run G d (x + 1) (o + one) (z + tb_cl G q.1 x one) ((tb_2 G q.1 x one).1, q.2)).2))), ((px 7), .inr (10, [.ref (nx 0), .ref (nx 1), .ref (nx 2), .ref (nx 3), .ref (nx 4), .ref (nx 5), .ref (nx 6), .int (nI cn), .int x8, .int x9, .int x10])), ((nx 2), .inl (cI, 12, .inl G))]) (w1 := [(aP, .inr (11, [.ref (px 0), .ref (px 1), .ref (px 2), .ref (px 3), .ref (px 4), .ref (px 5), .ref (px 6), .ref (px 7), .int wr])), ((px 6), .inl (cI, 48, .inl (ow_nI (pt_un (tb_run G d (x + 1) (o + one) (z + tb_cl G q.1 x one) ((tb_2 G q.1 x one).1, q.2)).1 (4 * x) (tb_ou G x one)))))]) hP hD [0, 1] [2, 3, 4] rfl rfl (by decide) (by decide) hk1 hFc hP1 hD1
        generalize H1 = H at hP hS ⊢
        have hP : va_P (dC, dI) vwCl [((px 5), .inl (cI, 312, .inl ((tb_run G d (x + 1) (o + one) (z + tb_cl G q.1 x one) ((tb_2 G q.1 x one).1, q.2)).2))), ((px 7), .inr (10, [.ref (nx 0), .ref (nx 1), .ref (nx 2), .ref (nx 3), .ref (nx 4), .ref (nx 5), .ref (nx 6), .int (nI cn), .int x8, .int x9, .int x10])), ((nx 2), .inl (cI, 12, .inl G)), (aP, .inr (11, [.ref (px 0), .ref (px 1), .ref (px 2), .ref (px 3), .ref (px 4), .ref (px 5), .ref (px 6), .ref (px 7), .int wr])), ((px 6), .inl (cI, 48, .inl (ow_nI (pt_un (tb_run G d (x + 1) (o + one) (z + tb_cl G q.1 x one) ((tb_2 G q.1 x one).1, q.2)).1 (4 * x) (tb_ou G x one)))))] H := hP
        have hD : va_D A [((px 5), .inl (cI, 312, .inl ((tb_run G d (x + 1) (o + one) (z + tb_cl G q.1 x one) ((tb_2 G q.1 x one).1, q.2)).2))), ((px 7), .inr (10, [.ref (nx 0), .ref (nx 1), .ref (nx 2), .ref (nx 3), .ref (nx 4), .ref (nx 5), .ref (nx 6), .int (nI cn), .int x8, .int x9, .int x10])), ((nx 2), .inl (cI, 12, .inl G)), (aP, .inr (11, [.ref (px 0), .ref (px 1), .ref (px 2), .ref (px 3), .ref (px 4), .ref (px 5), .ref (px 6), .ref (px 7), .int wr])), ((px 6), .inl (cI, 48, .inl (ow_nI (pt_un (tb_run G d (x + 1) (o + one) (z + tb_cl G q.1 x one) ((tb_2 G q.1 x one).1, q.2)).1 (4 * x) (tb_ou G x one)))))] := hD
        have hP := hP.sub (ws' := [(aP, .inr (11, [.ref (px 0), .ref (px 1), .ref (px 2), .ref (px 3), .ref (px 4), .ref (px 5), .ref (px 6), .ref (px 7), .int wr])), ((px 6), .inl (cI, 48, .inl (ow_nI (pt_un (tb_run G d (x + 1) (o + one) (z + tb_cl G q.1 x one) ((tb_2 G q.1 x one).1, q.2)).1 (4 * x) (tb_ou G x one))))), ((px 5), .inl (cI, 312, .inl ((tb_run G d (x + 1) (o + one) (z + tb_cl G q.1 x one) ((tb_2 G q.1 x one).1, q.2)).2))), ((px 7), .inr (10, [.ref (nx 0), .ref (nx 1), .ref (nx 2), .ref (nx 3), .ref (nx 4), .ref (nx 5), .ref (nx 6), .int (nI cn), .int x8, .int x9, .int x10])), ((nx 2), .inl (cI, 12, .inl G))]) [3, 4, 0, 1, 2] rfl
        have hD := hD.sub (ws' := [(aP, .inr (11, [.ref (px 0), .ref (px 1), .ref (px 2), .ref (px 3), .ref (px 4), .ref (px 5), .ref (px 6), .ref (px 7), .int wr])), ((px 6), .inl (cI, 48, .inl (ow_nI (pt_un (tb_run G d (x + 1) (o + one) (z + tb_cl G q.1 x one) ((tb_2 G q.1 x one).1, q.2)).1 (4 * x) (tb_ou G x one))))), ((px 5), .inl (cI, 312, .inl ((tb_run G d (x + 1) (o + one) (z + tb_cl G q.1 x one) ((tb_2 G q.1 x one).1, q.2)).2))), ((px 7), .inr (10, [.ref (nx 0), .ref (nx 1), .ref (nx 2), .ref (nx 3), .ref (nx 4), .ref (nx 5), .ref (nx 6), .int (nI cn), .int x8, .int x9, .int x10])), ((nx 2), .inl (cI, 12, .inl G))]) [3, 4, 0, 1, 2] (by decide) rfl
        refine lv_aload_n hx hb dgX8_takeBoth_169 rfl (lv_at hl 1 rfl) ?_
        refine lv_iload hx hb dgX8_takeBoth_170 (lv_at hl 6 rfl) ?_
        refine lv_iload hx hb dgX8_takeBoth_172 (lv_at hl 10 rfl) ?_
        have hPc := hP.sub (ws' := [(aP, .inr (11, [.ref (px 0), .ref (px 1), .ref (px 2), .ref (px 3), .ref (px 4), .ref (px 5), .ref (px 6), .ref (px 7), .int wr])), ((px 6), .inl (cI, 48, .inl (ow_nI (pt_un (tb_run G d (x + 1) (o + one) (z + tb_cl G q.1 x one) ((tb_2 G q.1 x one).1, q.2)).1 (4 * x) (tb_ou G x one)))))]) [0, 1] rfl
        have hDc := hD.sub (ws' := [(aP, .inr (11, [.ref (px 0), .ref (px 1), .ref (px 2), .ref (px 3), .ref (px 4), .ref (px 5), .ref (px 6), .ref (px 7), .int wr])), ((px 6), .inl (cI, 48, .inl (ow_nI (pt_un (tb_run G d (x + 1) (o + one) (z + tb_cl G q.1 x one) ((tb_2 G q.1 x one).1, q.2)).1 (4 * x) (tb_ou G x one)))))]) [0, 1] (by decide) rfl
        have hFc := va_free (wc := [(aP, .inr (11, [.ref (px 0), .ref (px 1), .ref (px 2), .ref (px 3), .ref (px 4), .ref (px 5), .ref (px 6), .ref (px 7), .int wr])), ((px 6), .inl (cI, 48, .inl (ow_nI (pt_un (tb_run G d (x + 1) (o + one) (z + tb_cl G q.1 x one) ((tb_2 G q.1 x one).1, q.2)).1 (4 * x) (tb_ou G x one)))))]) hD hS hA [0, 1] rfl
        refine va_callv (va_runV (As := [.int (nI (4 * x + 1)), .int (nI (tb_in G x one))]) (rest := []) ⟨hx, hb, hml, hown, hts⟩ (kg_X8_untie l dC dI cI cB cJ cZ aP px wr (pt_un (tb_run G d (x + 1) (o + one) (z + tb_cl G q.1 x one) ((tb_2 G q.1 x one).1, q.2)).1 (4 * x) (tb_ou G x one)) (pt_un_b48 hr48 (by omega) hou) (4 * x + 1) (tb_in G x one) (by omega) hin H.size) (cwV 2 hts gg_X8_takeBoth_1 rfl rfl rfl (by decide +kernel) ⟨(by dsimp only; omega), (by dsimp only; omega)⟩) ⟨fun a U g mk q => by obtain ⟨q0, q1, qP, qK, qD⟩ := q; exact ⟨q0, q1, qP, va_K.moved (u := U) (U := U.calling g mk a) (Vm.Alike.refl U.vm) qK, qD⟩, va_recv hK hPc (ci := 11) (q0 := 0) rfl rfl, fun U hU hW => ⟨rfl, by rw [hU], by rw [hU]; exact hPc, va_K.moved hW.alike hK, hDc.weaken (fun _ _ _ _ => trivial)⟩⟩ rfl rfl hl.1 rfl (lv_room (Nat.le_of_ble_eq_true rfl)) dgX8_takeBoth_174 ⟨(Nat.le_of_ble_eq_true rfl), (Nat.le_of_ble_eq_true rfl)⟩) hS (fun q _ h => hFc q h) hFc (fun u9 t H1 locs ht hvm hw hB hz1 hk1 hS => ?_)
        obtain ⟨hP1, hD1⟩ := hB
        rw [ht] at hP1
        obtain ⟨hP, hD⟩ := va_join (wr := [((px 5), .inl (cI, 312, .inl ((tb_run G d (x + 1) (o + one) (z + tb_cl G q.1 x one) ((tb_2 G q.1 x one).1, q.2)).2))), ((px 7), .inr (10, [.ref (nx 0), .ref (nx 1), .ref (nx 2), .ref (nx 3), .ref (nx 4), .ref (nx 5), .ref (nx 6), .int (nI cn), .int x8, .int x9, .int x10])), ((nx 2), .inl (cI, 12, .inl G))]) (w1 := [(aP, .inr (11, [.ref (px 0), .ref (px 1), .ref (px 2), .ref (px 3), .ref (px 4), .ref (px 5), .ref (px 6), .ref (px 7), .int wr])), ((px 6), .inl (cI, 48, .inl (ow_nI (tb_ba G (tb_run G d (x + 1) (o + one) (z + tb_cl G q.1 x one) ((tb_2 G q.1 x one).1, q.2)).1 x one))))]) hP hD [0, 1] [2, 3, 4] rfl rfl (by decide) (by decide) hk1 hFc hP1 hD1
        generalize H1 = H at hP hS ⊢
        have hP : va_P (dC, dI) vwCl [((px 5), .inl (cI, 312, .inl ((tb_run G d (x + 1) (o + one) (z + tb_cl G q.1 x one) ((tb_2 G q.1 x one).1, q.2)).2))), ((px 7), .inr (10, [.ref (nx 0), .ref (nx 1), .ref (nx 2), .ref (nx 3), .ref (nx 4), .ref (nx 5), .ref (nx 6), .int (nI cn), .int x8, .int x9, .int x10])), ((nx 2), .inl (cI, 12, .inl G)), (aP, .inr (11, [.ref (px 0), .ref (px 1), .ref (px 2), .ref (px 3), .ref (px 4), .ref (px 5), .ref (px 6), .ref (px 7), .int wr])), ((px 6), .inl (cI, 48, .inl (ow_nI (tb_ba G (tb_run G d (x + 1) (o + one) (z + tb_cl G q.1 x one) ((tb_2 G q.1 x one).1, q.2)).1 x one))))] H := hP
        have hD : va_D A [((px 5), .inl (cI, 312, .inl ((tb_run G d (x + 1) (o + one) (z + tb_cl G q.1 x one) ((tb_2 G q.1 x one).1, q.2)).2))), ((px 7), .inr (10, [.ref (nx 0), .ref (nx 1), .ref (nx 2), .ref (nx 3), .ref (nx 4), .ref (nx 5), .ref (nx 6), .int (nI cn), .int x8, .int x9, .int x10])), ((nx 2), .inl (cI, 12, .inl G)), (aP, .inr (11, [.ref (px 0), .ref (px 1), .ref (px 2), .ref (px 3), .ref (px 4), .ref (px 5), .ref (px 6), .ref (px 7), .int wr])), ((px 6), .inl (cI, 48, .inl (ow_nI (tb_ba G (tb_run G d (x + 1) (o + one) (z + tb_cl G q.1 x one) ((tb_2 G q.1 x one).1, q.2)).1 x one))))] := hD
        have hP := hP.sub (ws' := [(aP, .inr (11, [.ref (px 0), .ref (px 1), .ref (px 2), .ref (px 3), .ref (px 4), .ref (px 5), .ref (px 6), .ref (px 7), .int wr])), ((px 6), .inl (cI, 48, .inl (ow_nI (tb_ba G (tb_run G d (x + 1) (o + one) (z + tb_cl G q.1 x one) ((tb_2 G q.1 x one).1, q.2)).1 x one)))), ((px 5), .inl (cI, 312, .inl ((tb_run G d (x + 1) (o + one) (z + tb_cl G q.1 x one) ((tb_2 G q.1 x one).1, q.2)).2))), ((px 7), .inr (10, [.ref (nx 0), .ref (nx 1), .ref (nx 2), .ref (nx 3), .ref (nx 4), .ref (nx 5), .ref (nx 6), .int (nI cn), .int x8, .int x9, .int x10])), ((nx 2), .inl (cI, 12, .inl G))]) [3, 4, 0, 1, 2] rfl
        have hD := hD.sub (ws' := [(aP, .inr (11, [.ref (px 0), .ref (px 1), .ref (px 2), .ref (px 3), .ref (px 4), .ref (px 5), .ref (px 6), .ref (px 7), .int wr])), ((px 6), .inl (cI, 48, .inl (ow_nI (tb_ba G (tb_run G d (x + 1) (o + one) (z + tb_cl G q.1 x one) ((tb_2 G q.1 x one).1, q.2)).1 x one)))), ((px 5), .inl (cI, 312, .inl ((tb_run G d (x + 1) (o + one) (z + tb_cl G q.1 x one) ((tb_2 G q.1 x one).1, q.2)).2))), ((px 7), .inr (10, [.ref (nx 0), .ref (nx 1), .ref (nx 2), .ref (nx 3), .ref (nx 4), .ref (nx 5), .ref (nx 6), .int (nI cn), .int x8, .int x9, .int x10])), ((nx 2), .inl (cI, 12, .inl G))]) [3, 4, 0, 1, 2] (by decide) rfl
        refine lv_iinc (v := nI (one + 1)) (lv' := [(8, .int (nI (one + 1))), (12, .int (nI (tb_cl G q.1 x one))), (0, .ref aP), (1, .int (nI x)), (2, .int (nI o)), (3, .int (nI z)), (4, .int (nI (4 * x))), (5, .int (nI (4 * x + 1))), (6, .int (nI (4 * x + 2))), (7, .int (nI (4 * x + 3))), (10, .int (nI (tb_in G x one))), (11, .int (nI (tb_ou G x one)))]) hx hb dgX8_takeBoth_177 hl (k := 9) rfl (nI_1 one) (by decide) rfl (fun ls hl => ?_)
        refine lv_goto (tgt := 56) hx hb dgX8_takeBoth_180 (by decide) ?_
        exact hcont H locs ls hP hD hS (lv_sub hl [2, 3, 4, 5, 6, 7, 8, 9, 0] rfl)
      refine lv_iload hx hb dgX8_takeBoth_99 (lv_at hl 9 rfl) ?_
      cases hal : tb_al G x one with
      | false =>
        refine lv_if_eq (tgt := 109) hx hb dgX8_takeBoth_101 (by decide) (fun _ => ?_) (fun c9 => absurd (rfl) c9)
        refine lv_iload hx hb dgX8_takeBoth_109 (lv_at hl 7 rfl) ?_
        refine ow_topi (y := nI (tb_in G x one)) (by rw [tb_in, hal]; rfl) ?_
        refine lv_istore (lv' := [(10, .int (nI (tb_in G x one))), (0, .ref aP), (1, .int (nI x)), (2, .int (nI o)), (3, .int (nI z)), (4, .int (nI (4 * x))), (5, .int (nI (4 * x + 1))), (6, .int (nI (4 * x + 2))), (7, .int (nI (4 * x + 3))), (8, .int (nI one)), (9, .int (bI (tb_al G x one)))]) hx hb dgX8_takeBoth_111 hl (by decide) rfl (fun ls hl => ?_)
        refine lv_iload hx hb dgX8_takeBoth_113 (lv_at hl 10 rfl) ?_
        refine lv_if_eq (tgt := 123) hx hb dgX8_takeBoth_115 (by decide) (fun _ => ?_) (fun c9 => absurd (by rw [hal]; rfl) c9)
        refine lv_iload hx hb dgX8_takeBoth_123 (lv_at hl 7 rfl) ?_
        refine ow_topi (y := nI (tb_ou G x one)) (by rw [tb_ou, hal]; rfl) ?_
        refine lv_istore (lv' := [(11, .int (nI (tb_ou G x one))), (10, .int (nI (tb_in G x one))), (0, .ref aP), (1, .int (nI x)), (2, .int (nI o)), (3, .int (nI z)), (4, .int (nI (4 * x))), (5, .int (nI (4 * x + 1))), (6, .int (nI (4 * x + 2))), (7, .int (nI (4 * x + 3))), (8, .int (nI one)), (9, .int (bI (tb_al G x one)))]) hx hb dgX8_takeBoth_125 hl (by decide) rfl (fun ls hl => ?_)
        exact K127 H locs ls hP hD hS (lv_sub hl [2, 3, 4, 5, 6, 7, 8, 9, 10, 1, 0] rfl)
      | true =>
        refine lv_if_eq (tgt := 109) hx hb dgX8_takeBoth_101 (by decide) (fun c9 => absurd c9 (by decide)) (fun _ => ?_)
        refine lv_iload hx hb dgX8_takeBoth_104 (lv_at hl 6 rfl) ?_
        refine lv_goto (tgt := 111) hx hb dgX8_takeBoth_106 (by decide) ?_
        refine ow_topi (y := nI (tb_in G x one)) (by rw [tb_in, hal]; rfl) ?_
        refine lv_istore (lv' := [(10, .int (nI (tb_in G x one))), (0, .ref aP), (1, .int (nI x)), (2, .int (nI o)), (3, .int (nI z)), (4, .int (nI (4 * x))), (5, .int (nI (4 * x + 1))), (6, .int (nI (4 * x + 2))), (7, .int (nI (4 * x + 3))), (8, .int (nI one)), (9, .int (bI (tb_al G x one)))]) hx hb dgX8_takeBoth_111 hl (by decide) rfl (fun ls hl => ?_)
        refine lv_iload hx hb dgX8_takeBoth_113 (lv_at hl 10 rfl) ?_
        refine lv_if_eq (tgt := 123) hx hb dgX8_takeBoth_115 (by decide) (fun c9 => absurd c9 (by rw [hal]; decide)) (fun _ => ?_)
        refine lv_iload hx hb dgX8_takeBoth_118 (lv_at hl 8 rfl) ?_
        refine lv_goto (tgt := 125) hx hb dgX8_takeBoth_120 (by decide) ?_
        refine ow_topi (y := nI (tb_ou G x one)) (by rw [tb_ou, hal]; rfl) ?_
        refine lv_istore (lv' := [(11, .int (nI (tb_ou G x one))), (10, .int (nI (tb_in G x one))), (0, .ref aP), (1, .int (nI x)), (2, .int (nI o)), (3, .int (nI z)), (4, .int (nI (4 * x))), (5, .int (nI (4 * x + 1))), (6, .int (nI (4 * x + 2))), (7, .int (nI (4 * x + 3))), (8, .int (nI one)), (9, .int (bI (tb_al G x one)))]) hx hb dgX8_takeBoth_125 hl (by decide) rfl (fun ls hl => ?_)
        exact K127 H locs ls hP hD hS (lv_sub hl [2, 3, 4, 5, 6, 7, 8, 9, 10, 1, 0] rfl)
    have K56 : ∀ (one : Nat) (q : ow_TQ), one < 2 → ow_b48 q.1 → tb_fit G d (x + 1) (o + one) (z + tb_cl G q.1 x one) ((tb_2 G q.1 x one).1, q.2) → (∀ (H : Heap) (locs : List Loc) (ls : Array Slot), va_P (dC, dI) vwCl [(aP, .inr (11, [.ref (px 0), .ref (px 1), .ref (px 2), .ref (px 3), .ref (px 4), .ref (px 5), .ref (px 6), .ref (px 7), .int wr])), ((px 6), .inl (cI, 48, .inl (ow_nI (tb_stp G d x o z one q).1))), ((px 5), .inl (cI, 312, .inl ((tb_stp G d x o z one q).2))), ((px 7), .inr (10, [.ref (nx 0), .ref (nx 1), .ref (nx 2), .ref (nx 3), .ref (nx 4), .ref (nx 5), .ref (nx 6), .int (nI cn), .int x8, .int x9, .int x10])), ((nx 2), .inl (cI, 12, .inl G))] H → va_D A [(aP, .inr (11, [.ref (px 0), .ref (px 1), .ref (px 2), .ref (px 3), .ref (px 4), .ref (px 5), .ref (px 6), .ref (px 7), .int wr])), ((px 6), .inl (cI, 48, .inl (ow_nI (tb_stp G d x o z one q).1))), ((px 5), .inl (cI, 312, .inl ((tb_stp G d x o z one q).2))), ((px 7), .inr (10, [.ref (nx 0), .ref (nx 1), .ref (nx 2), .ref (nx 3), .ref (nx 4), .ref (nx 5), .ref (nx 6), .int (nI cn), .int x8, .int x9, .int x10])), ((nx 2), .inl (cI, 12, .inl G))] → va_S A s.heap H locs → lv_has ls 13 [(0, .ref aP), (1, .int (nI x)), (2, .int (nI o)), (3, .int (nI z)), (4, .int (nI (4 * x))), (5, .int (nI (4 * x + 1))), (6, .int (nI (4 * x + 2))), (7, .int (nI (4 * x + 3))), (8, .int (nI (one + 1)))] → W p l e ({ frames := (d + 1) + 1, cells := 0, slots := 0, locals := 40 + 32 * (d + 1) } : Room) s m ([.ref aP, .int (nI x), .int (nI o), .int (nI z)] : List Value).toArray below meth c H locs 0 0 QQ (F0 m 56 ls [])) → ∀ (H : Heap) (locs : List Loc) (ls : Array Slot), va_P (dC, dI) vwCl [(aP, .inr (11, [.ref (px 0), .ref (px 1), .ref (px 2), .ref (px 3), .ref (px 4), .ref (px 5), .ref (px 6), .ref (px 7), .int wr])), ((px 6), .inl (cI, 48, .inl (ow_nI q.1))), ((px 5), .inl (cI, 312, .inl q.2)), ((px 7), .inr (10, [.ref (nx 0), .ref (nx 1), .ref (nx 2), .ref (nx 3), .ref (nx 4), .ref (nx 5), .ref (nx 6), .int (nI cn), .int x8, .int x9, .int x10])), ((nx 2), .inl (cI, 12, .inl G))] H → va_D A [(aP, .inr (11, [.ref (px 0), .ref (px 1), .ref (px 2), .ref (px 3), .ref (px 4), .ref (px 5), .ref (px 6), .ref (px 7), .int wr])), ((px 6), .inl (cI, 48, .inl (ow_nI q.1))), ((px 5), .inl (cI, 312, .inl q.2)), ((px 7), .inr (10, [.ref (nx 0), .ref (nx 1), .ref (nx 2), .ref (nx 3), .ref (nx 4), .ref (nx 5), .ref (nx 6), .int (nI cn), .int x8, .int x9, .int x10])), ((nx 2), .inl (cI, 12, .inl G))] → va_S A s.heap H locs → lv_has ls 13 [(0, .ref aP), (1, .int (nI x)), (2, .int (nI o)), (3, .int (nI z)), (4, .int (nI (4 * x))), (5, .int (nI (4 * x + 1))), (6, .int (nI (4 * x + 2))), (7, .int (nI (4 * x + 3))), (8, .int (nI one))] → W p l e ({ frames := (d + 1) + 1, cells := 0, slots := 0, locals := 40 + 32 * (d + 1) } : Room) s m ([.ref aP, .int (nI x), .int (nI o), .int (nI z)] : List Value).toArray below meth c H locs 0 0 QQ (F0 m 56 ls []) := by
      intro one q ho2 hq48 hfit hcont H locs ls hP hD hS hl
      refine lv_iload hx hb dgX8_takeBoth_56 (lv_at hl 8 rfl) ?_
      refine lv_iconst (v := 2) hx hb dgX8_takeBoth_58 (by decide) ?_
      refine lv_icmp_ge (tgt := 183) hx hb dgX8_takeBoth_59 (by decide) (fun c9 => absurd c9 (nI_ge (a := one) (b := 2) ho2 (by decide))) (fun _ => ?_)
      refine lv_aload_n hx hb dgX8_takeBoth_62 rfl (lv_at hl 0 rfl) ?_
      refine va_get (D := (dC, dI)) (ci := 11) (v := .ref (px 7)) (C := RX8) (T := TX8) (N := 9) hx hb hts (fun _ h => List.mem_cons_of_mem _ (List.mem_append_left _ (List.mem_append_left _ (List.mem_append_right _ h)))) hown hK hP 0 rfl rfl 7 (by decide) (hts (.fieldLink RX8 45 "KnotHouse$Polynomials" "net" "LKnotHouse$Net;") (by decide +kernel)) (fun _ h9 => h9) rfl dgX8_takeBoth_63 ?_
      refine va_get (D := (dC, dI)) (ci := 10) (v := .ref (nx 2)) (C := RX7) (T := TX7) (N := 11) hx hb hts (fun _ h => List.mem_cons_of_mem _ (List.mem_append_left _ (List.mem_append_right _ h))) hown hK hP 3 rfl rfl 2 (by decide) (hts (.fieldLink RX8 83 "KnotHouse$Net" "sign" "[I") (by decide +kernel)) (fun _ h9 => h9) rfl dgX8_takeBoth_66 ?_
      refine lv_iload_n hx hb dgX8_takeBoth_69 rfl (lv_at hl 1 rfl) ?_
      refine va_iald hx hb hK hP 4 0 rfl rfl (vp_in_nI (n := x) (N := 12) (by omega) (by decide)) dgX8_takeBoth_70 ?_
      refine ow_topi (y := G x) (congrArg G (nI_clamp (n := x) (Nat.lt_trans (m := 12) (by omega) (by decide)))) ?_
      rcases Decidable.em (0 < G x) with h1 | h1
      · refine lv_if_le (tgt := 78) hx hb dgX8_takeBoth_71 (by decide) (fun c9 => absurd c9 (Int32.not_le.mpr h1)) (fun _ => ?_)
        refine lv_iconst (v := 1) hx hb dgX8_takeBoth_74 (by decide) ?_
        refine lv_goto (tgt := 79) hx hb dgX8_takeBoth_75 (by decide) ?_
        refine lv_iload hx hb dgX8_takeBoth_79 (lv_at hl 8 rfl) ?_
        rcases Decidable.em (one = 0) with h2 | h2
        · refine lv_if_ne (tgt := 88) hx hb dgX8_takeBoth_81 (by decide) (fun c9 => absurd c9 (not_not_intro (congrArg nI h2))) (fun _ => ?_)
          refine lv_iconst (v := 1) hx hb dgX8_takeBoth_84 (by decide) ?_
          refine lv_goto (tgt := 89) hx hb dgX8_takeBoth_85 (by decide) ?_
          refine lv_icmp_ne (tgt := 96) hx hb dgX8_takeBoth_89 (by decide) (fun c9 => absurd c9 (by decide)) (fun _ => ?_)
          refine lv_iconst (v := 1) hx hb dgX8_takeBoth_92 (by decide) ?_
          refine lv_goto (tgt := 97) hx hb dgX8_takeBoth_93 (by decide) ?_
          refine ow_topi (y := bI (tb_al G x one)) (by simp [tb_al, h1, h2, bI]) ?_
          refine lv_istore (lv' := [(9, .int (bI (tb_al G x one))), (0, .ref aP), (1, .int (nI x)), (2, .int (nI o)), (3, .int (nI z)), (4, .int (nI (4 * x))), (5, .int (nI (4 * x + 1))), (6, .int (nI (4 * x + 2))), (7, .int (nI (4 * x + 3))), (8, .int (nI one))]) hx hb dgX8_takeBoth_97 hl (by decide) rfl (fun ls hl => ?_)
          exact K99 one q ho2 hq48 hfit hcont H locs ls hP hD hS (lv_sub hl [1, 2, 3, 4, 5, 6, 7, 8, 9, 0] rfl)
        · refine lv_if_ne (tgt := 88) hx hb dgX8_takeBoth_81 (by decide) (fun _ => ?_) (fun c9 => absurd c9 (fun h9 => h2 (ow_nI_inj (b := 0) (by omega) (by decide) h9)))
          refine lv_iconst (v := 0) hx hb dgX8_takeBoth_88 (by decide) ?_
          refine lv_icmp_ne (tgt := 96) hx hb dgX8_takeBoth_89 (by decide) (fun _ => ?_) (fun c9 => absurd c9 (by decide))
          refine lv_iconst (v := 0) hx hb dgX8_takeBoth_96 (by decide) ?_
          refine ow_topi (y := bI (tb_al G x one)) (by simp [tb_al, h1, h2, bI]) ?_
          refine lv_istore (lv' := [(9, .int (bI (tb_al G x one))), (0, .ref aP), (1, .int (nI x)), (2, .int (nI o)), (3, .int (nI z)), (4, .int (nI (4 * x))), (5, .int (nI (4 * x + 1))), (6, .int (nI (4 * x + 2))), (7, .int (nI (4 * x + 3))), (8, .int (nI one))]) hx hb dgX8_takeBoth_97 hl (by decide) rfl (fun ls hl => ?_)
          exact K99 one q ho2 hq48 hfit hcont H locs ls hP hD hS (lv_sub hl [1, 2, 3, 4, 5, 6, 7, 8, 9, 0] rfl)
      · refine lv_if_le (tgt := 78) hx hb dgX8_takeBoth_71 (by decide) (fun _ => ?_) (fun c9 => absurd (Int32.not_lt.mp h1) c9)
        refine lv_iconst (v := 0) hx hb dgX8_takeBoth_78 (by decide) ?_
        refine lv_iload hx hb dgX8_takeBoth_79 (lv_at hl 8 rfl) ?_
        rcases Decidable.em (one = 0) with h2 | h2
        · refine lv_if_ne (tgt := 88) hx hb dgX8_takeBoth_81 (by decide) (fun c9 => absurd c9 (not_not_intro (congrArg nI h2))) (fun _ => ?_)
          refine lv_iconst (v := 1) hx hb dgX8_takeBoth_84 (by decide) ?_
          refine lv_goto (tgt := 89) hx hb dgX8_takeBoth_85 (by decide) ?_
          refine lv_icmp_ne (tgt := 96) hx hb dgX8_takeBoth_89 (by decide) (fun _ => ?_) (fun c9 => absurd c9 (by decide))
          refine lv_iconst (v := 0) hx hb dgX8_takeBoth_96 (by decide) ?_
          refine ow_topi (y := bI (tb_al G x one)) (by simp [tb_al, h1, h2, bI]) ?_
          refine lv_istore (lv' := [(9, .int (bI (tb_al G x one))), (0, .ref aP), (1, .int (nI x)), (2, .int (nI o)), (3, .int (nI z)), (4, .int (nI (4 * x))), (5, .int (nI (4 * x + 1))), (6, .int (nI (4 * x + 2))), (7, .int (nI (4 * x + 3))), (8, .int (nI one))]) hx hb dgX8_takeBoth_97 hl (by decide) rfl (fun ls hl => ?_)
          exact K99 one q ho2 hq48 hfit hcont H locs ls hP hD hS (lv_sub hl [1, 2, 3, 4, 5, 6, 7, 8, 9, 0] rfl)
        · refine lv_if_ne (tgt := 88) hx hb dgX8_takeBoth_81 (by decide) (fun _ => ?_) (fun c9 => absurd c9 (fun h9 => h2 (ow_nI_inj (b := 0) (by omega) (by decide) h9)))
          refine lv_iconst (v := 0) hx hb dgX8_takeBoth_88 (by decide) ?_
          refine lv_icmp_ne (tgt := 96) hx hb dgX8_takeBoth_89 (by decide) (fun c9 => absurd c9 (by decide)) (fun _ => ?_)
          refine lv_iconst (v := 1) hx hb dgX8_takeBoth_92 (by decide) ?_
          refine lv_goto (tgt := 97) hx hb dgX8_takeBoth_93 (by decide) ?_
          refine ow_topi (y := bI (tb_al G x one)) (by simp [tb_al, h1, h2, bI]) ?_
          refine lv_istore (lv' := [(9, .int (bI (tb_al G x one))), (0, .ref aP), (1, .int (nI x)), (2, .int (nI o)), (3, .int (nI z)), (4, .int (nI (4 * x))), (5, .int (nI (4 * x + 1))), (6, .int (nI (4 * x + 2))), (7, .int (nI (4 * x + 3))), (8, .int (nI one))]) hx hb dgX8_takeBoth_97 hl (by decide) rfl (fun ls hl => ?_)
          exact K99 one q ho2 hq48 hfit hcont H locs ls hP hD hS (lv_sub hl [1, 2, 3, 4, 5, 6, 7, 8, 9, 0] rfl)
    refine K56 0 q (by decide) hq48 hf0 (fun H locs ls hP hD hS hl => ?_) H locs ls hP hD hS (lv_sub hl [5, 6, 7, 8, 4, 3, 2, 1, 0] rfl)
    refine K56 1 (tb_stp G d x o z 0 q) (by decide) (tb_ba_b48 (tb_run_b48 d (x + 1) _ _ _ (by omega) (tb_2_b48 hq48)) hx12) hf1 (fun H locs ls hP hD hS hl => ?_) H locs ls hP hD hS hl
    refine lv_iload hx hb dgX8_takeBoth_56 (lv_at hl 8 rfl) ?_
    refine lv_iconst (v := 2) hx hb dgX8_takeBoth_58 (by decide) ?_
    refine lv_icmp_ge (tgt := 183) hx hb dgX8_takeBoth_59 (by decide) (fun _ => ?_) (fun c9 => absurd (by decide) c9)
    have hP : va_P (dC, dI) vwCl [(aP, .inr (11, [.ref (px 0), .ref (px 1), .ref (px 2), .ref (px 3), .ref (px 4), .ref (px 5), .ref (px 6), .ref (px 7), .int wr])), ((px 6), .inl (cI, 48, .inl (ow_nI (tb_run G (d + 1) x o z q).1))), ((px 5), .inl (cI, 312, .inl ((tb_run G (d + 1) x o z q).2))), ((px 7), .inr (10, [.ref (nx 0), .ref (nx 1), .ref (nx 2), .ref (nx 3), .ref (nx 4), .ref (nx 5), .ref (nx 6), .int (nI cn), .int x8, .int x9, .int x10])), ((nx 2), .inl (cI, 12, .inl G))] H := hP
    have hD : va_D A [(aP, .inr (11, [.ref (px 0), .ref (px 1), .ref (px 2), .ref (px 3), .ref (px 4), .ref (px 5), .ref (px 6), .ref (px 7), .int wr])), ((px 6), .inl (cI, 48, .inl (ow_nI (tb_run G (d + 1) x o z q).1))), ((px 5), .inl (cI, 312, .inl ((tb_run G (d + 1) x o z q).2))), ((px 7), .inr (10, [.ref (nx 0), .ref (nx 1), .ref (nx 2), .ref (nx 3), .ref (nx 4), .ref (nx 5), .ref (nx 6), .int (nI cn), .int x8, .int x9, .int x10])), ((nx 2), .inl (cI, 12, .inl G))] := hD
    rw [hQQ]
    exact W.vret hx hb hr (fun t ht hW => ⟨⟨(), rfl, trivial, by rw [ht]; exact hP, hD⟩, hS.F ht⟩) hS.2.2 dgX8_takeBoth_183
