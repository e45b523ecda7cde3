/-! rows of factors compared -/
def sm_cmp (X Y : Nat → Int32) : Nat → Nat → Int32
  | 0, _ => 0
  | d + 1, i => if X i = Y i then sm_cmp X Y d (i + 1) else if X i < Y i then -1 else 1
def sm_ch1 (a : Int32) (i : Nat) : Nat → Nat → Int32 → Int32
  | 0, _, r => r
  | d + 1, j, r => sm_ch1 a i d (j + 1) (r ||| (if f5_im a (nI j) < f5_im a (nI i) then 1 <<< ((4 * nI i + nI j) &&& 31) else 0))
def sm_ch (a : Int32) (n : Nat) : Nat → Int32
  | 0 => 0
  | i + 1 => sm_ch1 a i (n - (i + 1)) (i + 1) (sm_ch a n i)
def sm_go (ST : Nat → Int32) (c9 : Int32) : Nat → Nat → Bool
  | 0, _ => false
  | d + 1, k => if ST k &&& (c9 ^^^ -1) = 0 then true else sm_go ST c9 d (k + 1)
/-! the set: size, rows, order -/
abbrev ow_SM := Nat × (Nat → Int32) × (Nat → Nat)
def sm_at (M : ow_SM) (F : Nat → Int32) (ln m : Nat) : Int32 := sm_cmp (fun i => M.2.1 (20 * M.2.2 m + i)) (fun i => F (0 + i)) ln 0
def sm_sr (M : ow_SM) (F : Nat → Int32) (ln : Nat) : Bool × Nat := cd_srch (sm_at M F ln) 16 0 M.1
def sm_add (M : ow_SM) (F : Nat → Int32) (ln : Nat) : ow_SM := if (sm_sr M F ln).1 then M else if 200 < M.1 ∨ 20 < ln then M else (M.1 + 1, va_cpy F M.2.1 0 (20 * M.1) ln, nu (va_cpy M.2.2 M.2.2 (sm_sr M F ln).2 ((sm_sr M F ln).2 + 1) (M.1 - (sm_sr M F ln).2)) (sm_sr M F ln).2 M.1)
def sm_ok (M : ow_SM) (ln : Nat) : Prop := M.1 ≤ 201 ∧ (∀ m, m < M.1 → M.2.2 m < M.1) ∧ (0 < M.1 → ln ≤ 20) ∧ ln ≤ 24
theorem sm_sr_le (M : ow_SM) (F : Nat → Int32) (ln : Nat) : (sm_sr M F ln).2 ≤ M.1 := cd_srch_le 16 0 _ (Nat.zero_le _) (Nat.le_refl _)
theorem sm_add_ok {M : ow_SM} {F : Nat → Int32} {ln : Nat} (h : sm_ok M ln) : sm_ok (sm_add M F ln) ln := by
  unfold sm_add
  split
  · exact h
  · split
    · exact h
    · rename_i h1
      have hs := sm_sr_le M F ln
      refine ⟨?_, fun m hm => ?_, fun _ => ?_, h.2.2.2⟩
      · show M.1 + 1 ≤ 201
        omega
      · have hm : m < M.1 + 1 := hm
        show nu (va_cpy M.2.2 M.2.2 (sm_sr M F ln).2 ((sm_sr M F ln).2 + 1) (M.1 - (sm_sr M F ln).2)) (sm_sr M F ln).2 M.1 m < M.1 + 1
        by_cases e : m = (sm_sr M F ln).2
        · rw [e, nu_same]; exact Nat.lt_succ_self _
        · rw [nu_ne _ _ e]
          rcases Nat.lt_or_ge m (sm_sr M F ln).2 with q | q
          · rw [pk_cpy_out (Or.inl (by omega))]
            exact Nat.lt_succ_of_lt (h.2.1 m (by omega))
          · rw [pk_cpy_in (by omega) (by omega)]
            exact Nat.lt_succ_of_lt (h.2.1 _ (by omega))
      · omega
/-! cycled up and down -/
def sm_c1 (n : Nat) (idn den : Int32) : Nat → Nat → ow_FO → ow_FO
  | 0, _, q => q
  | d + 1, z, q => if z < 30 then sm_c1 n idn den d (if q.1 < (f5_cy n idn den q).1 then 0 else z + 1) (f5_cy n idn den q) else q
def sm_c2 (n : Nat) (idn den : Int32) : Nat → Nat → ow_FO → ow_FO
  | 0, _, q => q
  | d + 1, z, q => if z < 30 then sm_c2 n idn den d (if (f5_dc n idn den q).1 + nI (f5_dc n idn den q).2.1 < q.1 + nI q.2.1 then 0 else z + 1) (f5_dc n idn den q) else q
def sm_cl (n : Nat) (idn den : Int32) (q : ow_FO) : ow_FO := sm_c2 n idn den 2000 0 (sm_c1 n idn den 2000 0 q)
theorem sm_c1_le {n : Nat} {idn den : Int32} : ∀ (d z : Nat) (q : ow_FO), q.2.1 ≤ 24 → (sm_c1 n idn den d z q).2.1 ≤ 24 := by
  intro d
  induction d with
  | zero => intro z q h; exact h
  | succ d ih =>
    intro z q h
    rw [sm_c1]
    split
    · exact ih _ _ (f5_cy_le h)
    · exact h
theorem sm_c2_le {n : Nat} {idn den : Int32} : ∀ (d z : Nat) (q : ow_FO), q.2.1 ≤ 24 → (sm_c2 n idn den d z q).2.1 ≤ 24 := by
  intro d
  induction d with
  | zero => intro z q h; exact h
  | succ d ih =>
    intro z q h
    rw [sm_c2]
    split
    · exact ih _ _ (f5_dc_le h)
    · exact h
theorem sm_cl_le {n : Nat} {idn den : Int32} {q : ow_FO} (h : q.2.1 ≤ 24) : (sm_cl n idn den q).2.1 ≤ 24 := sm_c2_le _ _ _ (sm_c1_le _ _ _ h)
theorem dgX10_compare_0 : decode cX10_compare 0 = .ok (.iconst 0, 1) := by decide +kernel
theorem dgX10_compare_1 : decode cX10_compare 1 = .ok (.istore 5, 2) := by decide +kernel
theorem dgX10_compare_3 : decode cX10_compare 3 = .ok (.iload 5, 2) := by decide +kernel
theorem dgX10_compare_5 : decode cX10_compare 5 = .ok (.aload_n 0, 1) := by decide +kernel
theorem dgX10_compare_6 : decode cX10_compare 6 = .ok (.getfield 88, 3) := by decide +kernel
theorem dgX10_compare_9 : decode cX10_compare 9 = .ok (.if_icmp .ge 47, 3) := by decide +kernel
theorem dgX10_compare_12 : decode cX10_compare 12 = .ok (.aload_n 1, 1) := by decide +kernel
theorem dgX10_compare_13 : decode cX10_compare 13 = .ok (.iload_n 2, 1) := by decide +kernel
theorem dgX10_compare_14 : decode cX10_compare 14 = .ok (.iload 5, 2) := by decide +kernel
theorem dgX10_compare_16 : decode cX10_compare 16 = .ok (.iadd, 1) := by decide +kernel
theorem dgX10_compare_17 : decode cX10_compare 17 = .ok (.iaload, 1) := by decide +kernel
theorem dgX10_compare_18 : decode cX10_compare 18 = .ok (.aload_n 3, 1) := by decide +kernel
theorem dgX10_compare_19 : decode cX10_compare 19 = .ok (.iload 4, 2) := by decide +kernel
theorem dgX10_compare_21 : decode cX10_compare 21 = .ok (.iload 5, 2) := by decide +kernel
theorem dgX10_compare_23 : decode cX10_compare 23 = .ok (.iadd, 1) := by decide +kernel
theorem dgX10_compare_24 : decode cX10_compare 24 = .ok (.iaload, 1) := by decide +kernel
theorem dgX10_compare_25 : decode cX10_compare 25 = .ok (.if_icmp .eq 25, 3) := by decide +kernel
theorem dgX10_compare_28 : decode cX10_compare 28 = .ok (.aload_n 1, 1) := by decide +kernel
theorem dgX10_compare_29 : decode cX10_compare 29 = .ok (.iload_n 2, 1) := by decide +kernel
theorem dgX10_compare_30 : decode cX10_compare 30 = .ok (.iload 5, 2) := by decide +kernel
theorem dgX10_compare_32 : decode cX10_compare 32 = .ok (.iadd, 1) := by decide +kernel
theorem dgX10_compare_33 : decode cX10_compare 33 = .ok (.iaload, 1) := by decide +kernel
theorem dgX10_compare_34 : decode cX10_compare 34 = .ok (.aload_n 3, 1) := by decide +kernel
theorem dgX10_compare_35 : decode cX10_compare 35 = .ok (.iload 4, 2) := by decide +kernel
theorem dgX10_compare_37 : decode cX10_compare 37 = .ok (.iload 5, 2) := by decide +kernel
theorem dgX10_compare_39 : decode cX10_compare 39 = .ok (.iadd, 1) := by decide +kernel
theorem dgX10_compare_40 : decode cX10_compare 40 = .ok (.iaload, 1) := by decide +kernel
theorem dgX10_compare_41 : decode cX10_compare 41 = .ok (.if_icmp .ge 7, 3) := by decide +kernel
theorem dgX10_compare_44 : decode cX10_compare 44 = .ok (.iconst (-1), 1) := by decide +kernel
theorem dgX10_compare_45 : decode cX10_compare 45 = .ok (.goto 4, 3) := by decide +kernel
theorem dgX10_compare_48 : decode cX10_compare 48 = .ok (.iconst 1, 1) := by decide +kernel
theorem dgX10_compare_49 : decode cX10_compare 49 = .ok (.ireturn, 1) := by decide +kernel
theorem dgX10_compare_50 : decode cX10_compare 50 = .ok (.iinc 5 1, 3) := by decide +kernel
theorem dgX10_compare_53 : decode cX10_compare 53 = .ok (.goto (-50), 3) := by decide +kernel
theorem dgX10_compare_56 : decode cX10_compare 56 = .ok (.iconst 0, 1) := by decide +kernel
theorem dgX10_compare_57 : decode cX10_compare 57 = .ok (.ireturn, 1) := by decide +kernel
def wg_X10_compare : List Cond := .code yX10_compare cX10_compare 6 (some .int) :: (([.fieldLink RX10 88 "KnotHouse$Summit" "length" "I"] ++ wsX100) ++ [])
set_option maxHeartbeats 4000000 in
set_option maxRecDepth 100000 in
theorem kg_X10_compare (l : Launch) (dC : Nat → ClassId) (dI : Nat → Nat → Nat) (cI cB cJ cZ : ClassId) (aU : Nat) (ux : Nat → Nat) (x0 pw : Int32) (ln sz cnt : Nat) (a1 a2 N1 N2 : Nat) (A9 B9 : Nat → Int32) (t0 f0 : Nat) (hN1 : t0 + ln ≤ N1) (hN2 : f0 + ln ≤ N2) (hM1 : N1 < 2 ^ 24) (hM2 : N2 < 2 ^ 24) : Met l yX10_compare wg_X10_compare (({ frames := 0, cells := 0, slots := 0, locals := 0 } : Room)) (va_Pc [.ref aU, .ref a1, .int (nI t0), .ref a2, .int (nI f0)] (fun U => va_P (dC, dI) vwCl [(aU, .inr (13, [.int x0, .int pw, .int (nI ln), .int (nI sz), .ref (ux 0), .ref (ux 1), .ref (ux 2), .ref (ux 3), .ref (ux 4), .ref (ux 5), .int (nI cnt)])), (a1, .inl (cI, N1, .inl A9)), (a2, .inl (cI, N2, .inl B9))] U.heap ∧ va_K (dC, dI) vwCl [(cI, .int), (cB, .byte), (cJ, .long), (cZ, .boolean)] U)) (va_Qi (fun r (_ : Unit) => r = sm_cmp (fun i => A9 (t0 + i)) (fun i => B9 (f0 + i)) ln 0) (fun _ _ => True) (fun _ => False)) 0 0 (fun _ => False) := by
  refine Met.ofW (cc := cX10_compare) (maxL := 6) (ret := (some .int)) (by decide) rfl ?_
  intro p e s m args below meth c s₁ B hml hv
  obtain ⟨rfl, hP, hK⟩ := hv
  have hx := B.exec
  have hb := B.bytes
  have hr := B.returns
  have hts := atoms_spec (ws := wg_X10_compare) B.pre
  have hown : s.vm.findClass RX10 = some m.cls := findClass_of_methodNamed B.named
  have hlocks := B.notSynchronized
  have hS : va_S (fun _ => False) s.heap s.heap [] := va_S.rf
  have hP : va_P (dC, dI) vwCl [(aU, .inr (13, [.int x0, .int pw, .int (nI ln), .int (nI sz), .ref (ux 0), .ref (ux 1), .ref (ux 2), .ref (ux 3), .ref (ux 4), .ref (ux 5), .int (nI cnt)])), (a1, .inl (cI, N1, .inl A9)), (a2, .inl (cI, N2, .inl B9))] s.heap := hP
  have hl := lv_entry ([.ref aU, .ref a1, .int (nI t0), .ref a2, .int (nI f0)]) (n := 6) (Nat.le_of_ble_eq_true rfl)
  rw [lg_entry_eq]
  generalize (lg_sl ([.ref aU, .ref a1, .int (nI t0), .ref a2, .int (nI f0)]) ++ List.replicate (6 - (lg_sl ([.ref aU, .ref a1, .int (nI t0), .ref a2, .int (nI f0)])).length) Slot.unset).toArray = ls at hl ⊢
  have hl : lv_has ls 6 [(0, .ref aU), (1, .ref a1), (2, .int (nI t0)), (3, .ref a2), (4, .int (nI f0))] := hl
  refine ow_named (fun QQ hQQ => ?_)
  have L3 : ∀ (d i : Nat), i + d = ln → sm_cmp (fun i => A9 (t0 + i)) (fun i => B9 (f0 + i)) ln 0 = sm_cmp (fun i => A9 (t0 + i)) (fun i => B9 (f0 + i)) d i → ∀ (H : Heap) (locs : List Loc) (ls : Array Slot), va_P (dC, dI) vwCl [(aU, .inr (13, [.int x0, .int pw, .int (nI ln), .int (nI sz), .ref (ux 0), .ref (ux 1), .ref (ux 2), .ref (ux 3), .ref (ux 4), .ref (ux 5), .int (nI cnt)])), (a1, .inl (cI, N1, .inl A9)), (a2, .inl (cI, N2, .inl B9))] H → va_S (fun _ => False) s.heap H locs → lv_has ls 6 [(0, .ref aU), (1, .ref a1), (2, .int (nI t0)), (3, .ref a2), (4, .int (nI f0)), (5, .int (nI i))] → W p l e ({ frames := 0, cells := 0, slots := 0, locals := 0 } : Room) s m ([.ref aU, .ref a1, .int (nI t0), .ref a2, .int (nI f0)] : List Value).toArray below meth c H locs 0 0 QQ (F0 m 3 ls []) := by
    intro d
    induction d with
    | zero =>
      intro i hi hq H locs ls hP hS hl
      refine lv_iload hx hb dgX10_compare_3 (lv_at hl 5 rfl) ?_
      refine lv_aload_n hx hb dgX10_compare_5 rfl (lv_at hl 0 rfl) ?_
      refine va_get (D := (dC, dI)) (ci := 13) (v := .int (nI ln)) (C := RX10) (T := TX10) (N := 11) hx hb hts (fun _ h => List.mem_cons_of_mem _ (List.mem_append_left _ (List.mem_append_right _ h))) hown hK hP 0 rfl rfl 2 (by decide) (hts (.fieldLink RX10 88 "KnotHouse$Summit" "length" "I") (by decide +kernel)) (fun _ h9 => h9) rfl dgX10_compare_6 ?_
      refine lv_icmp_ge (tgt := 56) hx hb dgX10_compare_9 (by decide) (fun _ => ?_) (fun c9 => absurd (nI_le (a := ln) (b := i) (by omega) (by omega)) c9)
      refine lv_iconst (v := 0) hx hb dgX10_compare_56 (by decide) ?_
      rw [hQQ]
      exact W.iret (v := 0) hx hb hr (fun t ht hW => ⟨⟨0, (), rfl, by rw [hq]; rfl, trivial⟩, hS.F ht⟩) hS.2.2 dgX10_compare_57
    | succ d ih =>
      intro i hi hq H locs ls hP hS hl
      have hq : sm_cmp (fun i => A9 (t0 + i)) (fun i => B9 (f0 + i)) ln 0 = (if A9 (t0 + i) = B9 (f0 + i) then sm_cmp (fun i => A9 (t0 + i)) (fun i => B9 (f0 + i)) d (i + 1) else if A9 (t0 + i) < B9 (f0 + i) then -1 else 1) := hq
      refine lv_iload hx hb dgX10_compare_3 (lv_at hl 5 rfl) ?_
      refine lv_aload_n hx hb dgX10_compare_5 rfl (lv_at hl 0 rfl) ?_
      refine va_get (D := (dC, dI)) (ci := 13) (v := .int (nI ln)) (C := RX10) (T := TX10) (N := 11) hx hb hts (fun _ h => List.mem_cons_of_mem _ (List.mem_append_left _ (List.mem_append_right _ h))) hown hK hP 0 rfl rfl 2 (by decide) (hts (.fieldLink RX10 88 "KnotHouse$Summit" "length" "I") (by decide +kernel)) (fun _ h9 => h9) rfl dgX10_compare_6 ?_
      refine lv_icmp_ge (tgt := 56) hx hb dgX10_compare_9 (by decide) (fun c9 => absurd c9 (nI_ge (a := i) (b := ln) (by omega) (by omega))) (fun _ => ?_)
      refine lv_aload_n hx hb dgX10_compare_12 rfl (lv_at hl 1 rfl) ?_
      refine lv_iload_n hx hb dgX10_compare_13 rfl (lv_at hl 2 rfl) ?_
      refine lv_iload hx hb dgX10_compare_14 (lv_at hl 5 rfl) ?_
      refine lv_iadd hx hb dgX10_compare_16 ?_
      refine ow_topi (y := nI (t0 + i)) (nI_add t0 i) ?_
      refine va_iald hx hb hK hP 1 0 rfl rfl (vp_in_nI (n := t0 + i) (N := N1) (by omega) (by omega)) dgX10_compare_17 ?_
      refine ow_topi (y := A9 (t0 + i)) (congrArg A9 (nI_clamp (n := t0 + i) (by omega))) ?_
      refine lv_aload_n hx hb dgX10_compare_18 rfl (lv_at hl 3 rfl) ?_
      refine lv_iload hx hb dgX10_compare_19 (lv_at hl 4 rfl) ?_
      refine lv_iload hx hb dgX10_compare_21 (lv_at hl 5 rfl) ?_
      refine lv_iadd hx hb dgX10_compare_23 ?_
      refine ow_topi (y := nI (f0 + i)) (nI_add f0 i) ?_
      refine va_iald hx hb hK hP 2 0 rfl rfl (vp_in_nI (n := f0 + i) (N := N2) (by omega) (by omega)) dgX10_compare_24 ?_
      refine ow_topi (y := B9 (f0 + i)) (congrArg B9 (nI_clamp (n := f0 + i) (by omega))) ?_
      refine lv_icmp_eq (tgt := 50) hx hb dgX10_compare_25 (by decide) (fun c1 => ?_) (fun c1 => ?_)
      · rw [if_pos c1] at hq
        refine lv_iinc (v := nI (i + 1)) (lv' := [(5, .int (nI (i + 1))), (0, .ref aU), (1, .ref a1), (2, .int (nI t0)), (3, .ref a2), (4, .int (nI f0))]) hx hb dgX10_compare_50 hl (k := 5) rfl (nI_1 i) (by decide) rfl (fun ls hl => ?_)
        refine lv_goto (tgt := 3) hx hb dgX10_compare_53 (by decide) ?_
        exact ih (i + 1) (by omega) hq H locs ls hP hS (lv_sub hl [1, 2, 3, 4, 5, 0] rfl)
      · rw [if_neg c1] at hq
        refine lv_aload_n hx hb dgX10_compare_28 rfl (lv_at hl 1 rfl) ?_
        refine lv_iload_n hx hb dgX10_compare_29 rfl (lv_at hl 2 rfl) ?_
        refine lv_iload hx hb dgX10_compare_30 (lv_at hl 5 rfl) ?_
        refine lv_iadd hx hb dgX10_compare_32 ?_
        refine ow_topi (y := nI (t0 + i)) (nI_add t0 i) ?_
        refine va_iald hx hb hK hP 1 0 rfl rfl (vp_in_nI (n := t0 + i) (N := N1) (by omega) (by omega)) dgX10_compare_33 ?_
        refine ow_topi (y := A9 (t0 + i)) (congrArg A9 (nI_clamp (n := t0 + i) (by omega))) ?_
        refine lv_aload_n hx hb dgX10_compare_34 rfl (lv_at hl 3 rfl) ?_
        refine lv_iload hx hb dgX10_compare_35 (lv_at hl 4 rfl) ?_
        refine lv_iload hx hb dgX10_compare_37 (lv_at hl 5 rfl) ?_
        refine lv_iadd hx hb dgX10_compare_39 ?_
        refine ow_topi (y := nI (f0 + i)) (nI_add f0 i) ?_
        refine va_iald hx hb hK hP 2 0 rfl rfl (vp_in_nI (n := f0 + i) (N := N2) (by omega) (by omega)) dgX10_compare_40 ?_
        refine ow_topi (y := B9 (f0 + i)) (congrArg B9 (nI_clamp (n := f0 + i) (by omega))) ?_
        refine lv_icmp_ge (tgt := 48) hx hb dgX10_compare_41 (by decide) (fun c2 => ?_) (fun c2 => ?_)
        · rw [if_neg (Int32.not_lt.mpr c2)] at hq
          refine lv_iconst (v := 1) hx hb dgX10_compare_48 (by decide) ?_
          rw [hQQ]
          exact W.iret (v := 1) hx hb hr (fun t ht hW => ⟨⟨1, (), rfl, hq.symm, trivial⟩, hS.F ht⟩) hS.2.2 dgX10_compare_49
        · rw [if_pos (Int32.not_le.mp c2)] at hq
          refine lv_iconst (v := (-1)) hx hb dgX10_compare_44 (by decide) ?_
          refine lv_goto (tgt := 49) hx hb dgX10_compare_45 (by decide) ?_
          rw [hQQ]
          exact W.iret (v := (-1)) hx hb hr (fun t ht hW => ⟨⟨(-1), (), rfl, hq.symm, trivial⟩, hS.F ht⟩) hS.2.2 dgX10_compare_49
  refine lv_iconst (v := 0) hx hb dgX10_compare_0 (by decide) ?_
  refine ow_topi (y := nI 0) (by decide) ?_
  refine lv_istore (lv' := [(5, .int (nI 0)), (0, .ref aU), (1, .ref a1), (2, .int (nI t0)), (3, .ref a2), (4, .int (nI f0))]) hx hb dgX10_compare_1 hl (by decide) rfl (fun ls hl => ?_)
  exact L3 ln 0 (by omega) rfl s.heap [] ls hP hS (lv_sub hl [1, 2, 3, 4, 5, 0] rfl)
theorem dgX10_changesOf_0 : decode cX10_changesOf 0 = .ok (.iconst 0, 1) := by decide +kernel
theorem dgX10_changesOf_1 : decode cX10_changesOf 1 = .ok (.istore_n 2, 1) := by decide +kernel
theorem dgX10_changesOf_2 : decode cX10_changesOf 2 = .ok (.iconst 0, 1) := by decide +kernel
theorem dgX10_changesOf_3 : decode cX10_changesOf 3 = .ok (.istore_n 3, 1) := by decide +kernel
theorem dgX10_changesOf_4 : decode cX10_changesOf 4 = .ok (.iload_n 3, 1) := by decide +kernel
theorem dgX10_changesOf_5 : decode cX10_changesOf 5 = .ok (.aload_n 0, 1) := by decide +kernel
theorem dgX10_changesOf_6 : decode cX10_changesOf 6 = .ok (.getfield 38, 3) := by decide +kernel
theorem dgX10_changesOf_9 : decode cX10_changesOf 9 = .ok (.if_icmp .ge 58, 3) := by decide +kernel
theorem dgX10_changesOf_12 : decode cX10_changesOf 12 = .ok (.iload_n 3, 1) := by decide +kernel
theorem dgX10_changesOf_13 : decode cX10_changesOf 13 = .ok (.iconst 1, 1) := by decide +kernel
theorem dgX10_changesOf_14 : decode cX10_changesOf 14 = .ok (.iadd, 1) := by decide +kernel
theorem dgX10_changesOf_15 : decode cX10_changesOf 15 = .ok (.istore 4, 2) := by decide +kernel
theorem dgX10_changesOf_17 : decode cX10_changesOf 17 = .ok (.iload 4, 2) := by decide +kernel
theorem dgX10_changesOf_19 : decode cX10_changesOf 19 = .ok (.aload_n 0, 1) := by decide +kernel
theorem dgX10_changesOf_20 : decode cX10_changesOf 20 = .ok (.getfield 38, 3) := by decide +kernel
theorem dgX10_changesOf_23 : decode cX10_changesOf 23 = .ok (.if_icmp .ge 38, 3) := by decide +kernel
theorem dgX10_changesOf_26 : decode cX10_changesOf 26 = .ok (.iload_n 2, 1) := by decide +kernel
theorem dgX10_changesOf_27 : decode cX10_changesOf 27 = .ok (.iload_n 1, 1) := by decide +kernel
theorem dgX10_changesOf_28 : decode cX10_changesOf 28 = .ok (.iload_n 3, 1) := by decide +kernel
theorem dgX10_changesOf_29 : decode cX10_changesOf 29 = .ok (.invokestatic 71, 3) := by decide +kernel
theorem dgX10_changesOf_32 : decode cX10_changesOf 32 = .ok (.iload_n 1, 1) := by decide +kernel
theorem dgX10_changesOf_33 : decode cX10_changesOf 33 = .ok (.iload 4, 2) := by decide +kernel
theorem dgX10_changesOf_35 : decode cX10_changesOf 35 = .ok (.invokestatic 71, 3) := by decide +kernel
theorem dgX10_changesOf_38 : decode cX10_changesOf 38 = .ok (.if_icmp .le 14, 3) := by decide +kernel
theorem dgX10_changesOf_41 : decode cX10_changesOf 41 = .ok (.iconst 1, 1) := by decide +kernel
theorem dgX10_changesOf_42 : decode cX10_changesOf 42 = .ok (.iconst 4, 1) := by decide +kernel
theorem dgX10_changesOf_43 : decode cX10_changesOf 43 = .ok (.iload_n 3, 1) := by decide +kernel
theorem dgX10_changesOf_44 : decode cX10_changesOf 44 = .ok (.imul, 1) := by decide +kernel
theorem dgX10_changesOf_45 : decode cX10_changesOf 45 = .ok (.iload 4, 2) := by decide +kernel
theorem dgX10_changesOf_47 : decode cX10_changesOf 47 = .ok (.iadd, 1) := by decide +kernel
theorem dgX10_changesOf_48 : decode cX10_changesOf 48 = .ok (.ishl, 1) := by decide +kernel
theorem dgX10_changesOf_49 : decode cX10_changesOf 49 = .ok (.goto 4, 3) := by decide +kernel
theorem dgX10_changesOf_52 : decode cX10_changesOf 52 = .ok (.iconst 0, 1) := by decide +kernel
theorem dgX10_changesOf_53 : decode cX10_changesOf 53 = .ok (.ior, 1) := by decide +kernel
theorem dgX10_changesOf_54 : decode cX10_changesOf 54 = .ok (.istore_n 2, 1) := by decide +kernel
theorem dgX10_changesOf_55 : decode cX10_changesOf 55 = .ok (.iinc 4 1, 3) := by decide +kernel
theorem dgX10_changesOf_58 : decode cX10_changesOf 58 = .ok (.goto (-41), 3) := by decide +kernel
theorem dgX10_changesOf_61 : decode cX10_changesOf 61 = .ok (.iinc 3 1, 3) := by decide +kernel
theorem dgX10_changesOf_64 : decode cX10_changesOf 64 = .ok (.goto (-60), 3) := by decide +kernel
theorem dgX10_changesOf_67 : decode cX10_changesOf 67 = .ok (.iload_n 2, 1) := by decide +kernel
theorem dgX10_changesOf_68 : decode cX10_changesOf 68 = .ok (.ireturn, 1) := by decide +kernel
def wg_X10_changesOf : List Cond := .code yX10_changesOf cX10_changesOf 5 (some .int) :: (([.fieldLink RX10 38 "KnotHouse$Summit" "strands" "I"] ++ wsX100) ++ (va_wsS RX10 71 yX5_image wg_X5_image ++ []))
theorem gg_X10_changesOf_0 : GoodIn wg_X10_changesOf (va_wsS RX10 71 yX5_image wg_X5_image) := goodIn_sub (fun _ h => List.mem_cons_of_mem _ (List.mem_append_right _ (List.mem_append_left _ h))) (by decide +kernel)
set_option maxHeartbeats 4000000 in
set_option maxRecDepth 100000 in
theorem kg_X10_changesOf (l : Launch) (dC : Nat → ClassId) (dI : Nat → Nat → Nat) (cI cB cJ cZ : ClassId) (aU : Nat) (ux : Nat → Nat) (n : Nat) (hn9 : n < 100) (pw : Int32) (ln sz cnt : Nat) (a : Int32) : Met l yX10_changesOf wg_X10_changesOf (({ frames := 1, cells := 0, slots := 0, locals := 40 } : Room)) (va_Pc [.ref aU, .int a] (fun U => va_P (dC, dI) vwCl [(aU, .inr (13, [.int (nI n), .int pw, .int (nI ln), .int (nI sz), .ref (ux 0), .ref (ux 1), .ref (ux 2), .ref (ux 3), .ref (ux 4), .ref (ux 5), .int (nI cnt)]))] U.heap ∧ va_K (dC, dI) vwCl [(cI, .int), (cB, .byte), (cJ, .long), (cZ, .boolean)] U)) (va_Qi (fun r (_ : Unit) => r = sm_ch a n n) (fun _ _ => True) (fun _ => False)) 0 0 (fun _ => False) := by
  refine Met.ofW (cc := cX10_changesOf) (maxL := 5) (ret := (some .int)) (by decide) rfl ?_
  intro p e s m args below meth c s₁ B hml hv
  obtain ⟨rfl, hP, hK⟩ := hv
  have hx := B.exec
  have hb := B.bytes
  have hr := B.returns
  have hts := atoms_spec (ws := wg_X10_changesOf) B.pre
  have hown : s.vm.findClass RX10 = some m.cls := findClass_of_methodNamed B.named
  have hlocks := B.notSynchronized
  have hS : va_S (fun _ => False) s.heap s.heap [] := va_S.rf
  have hP : va_P (dC, dI) vwCl [(aU, .inr (13, [.int (nI n), .int pw, .int (nI ln), .int (nI sz), .ref (ux 0), .ref (ux 1), .ref (ux 2), .ref (ux 3), .ref (ux 4), .ref (ux 5), .int (nI cnt)]))] s.heap := hP
  have hl := lv_entry ([.ref aU, .int a]) (n := 5) (Nat.le_of_ble_eq_true rfl)
  rw [lg_entry_eq]
  generalize (lg_sl ([.ref aU, .int a]) ++ List.replicate (5 - (lg_sl ([.ref aU, .int a])).length) Slot.unset).toArray = ls at hl ⊢
  have hl : lv_has ls 5 [(0, .ref aU), (1, .int a)] := hl
  refine ow_named (fun QQ hQQ => ?_)
  have L4 : ∀ (d i : Nat), i + d = n → ∀ (H : Heap) (locs : List Loc) (ls : Array Slot), va_P (dC, dI) vwCl [(aU, .inr (13, [.int (nI n), .int pw, .int (nI ln), .int (nI sz), .ref (ux 0), .ref (ux 1), .ref (ux 2), .ref (ux 3), .ref (ux 4), .ref (ux 5), .int (nI cnt)]))] H → va_S (fun _ => False) s.heap H locs → lv_has ls 5 [(0, .ref aU), (1, .int a), (2, .int (sm_ch a n i)), (3, .int (nI i))] → W p l e ({ frames := 1, cells := 0, slots := 0, locals := 40 } : Room) s m ([.ref aU, .int a] : List Value).toArray below meth c H locs 0 0 QQ (F0 m 4 ls []) := by
    intro d
    induction d with
    | zero =>
      intro i hi H locs ls hP hS hl
      have hie : i = n := by omega
      refine lv_iload_n hx hb dgX10_changesOf_4 rfl (lv_at hl 3 rfl) ?_
      refine lv_aload_n hx hb dgX10_changesOf_5 rfl (lv_at hl 0 rfl) ?_
      refine va_get (D := (dC, dI)) (ci := 13) (v := .int (nI n)) (C := RX10) (T := TX10) (N := 11) hx hb hts (fun _ h => List.mem_cons_of_mem _ (List.mem_append_left _ (List.mem_append_right _ h))) hown hK hP 0 rfl rfl 0 (by decide) (hts (.fieldLink RX10 38 "KnotHouse$Summit" "strands" "I") (by decide +kernel)) (fun _ h9 => h9) rfl dgX10_changesOf_6 ?_
      refine lv_icmp_ge (tgt := 67) hx hb dgX10_changesOf_9 (by decide) (fun _ => ?_) (fun c9 => absurd (nI_le (a := n) (b := i) (by omega) (by omega)) c9)
      refine lv_iload_n hx hb dgX10_changesOf_67 rfl (lv_at hl 2 rfl) ?_
      rw [hQQ]
      exact W.iret (v := (sm_ch a n i)) hx hb hr (fun t ht hW => ⟨⟨(sm_ch a n i), (), rfl, by rw [hie], trivial⟩, hS.F ht⟩) hS.2.2 dgX10_changesOf_68
    | succ d ih =>
      intro i hi H locs ls hP hS hl
      refine lv_iload_n hx hb dgX10_changesOf_4 rfl (lv_at hl 3 rfl) ?_
      refine lv_aload_n hx hb dgX10_changesOf_5 rfl (lv_at hl 0 rfl) ?_
      refine va_get (D := (dC, dI)) (ci := 13) (v := .int (nI n)) (C := RX10) (T := TX10) (N := 11) hx hb hts (fun _ h => List.mem_cons_of_mem _ (List.mem_append_left _ (List.mem_append_right _ h))) hown hK hP 0 rfl rfl 0 (by decide) (hts (.fieldLink RX10 38 "KnotHouse$Summit" "strands" "I") (by decide +kernel)) (fun _ h9 => h9) rfl dgX10_changesOf_6 ?_
      refine lv_icmp_ge (tgt := 67) hx hb dgX10_changesOf_9 (by decide) (fun c9 => absurd c9 (nI_ge (a := i) (b := n) (by omega) (by omega))) (fun _ => ?_)
      refine lv_iload_n hx hb dgX10_changesOf_12 rfl (lv_at hl 3 rfl) ?_
      refine lv_iconst (v := 1) hx hb dgX10_changesOf_13 (by decide) ?_
      refine lv_iadd hx hb dgX10_changesOf_14 ?_
      refine ow_topi (y := nI (i + 1)) (nI_1 (i)) ?_
      refine lv_istore (lv' := [(4, .int (nI (i + 1))), (0, .ref aU), (1, .int a), (2, .int (sm_ch a n i)), (3, .int (nI i))]) hx hb dgX10_changesOf_15 hl (by decide) rfl (fun ls hl => ?_)
      have L17 : ∀ (d2 j : Nat) (r1 : Int32), j + d2 = n → (sm_ch a n (i + 1)) = sm_ch1 a i d2 j r1 → ∀ (H : Heap) (locs : List Loc) (ls : Array Slot), va_P (dC, dI) vwCl [(aU, .inr (13, [.int (nI n), .int pw, .int (nI ln), .int (nI sz), .ref (ux 0), .ref (ux 1), .ref (ux 2), .ref (ux 3), .ref (ux 4), .ref (ux 5), .int (nI cnt)]))] H → va_S (fun _ => False) s.heap H locs → lv_has ls 5 [(0, .ref aU), (1, .int a), (2, .int r1), (3, .int (nI i)), (4, .int (nI j))] → W p l e ({ frames := 1, cells := 0, slots := 0, locals := 40 } : Room) s m ([.ref aU, .int a] : List Value).toArray below meth c H locs 0 0 QQ (F0 m 17 ls []) := by
        intro d2
        induction d2 with
        | zero =>
          intro j r1 hj hq H locs ls hP hS hl
          refine lv_iload hx hb dgX10_changesOf_17 (lv_at hl 4 rfl) ?_
          refine lv_aload_n hx hb dgX10_changesOf_19 rfl (lv_at hl 0 rfl) ?_
          refine va_get (D := (dC, dI)) (ci := 13) (v := .int (nI n)) (C := RX10) (T := TX10) (N := 11) hx hb hts (fun _ h => List.mem_cons_of_mem _ (List.mem_append_left _ (List.mem_append_right _ h))) hown hK hP 0 rfl rfl 0 (by decide) (hts (.fieldLink RX10 38 "KnotHouse$Summit" "strands" "I") (by decide +kernel)) (fun _ h9 => h9) rfl dgX10_changesOf_20 ?_
          refine lv_icmp_ge (tgt := 61) hx hb dgX10_changesOf_23 (by decide) (fun _ => ?_) (fun c9 => absurd (nI_le (a := n) (b := j) (by omega) (by omega)) c9)
          refine lv_iinc (v := nI (i + 1)) (lv' := [(3, .int (nI (i + 1))), (0, .ref aU), (1, .int a), (2, .int r1), (4, .int (nI j))]) hx hb dgX10_changesOf_61 hl (k := 3) rfl (nI_1 i) (by decide) rfl (fun ls hl => ?_)
          refine lv_goto (tgt := 4) hx hb dgX10_changesOf_64 (by decide) ?_
          refine ih (i + 1) (by omega) H locs ls hP hS ?_
          rw [show (sm_ch a n (i + 1)) = r1 from hq]
          exact (lv_sub hl [1, 2, 3, 0] rfl)
        | succ d2 ih2 =>
          intro j r1 hj hq H locs ls hP hS hl
          rw [sm_ch1] at hq
          refine lv_iload hx hb dgX10_changesOf_17 (lv_at hl 4 rfl) ?_
          refine lv_aload_n hx hb dgX10_changesOf_19 rfl (lv_at hl 0 rfl) ?_
          refine va_get (D := (dC, dI)) (ci := 13) (v := .int (nI n)) (C := RX10) (T := TX10) (N := 11) hx hb hts (fun _ h => List.mem_cons_of_mem _ (List.mem_append_left _ (List.mem_append_right _ h))) hown hK hP 0 rfl rfl 0 (by decide) (hts (.fieldLink RX10 38 "KnotHouse$Summit" "strands" "I") (by decide +kernel)) (fun _ h9 => h9) rfl dgX10_changesOf_20 ?_
          refine lv_icmp_ge (tgt := 61) hx hb dgX10_changesOf_23 (by decide) (fun c9 => absurd c9 (nI_ge (a := j) (b := n) (by omega) (by omega))) (fun _ => ?_)
          refine lv_iload_n hx hb dgX10_changesOf_26 rfl (lv_at hl 2 rfl) ?_
          refine lv_iload_n hx hb dgX10_changesOf_27 rfl (lv_at hl 1 rfl) ?_
          refine lv_iload_n hx hb dgX10_changesOf_28 rfl (lv_at hl 3 rfl) ?_
          have hPc := hP.sub (ws' := []) [] rfl
          refine va_calli (va_runS (As := [.int a, .int (nI i)]) (rest := [.int r1]) ⟨hx, hb, hml, hown, hts⟩ (kg_X5_image l dC dI cI cB cJ cZ a (nI i)) (va_cwS 2 hts gg_X10_changesOf_0 rfl rfl rfl (by decide +kernel) ⟨(Nat.le_of_ble_eq_true rfl), (Nat.le_of_ble_eq_true rfl)⟩) ⟨fun a U g mk q => by obtain ⟨q0, qP, qK⟩ := q; exact ⟨q0, qP, va_K.moved (u := U) (U := U.calling g mk a) (Vm.Alike.refl U.vm) qK⟩, fun U hU hW => ⟨rfl, by rw [hU]; exact hPc, va_K.moved hW.alike hK⟩⟩ rfl rfl hl.1 rfl (lv_room (Nat.le_of_ble_eq_true rfl)) dgX10_changesOf_29 ⟨(Nat.le_of_ble_eq_true rfl), (Nat.le_of_ble_eq_true rfl)⟩) hS (fun q _ h => h.elim) (fun q h => h.elim) (fun ra1 un t H1 locs ht hvm hw9 hB hz1 hk1 hS => ?_)
          have hP := hP.kept (fun k9 x9 h9 => hk1 x9.1 ((hP k9 x9 h9).lt) id)
          generalize H1 = H at hP hS ⊢
          obtain rfl : ra1 = f5_im a (nI i) := hw9
          refine lv_iload_n hx hb dgX10_changesOf_32 rfl (lv_at hl 1 rfl) ?_
          refine lv_iload hx hb dgX10_changesOf_33 (lv_at hl 4 rfl) ?_
          have hPc := hP.sub (ws' := []) [] rfl
          refine va_calli (va_runS (As := [.int a, .int (nI j)]) (rest := [.int (f5_im a (nI i)), .int r1]) ⟨hx, hb, hml, hown, hts⟩ (kg_X5_image l dC dI cI cB cJ cZ a (nI j)) (va_cwS 2 hts gg_X10_changesOf_0 rfl rfl rfl (by decide +kernel) ⟨(Nat.le_of_ble_eq_true rfl), (Nat.le_of_ble_eq_true rfl)⟩) ⟨fun a U g mk q => by obtain ⟨q0, qP, qK⟩ := q; exact ⟨q0, qP, va_K.moved (u := U) (U := U.calling g mk a) (Vm.Alike.refl U.vm) qK⟩, fun U hU hW => ⟨rfl, by rw [hU]; exact hPc, va_K.moved hW.alike hK⟩⟩ rfl rfl hl.1 rfl (lv_room (Nat.le_of_ble_eq_true rfl)) dgX10_changesOf_35 ⟨(Nat.le_of_ble_eq_true rfl), (Nat.le_of_ble_eq_true rfl)⟩) hS (fun q _ h => h.elim) (fun q h => h.elim) (fun ra2 un t H1 locs ht hvm hw9 hB hz1 hk1 hS => ?_)
          have hP := hP.kept (fun k9 x9 h9 => hk1 x9.1 ((hP k9 x9 h9).lt) id)
          generalize H1 = H at hP hS ⊢
          obtain rfl : ra2 = f5_im a (nI j) := hw9
          refine lv_icmp_le (tgt := 52) hx hb dgX10_changesOf_38 (by decide) (fun c1 => ?_) (fun c1 => ?_)
          · rw [if_neg (Int32.not_lt.mpr c1)] at hq
            refine lv_iconst (v := 0) hx hb dgX10_changesOf_52 (by decide) ?_
            refine lv_ior hx hb dgX10_changesOf_53 ?_
            refine lv_istore_n (lv' := [(2, .int (r1 ||| 0)), (0, .ref aU), (1, .int a), (3, .int (nI i)), (4, .int (nI j))]) hx hb dgX10_changesOf_54 rfl hl (by decide) rfl (fun ls hl => ?_)
            refine lv_iinc (v := nI (j + 1)) (lv' := [(4, .int (nI (j + 1))), (2, .int (r1 ||| 0)), (0, .ref aU), (1, .int a), (3, .int (nI i))]) hx hb dgX10_changesOf_55 hl (k := 4) rfl (nI_1 j) (by decide) rfl (fun ls hl => ?_)
            refine lv_goto (tgt := 17) hx hb dgX10_changesOf_58 (by decide) ?_
            exact ih2 (j + 1) _ (by omega) hq H locs ls hP hS (lv_sub hl [2, 3, 1, 4, 0] rfl)
          · rw [if_pos (Int32.not_le.mp c1)] at hq
            refine lv_iconst (v := 1) hx hb dgX10_changesOf_41 (by decide) ?_
            refine lv_iconst (v := 4) hx hb dgX10_changesOf_42 (by decide) ?_
            refine lv_iload_n hx hb dgX10_changesOf_43 rfl (lv_at hl 3 rfl) ?_
            refine lv_imul hx hb dgX10_changesOf_44 ?_
            refine lv_iload hx hb dgX10_changesOf_45 (lv_at hl 4 rfl) ?_
            refine lv_iadd hx hb dgX10_changesOf_47 ?_
            refine lv_ishl hx hb dgX10_changesOf_48 ?_
            refine lv_goto (tgt := 53) hx hb dgX10_changesOf_49 (by decide) ?_
            refine lv_ior hx hb dgX10_changesOf_53 ?_
            refine lv_istore_n (lv' := [(2, .int (r1 ||| (1 <<< (((4 * (nI i)) + (nI j)) &&& 31)))), (0, .ref aU), (1, .int a), (3, .int (nI i)), (4, .int (nI j))]) hx hb dgX10_changesOf_54 rfl hl (by decide) rfl (fun ls hl => ?_)
            refine lv_iinc (v := nI (j + 1)) (lv' := [(4, .int (nI (j + 1))), (2, .int (r1 ||| (1 <<< (((4 * (nI i)) + (nI j)) &&& 31)))), (0, .ref aU), (1, .int a), (3, .int (nI i))]) hx hb dgX10_changesOf_55 hl (k := 4) rfl (nI_1 j) (by decide) rfl (fun ls hl => ?_)
            refine lv_goto (tgt := 17) hx hb dgX10_changesOf_58 (by decide) ?_
            exact ih2 (j + 1) _ (by omega) hq H locs ls hP hS (lv_sub hl [2, 3, 1, 4, 0] rfl)
      exact L17 (n - (i + 1)) (i + 1) (sm_ch a n i) (by omega) rfl H locs ls hP hS (lv_sub hl [1, 2, 3, 4, 0] rfl)
  refine lv_iconst (v := 0) hx hb dgX10_changesOf_0 (by decide) ?_
  refine lv_istore_n (lv' := [(2, .int 0), (0, .ref aU), (1, .int a)]) hx hb dgX10_changesOf_1 rfl hl (by decide) rfl (fun ls hl => ?_)
  refine lv_iconst (v := 0) hx hb dgX10_changesOf_2 (by decide) ?_
  refine ow_topi (y := nI 0) (by decide) ?_
  refine lv_istore_n (lv' := [(3, .int (nI 0)), (2, .int 0), (0, .ref aU), (1, .int a)]) hx hb dgX10_changesOf_3 rfl hl (by decide) rfl (fun ls hl => ?_)
  exact L4 n 0 (by omega) s.heap [] ls hP hS (lv_sub hl [2, 3, 1, 0] rfl)
theorem dgX10_goesOn_0 : decode cX10_goesOn 0 = .ok (.iconst 0, 1) := by decide +kernel
theorem dgX10_goesOn_1 : decode cX10_goesOn 1 = .ok (.istore_n 3, 1) := by decide +kernel
theorem dgX10_goesOn_2 : decode cX10_goesOn 2 = .ok (.iload_n 3, 1) := by decide +kernel
theorem dgX10_goesOn_3 : decode cX10_goesOn 3 = .ok (.iload_n 2, 1) := by decide +kernel
theorem dgX10_goesOn_4 : decode cX10_goesOn 4 = .ok (.if_icmp .ge 29, 3) := by decide +kernel
theorem dgX10_goesOn_7 : decode cX10_goesOn 7 = .ok (.aload_n 0, 1) := by decide +kernel
theorem dgX10_goesOn_8 : decode cX10_goesOn 8 = .ok (.getfield 31, 3) := by decide +kernel
theorem dgX10_goesOn_11 : decode cX10_goesOn 11 = .ok (.iload_n 3, 1) := by decide +kernel
theorem dgX10_goesOn_12 : decode cX10_goesOn 12 = .ok (.iaload, 1) := by decide +kernel
theorem dgX10_goesOn_13 : decode cX10_goesOn 13 = .ok (.aload_n 0, 1) := by decide +kernel
theorem dgX10_goesOn_14 : decode cX10_goesOn 14 = .ok (.getfield 28, 3) := by decide +kernel
theorem dgX10_goesOn_17 : decode cX10_goesOn 17 = .ok (.iload_n 1, 1) := by decide +kernel
theorem dgX10_goesOn_18 : decode cX10_goesOn 18 = .ok (.iaload, 1) := by decide +kernel
theorem dgX10_goesOn_19 : decode cX10_goesOn 19 = .ok (.iconst (-1), 1) := by decide +kernel
theorem dgX10_goesOn_20 : decode cX10_goesOn 20 = .ok (.ixor, 1) := by decide +kernel
theorem dgX10_goesOn_21 : decode cX10_goesOn 21 = .ok (.iand, 1) := by decide +kernel
theorem dgX10_goesOn_22 : decode cX10_goesOn 22 = .ok (.ifCond .ne 5, 3) := by decide +kernel
theorem dgX10_goesOn_25 : decode cX10_goesOn 25 = .ok (.iconst 1, 1) := by decide +kernel
theorem dgX10_goesOn_26 : decode cX10_goesOn 26 = .ok (.ireturn, 1) := by decide +kernel
theorem dgX10_goesOn_27 : decode cX10_goesOn 27 = .ok (.iinc 3 1, 3) := by decide +kernel
theorem dgX10_goesOn_30 : decode cX10_goesOn 30 = .ok (.goto (-28), 3) := by decide +kernel
theorem dgX10_goesOn_33 : decode cX10_goesOn 33 = .ok (.iconst 0, 1) := by decide +kernel
theorem dgX10_goesOn_34 : decode cX10_goesOn 34 = .ok (.ireturn, 1) := by decide +kernel
def wg_X10_goesOn : List Cond := .code yX10_goesOn cX10_goesOn 4 (some .boolean) :: (([.fieldLink RX10 31 "KnotHouse$Summit" "stayed" "[I", .fieldLink RX10 28 "KnotHouse$Summit" "changes" "[I"] ++ wsX100) ++ [])
set_option maxHeartbeats 4000000 in
set_option maxRecDepth 100000 in
theorem kg_X10_goesOn (l : Launch) (dC : Nat → ClassId) (dI : Nat → Nat → Nat) (cI cB cJ cZ : ClassId) (aU : Nat) (ux : Nat → Nat) (n : Nat) (pw : Int32) (ln sz cnt : Nat) (CH ST : Nat → Int32) (k z : Nat) (hk : k < 24) (hz : z ≤ 24) : Met l yX10_goesOn wg_X10_goesOn (({ frames := 0, cells := 0, slots := 0, locals := 0 } : Room)) (va_Pc [.ref aU, .int (nI k), .int (nI z)] (fun U => va_P (dC, dI) vwCl [(aU, .inr (13, [.int (nI n), .int pw, .int (nI ln), .int (nI sz), .ref (ux 0), .ref (ux 1), .ref (ux 2), .ref (ux 3), .ref (ux 4), .ref (ux 5), .int (nI cnt)])), ((ux 4), .inl (cI, 24, .inl CH)), ((ux 5), .inl (cI, 24, .inl ST))] U.heap ∧ va_K (dC, dI) vwCl [(cI, .int), (cB, .byte), (cJ, .long), (cZ, .boolean)] U)) (va_Qi (fun r (_ : Unit) => r = bI (sm_go ST (CH k) z 0)) (fun _ _ => True) (fun _ => False)) 0 0 (fun _ => False) := by
  refine Met.ofW (cc := cX10_goesOn) (maxL := 4) (ret := (some .boolean)) (by decide) rfl ?_
  intro p e s m args below meth c s₁ B hml hv
  obtain ⟨rfl, hP, hK⟩ := hv
  have hx := B.exec
  have hb := B.bytes
  have hr := B.returns
  have hts := atoms_spec (ws := wg_X10_goesOn) B.pre
  have hown : s.vm.findClass RX10 = some m.cls := findClass_of_methodNamed B.named
  have hlocks := B.notSynchronized
  have hS : va_S (fun _ => False) s.heap s.heap [] := va_S.rf
  have hP : va_P (dC, dI) vwCl [(aU, .inr (13, [.int (nI n), .int pw, .int (nI ln), .int (nI sz), .ref (ux 0), .ref (ux 1), .ref (ux 2), .ref (ux 3), .ref (ux 4), .ref (ux 5), .int (nI cnt)])), ((ux 4), .inl (cI, 24, .inl CH)), ((ux 5), .inl (cI, 24, .inl ST))] s.heap := hP
  have hl := lv_entry ([.ref aU, .int (nI k), .int (nI z)]) (n := 4) (Nat.le_of_ble_eq_true rfl)
  rw [lg_entry_eq]
  generalize (lg_sl ([.ref aU, .int (nI k), .int (nI z)]) ++ List.replicate (4 - (lg_sl ([.ref aU, .int (nI k), .int (nI z)])).length) Slot.unset).toArray = ls at hl ⊢
  have hl : lv_has ls 4 [(0, .ref aU), (1, .int (nI k)), (2, .int (nI z))] := hl
  refine ow_named (fun QQ hQQ => ?_)
  have L2 : ∀ (d i : Nat), i + d = z → sm_go ST (CH k) z 0 = sm_go ST (CH k) d i → ∀ (H : Heap) (locs : List Loc) (ls : Array Slot), va_P (dC, dI) vwCl [(aU, .inr (13, [.int (nI n), .int pw, .int (nI ln), .int (nI sz), .ref (ux 0), .ref (ux 1), .ref (ux 2), .ref (ux 3), .ref (ux 4), .ref (ux 5), .int (nI cnt)])), ((ux 4), .inl (cI, 24, .inl CH)), ((ux 5), .inl (cI, 24, .inl ST))] H → va_S (fun _ => False) s.heap H locs → lv_has ls 4 [(0, .ref aU), (1, .int (nI k)), (2, .int (nI z)), (3, .int (nI i))] → W p l e ({ frames := 0, cells := 0, slots := 0, locals := 0 } : Room) s m ([.ref aU, .int (nI k), .int (nI z)] : List Value).toArray below meth c H locs 0 0 QQ (F0 m 2 ls []) := by
    intro d
    induction d with
    | zero =>
      intro i hi hq H locs ls hP hS hl
      refine lv_iload_n hx hb dgX10_goesOn_2 rfl (lv_at hl 3 rfl) ?_
      refine lv_iload_n hx hb dgX10_goesOn_3 rfl (lv_at hl 2 rfl) ?_
      refine lv_icmp_ge (tgt := 33) hx hb dgX10_goesOn_4 (by decide) (fun _ => ?_) (fun c9 => absurd (nI_le (a := z) (b := i) (by omega) (by omega)) c9)
      refine lv_iconst (v := 0) hx hb dgX10_goesOn_33 (by decide) ?_
      rw [hQQ]
      exact W.zret (v := 0) (ty := .boolean) hx hb hr rfl (fun t ht hW => ⟨⟨0, (), rfl, by rw [hq]; rfl, trivial⟩, hS.F ht⟩) hS.2.2 dgX10_goesOn_34
    | succ d ih =>
      intro i hi hq H locs ls hP hS hl
      have hq : sm_go ST (CH k) z 0 = (if ST i &&& (CH k ^^^ -1) = 0 then true else sm_go ST (CH k) d (i + 1)) := hq
      refine lv_iload_n hx hb dgX10_goesOn_2 rfl (lv_at hl 3 rfl) ?_
      refine lv_iload_n hx hb dgX10_goesOn_3 rfl (lv_at hl 2 rfl) ?_
      refine lv_icmp_ge (tgt := 33) hx hb dgX10_goesOn_4 (by decide) (fun c9 => absurd c9 (nI_ge (a := i) (b := z) (by omega) (by omega))) (fun _ => ?_)
      refine lv_aload_n hx hb dgX10_goesOn_7 rfl (lv_at hl 0 rfl) ?_
      refine va_get (D := (dC, dI)) (ci := 13) (v := .ref (ux 5)) (C := RX10) (T := TX10) (N := 11) hx hb hts (fun _ h => List.mem_cons_of_mem _ (List.mem_append_left _ (List.mem_append_right _ h))) hown hK hP 0 rfl rfl 9 (by decide) (hts (.fieldLink RX10 31 "KnotHouse$Summit" "stayed" "[I") (by decide +kernel)) (fun _ h9 => h9) rfl dgX10_goesOn_8 ?_
      refine lv_iload_n hx hb dgX10_goesOn_11 rfl (lv_at hl 3 rfl) ?_
      refine va_iald hx hb hK hP 2 0 rfl rfl (vp_in_nI (n := i) (N := 24) (by omega) (by decide)) dgX10_goesOn_12 ?_
      refine ow_topi (y := ST i) (congrArg ST (nI_clamp (n := i) (Nat.lt_trans (m := 24) (by omega) (by decide)))) ?_
      refine lv_aload_n hx hb dgX10_goesOn_13 rfl (lv_at hl 0 rfl) ?_
      refine va_get (D := (dC, dI)) (ci := 13) (v := .ref (ux 4)) (C := RX10) (T := TX10) (N := 11) hx hb hts (fun _ h => List.mem_cons_of_mem _ (List.mem_append_left _ (List.mem_append_right _ h))) hown hK hP 0 rfl rfl 8 (by decide) (hts (.fieldLink RX10 28 "KnotHouse$Summit" "changes" "[I") (by decide +kernel)) (fun _ h9 => h9) rfl dgX10_goesOn_14 ?_
      refine lv_iload_n hx hb dgX10_goesOn_17 rfl (lv_at hl 1 rfl) ?_
      refine va_iald hx hb hK hP 1 0 rfl rfl (vp_in_nI (n := k) (N := 24) hk (by decide)) dgX10_goesOn_18 ?_
      refine ow_topi (y := CH k) (congrArg CH (nI_clamp (n := k) (Nat.lt_trans (m := 24) hk (by decide)))) ?_
      refine lv_iconst (v := (-1)) hx hb dgX10_goesOn_19 (by decide) ?_
      refine lv_ixor hx hb dgX10_goesOn_20 ?_
      refine lv_iand hx hb dgX10_goesOn_21 ?_
      refine lv_if_ne (tgt := 27) hx hb dgX10_goesOn_22 (by decide) (fun c1 => ?_) (fun c1 => ?_)
      · rw [if_neg c1] at hq
        refine lv_iinc (v := nI (i + 1)) (lv' := [(3, .int (nI (i + 1))), (0, .ref aU), (1, .int (nI k)), (2, .int (nI z))]) hx hb dgX10_goesOn_27 hl (k := 3) rfl (nI_1 i) (by decide) rfl (fun ls hl => ?_)
        refine lv_goto (tgt := 2) hx hb dgX10_goesOn_30 (by decide) ?_
        exact ih (i + 1) (by omega) hq H locs ls hP hS (lv_sub hl [1, 2, 3, 0] rfl)
      · rw [if_pos c1] at hq
        refine lv_iconst (v := 1) hx hb dgX10_goesOn_25 (by decide) ?_
        rw [hQQ]
        exact W.zret (v := 1) (ty := .boolean) hx hb hr rfl (fun t ht hW => ⟨⟨1, (), rfl, by rw [hq]; rfl, trivial⟩, hS.F ht⟩) hS.2.2 dgX10_goesOn_26
  refine lv_iconst (v := 0) hx hb dgX10_goesOn_0 (by decide) ?_
  refine ow_topi (y := nI 0) (by decide) ?_
  refine lv_istore_n (lv' := [(3, .int (nI 0)), (0, .ref aU), (1, .int (nI k)), (2, .int (nI z))]) hx hb dgX10_goesOn_1 rfl hl (by decide) rfl (fun ls hl => ?_)
  exact L2 z 0 (by omega) rfl s.heap [] ls hP hS (lv_sub hl [1, 2, 3, 0] rfl)
theorem dgX10_add_0 : decode cX10_add 0 = .ok (.iconst 0, 1) := by decide +kernel
theorem dgX10_add_1 : decode cX10_add 1 = .ok (.istore_n 1, 1) := by decide +kernel
theorem dgX10_add_2 : decode cX10_add 2 = .ok (.aload_n 0, 1) := by decide +kernel
theorem dgX10_add_3 : decode cX10_add 3 = .ok (.getfield 56, 3) := by decide +kernel
theorem dgX10_add_6 : decode cX10_add 6 = .ok (.istore_n 2, 1) := by decide +kernel
theorem dgX10_add_7 : decode cX10_add 7 = .ok (.iconst 0, 1) := by decide +kernel
theorem dgX10_add_8 : decode cX10_add 8 = .ok (.istore_n 3, 1) := by decide +kernel
theorem dgX10_add_9 : decode cX10_add 9 = .ok (.iload_n 3, 1) := by decide +kernel
theorem dgX10_add_10 : decode cX10_add 10 = .ok (.bipush 16, 2) := by decide +kernel
theorem dgX10_add_12 : decode cX10_add 12 = .ok (.if_icmp .ge 71, 3) := by decide +kernel
theorem dgX10_add_15 : decode cX10_add 15 = .ok (.iload_n 1, 1) := by decide +kernel
theorem dgX10_add_16 : decode cX10_add 16 = .ok (.iload_n 2, 1) := by decide +kernel
theorem dgX10_add_17 : decode cX10_add 17 = .ok (.if_icmp .ge 66, 3) := by decide +kernel
theorem dgX10_add_20 : decode cX10_add 20 = .ok (.iload_n 1, 1) := by decide +kernel
theorem dgX10_add_21 : decode cX10_add 21 = .ok (.iload_n 2, 1) := by decide +kernel
theorem dgX10_add_22 : decode cX10_add 22 = .ok (.iadd, 1) := by decide +kernel
theorem dgX10_add_23 : decode cX10_add 23 = .ok (.iconst 1, 1) := by decide +kernel
theorem dgX10_add_24 : decode cX10_add 24 = .ok (.iushr, 1) := by decide +kernel
theorem dgX10_add_25 : decode cX10_add 25 = .ok (.istore 4, 2) := by decide +kernel
theorem dgX10_add_27 : decode cX10_add 27 = .ok (.aload_n 0, 1) := by decide +kernel
theorem dgX10_add_28 : decode cX10_add 28 = .ok (.aload_n 0, 1) := by decide +kernel
theorem dgX10_add_29 : decode cX10_add 29 = .ok (.getfield 11, 3) := by decide +kernel
theorem dgX10_add_32 : decode cX10_add 32 = .ok (.aload_n 0, 1) := by decide +kernel
theorem dgX10_add_33 : decode cX10_add 33 = .ok (.getfield 15, 3) := by decide +kernel
theorem dgX10_add_36 : decode cX10_add 36 = .ok (.iload 4, 2) := by decide +kernel
theorem dgX10_add_38 : decode cX10_add 38 = .ok (.iaload, 1) := by decide +kernel
theorem dgX10_add_39 : decode cX10_add 39 = .ok (.bipush 20, 2) := by decide +kernel
theorem dgX10_add_41 : decode cX10_add 41 = .ok (.imul, 1) := by decide +kernel
theorem dgX10_add_42 : decode cX10_add 42 = .ok (.aload_n 0, 1) := by decide +kernel
theorem dgX10_add_43 : decode cX10_add 43 = .ok (.getfield 21, 3) := by decide +kernel
theorem dgX10_add_46 : decode cX10_add 46 = .ok (.getfield 96, 3) := by decide +kernel
theorem dgX10_add_49 : decode cX10_add 49 = .ok (.iconst 0, 1) := by decide +kernel
theorem dgX10_add_50 : decode cX10_add 50 = .ok (.invokevirtual 109, 3) := by decide +kernel
theorem dgX10_add_53 : decode cX10_add 53 = .ok (.istore 5, 2) := by decide +kernel
theorem dgX10_add_55 : decode cX10_add 55 = .ok (.iload 5, 2) := by decide +kernel
theorem dgX10_add_57 : decode cX10_add 57 = .ok (.ifCond .ne 4, 3) := by decide +kernel
theorem dgX10_add_60 : decode cX10_add 60 = .ok (.return_, 1) := by decide +kernel
theorem dgX10_add_61 : decode cX10_add 61 = .ok (.iload 5, 2) := by decide +kernel
theorem dgX10_add_63 : decode cX10_add 63 = .ok (.ifCond .ge 11, 3) := by decide +kernel
theorem dgX10_add_66 : decode cX10_add 66 = .ok (.iload 4, 2) := by decide +kernel
theorem dgX10_add_68 : decode cX10_add 68 = .ok (.iconst 1, 1) := by decide +kernel
theorem dgX10_add_69 : decode cX10_add 69 = .ok (.iadd, 1) := by decide +kernel
theorem dgX10_add_70 : decode cX10_add 70 = .ok (.istore_n 1, 1) := by decide +kernel
theorem dgX10_add_71 : decode cX10_add 71 = .ok (.goto 6, 3) := by decide +kernel
theorem dgX10_add_74 : decode cX10_add 74 = .ok (.iload 4, 2) := by decide +kernel
theorem dgX10_add_76 : decode cX10_add 76 = .ok (.istore_n 2, 1) := by decide +kernel
theorem dgX10_add_77 : decode cX10_add 77 = .ok (.iinc 3 1, 3) := by decide +kernel
theorem dgX10_add_80 : decode cX10_add 80 = .ok (.goto (-71), 3) := by decide +kernel
theorem dgX10_add_83 : decode cX10_add 83 = .ok (.aload_n 0, 1) := by decide +kernel
theorem dgX10_add_84 : decode cX10_add 84 = .ok (.getfield 56, 3) := by decide +kernel
theorem dgX10_add_87 : decode cX10_add 87 = .ok (.sipush 200, 3) := by decide +kernel
theorem dgX10_add_90 : decode cX10_add 90 = .ok (.if_icmp .gt 12, 3) := by decide +kernel
theorem dgX10_add_93 : decode cX10_add 93 = .ok (.aload_n 0, 1) := by decide +kernel
theorem dgX10_add_94 : decode cX10_add 94 = .ok (.getfield 88, 3) := by decide +kernel
theorem dgX10_add_97 : decode cX10_add 97 = .ok (.bipush 20, 2) := by decide +kernel
theorem dgX10_add_99 : decode cX10_add 99 = .ok (.if_icmp .le 4, 3) := by decide +kernel
theorem dgX10_add_102 : decode cX10_add 102 = .ok (.return_, 1) := by decide +kernel
theorem dgX10_add_103 : decode cX10_add 103 = .ok (.aload_n 0, 1) := by decide +kernel
theorem dgX10_add_104 : decode cX10_add 104 = .ok (.getfield 21, 3) := by decide +kernel
theorem dgX10_add_107 : decode cX10_add 107 = .ok (.getfield 96, 3) := by decide +kernel
theorem dgX10_add_110 : decode cX10_add 110 = .ok (.iconst 0, 1) := by decide +kernel
theorem dgX10_add_111 : decode cX10_add 111 = .ok (.aload_n 0, 1) := by decide +kernel
theorem dgX10_add_112 : decode cX10_add 112 = .ok (.getfield 11, 3) := by decide +kernel
theorem dgX10_add_115 : decode cX10_add 115 = .ok (.aload_n 0, 1) := by decide +kernel
theorem dgX10_add_116 : decode cX10_add 116 = .ok (.getfield 56, 3) := by decide +kernel
theorem dgX10_add_119 : decode cX10_add 119 = .ok (.bipush 20, 2) := by decide +kernel
theorem dgX10_add_121 : decode cX10_add 121 = .ok (.imul, 1) := by decide +kernel
theorem dgX10_add_122 : decode cX10_add 122 = .ok (.aload_n 0, 1) := by decide +kernel
theorem dgX10_add_123 : decode cX10_add 123 = .ok (.getfield 88, 3) := by decide +kernel
theorem dgX10_add_126 : decode cX10_add 126 = .ok (.invokestatic 99, 3) := by decide +kernel
theorem dgX10_add_129 : decode cX10_add 129 = .ok (.aload_n 0, 1) := by decide +kernel
theorem dgX10_add_130 : decode cX10_add 130 = .ok (.getfield 15, 3) := by decide +kernel
theorem dgX10_add_133 : decode cX10_add 133 = .ok (.iload_n 1, 1) := by decide +kernel
theorem dgX10_add_134 : decode cX10_add 134 = .ok (.aload_n 0, 1) := by decide +kernel
theorem dgX10_add_135 : decode cX10_add 135 = .ok (.getfield 15, 3) := by decide +kernel
theorem dgX10_add_138 : decode cX10_add 138 = .ok (.iload_n 1, 1) := by decide +kernel
theorem dgX10_add_139 : decode cX10_add 139 = .ok (.iconst 1, 1) := by decide +kernel
theorem dgX10_add_140 : decode cX10_add 140 = .ok (.iadd, 1) := by decide +kernel
theorem dgX10_add_141 : decode cX10_add 141 = .ok (.aload_n 0, 1) := by decide +kernel
theorem dgX10_add_142 : decode cX10_add 142 = .ok (.getfield 56, 3) := by decide +kernel
theorem dgX10_add_145 : decode cX10_add 145 = .ok (.iload_n 1, 1) := by decide +kernel
theorem dgX10_add_146 : decode cX10_add 146 = .ok (.isub, 1) := by decide +kernel
theorem dgX10_add_147 : decode cX10_add 147 = .ok (.invokestatic 99, 3) := by decide +kernel
theorem dgX10_add_150 : decode cX10_add 150 = .ok (.aload_n 0, 1) := by decide +kernel
theorem dgX10_add_151 : decode cX10_add 151 = .ok (.getfield 15, 3) := by decide +kernel
theorem dgX10_add_154 : decode cX10_add 154 = .ok (.iload_n 1, 1) := by decide +kernel
theorem dgX10_add_155 : decode cX10_add 155 = .ok (.aload_n 0, 1) := by decide +kernel
theorem dgX10_add_156 : decode cX10_add 156 = .ok (.getfield 56, 3) := by decide +kernel
theorem dgX10_add_159 : decode cX10_add 159 = .ok (.iastore, 1) := by decide +kernel
theorem dgX10_add_160 : decode cX10_add 160 = .ok (.aload_n 0, 1) := by decide +kernel
theorem dgX10_add_161 : decode cX10_add 161 = .ok (.dup, 1) := by decide +kernel
theorem dgX10_add_162 : decode cX10_add 162 = .ok (.getfield 56, 3) := by decide +kernel
theorem dgX10_add_165 : decode cX10_add 165 = .ok (.iconst 1, 1) := by decide +kernel
theorem dgX10_add_166 : decode cX10_add 166 = .ok (.iadd, 1) := by decide +kernel
theorem dgX10_add_167 : decode cX10_add 167 = .ok (.putfield 56, 3) := by decide +kernel
theorem dgX10_add_170 : decode cX10_add 170 = .ok (.return_, 1) := by decide +kernel
def wg_X10_add : List Cond := .code yX10_add cX10_add 6 none :: (([.fieldLink RX10 56 "KnotHouse$Summit" "size" "I", .fieldLink RX10 11 "KnotHouse$Summit" "rows" "[I", .fieldLink RX10 15 "KnotHouse$Summit" "order" "[I", .fieldLink RX10 21 "KnotHouse$Summit" "work" "LKnotHouse$Form;", .fieldLink RX10 96 "KnotHouse$Form" "factors" "[I", .fieldLink RX10 88 "KnotHouse$Summit" "length" "I", .methodLink RX10 99 arraycopyName, .native arraycopyName, .static arraycopyName, .initialized "java/lang/System"] ++ wsX100 ++ wsX50) ++ (wsV RX10 109 RX10 yX10_compare wg_X10_compare ++ []))
theorem gg_X10_add_0 : GoodIn wg_X10_add (wsV RX10 109 RX10 yX10_compare wg_X10_compare) := goodIn_sub (fun _ h => List.mem_cons_of_mem _ (List.mem_append_right _ (List.mem_append_left _ h))) (by decide +kernel)
set_option maxHeartbeats 4000000 in
set_option maxRecDepth 100000 in
theorem kg_X10_add (l : Launch) (dC : Nat → ClassId) (dI : Nat → Nat → Nat) (cI cB cJ cZ : ClassId) (aU : Nat) (ux : Nat → Nat) (n n2 fc : Nat) (pw idn den : Int32) (ln cnt : Nat) (M : ow_SM) (hM : sm_ok M ln) (q : ow_FO) (sz : Nat) : Met l yX10_add wg_X10_add (({ frames := 1, cells := 0, slots := 0, locals := 60 } : Room)) (va_Pc [.ref aU] (fun U => U.heap.size = sz ∧ va_P (dC, dI) vwCl [(aU, .inr (13, [.int (nI n), .int pw, .int (nI ln), .int (nI M.1), .ref (ux 0), .ref (ux 1), .ref (ux 2), .ref (ux 3), .ref (ux 4), .ref (ux 5), .int (nI cnt)])), ((ux 0), .inl (cI, 4020, .inl M.2.1)), ((ux 1), .inl (cI, 201, .inl (ow_nI M.2.2))), ((ux 2), .inr (8, [.int (nI n2), .int q.1, .int (nI q.2.1), .ref fc, .int idn, .int den])), (fc, .inl (cI, 24, .inl q.2.2))] U.heap ∧ va_K (dC, dI) vwCl [(cI, .int), (cB, .byte), (cJ, .long), (cZ, .boolean)] U ∧ va_D (fun _ => True) [(aU, .inr (13, [.int (nI n), .int pw, .int (nI ln), .int (nI M.1), .ref (ux 0), .ref (ux 1), .ref (ux 2), .ref (ux 3), .ref (ux 4), .ref (ux 5), .int (nI cnt)])), ((ux 0), .inl (cI, 4020, .inl M.2.1)), ((ux 1), .inl (cI, 201, .inl (ow_nI M.2.2))), ((ux 2), .inr (8, [.int (nI n2), .int q.1, .int (nI q.2.1), .ref fc, .int idn, .int den])), (fc, .inl (cI, 24, .inl q.2.2))])) (va_Qv (fun (g : Unit) => True) (fun g t => va_P (dC, dI) vwCl [(aU, .inr (13, [.int (nI n), .int pw, .int (nI ln), .int (nI ((sm_add M q.2.2 ln).1)), .ref (ux 0), .ref (ux 1), .ref (ux 2), .ref (ux 3), .ref (ux 4), .ref (ux 5), .int (nI cnt)])), ((ux 0), .inl (cI, 4020, .inl ((sm_add M q.2.2 ln).2.1))), ((ux 1), .inl (cI, 201, .inl (ow_nI (sm_add M q.2.2 ln).2.2))), ((ux 2), .inr (8, [.int (nI n2), .int q.1, .int (nI q.2.1), .ref fc, .int idn, .int den])), (fc, .inl (cI, 24, .inl q.2.2))] t.heap ∧ va_D (va_A [(aU, .inr (13, [.int (nI n), .int pw, .int (nI ln), .int (nI M.1), .ref (ux 0), .ref (ux 1), .ref (ux 2), .ref (ux 3), .ref (ux 4), .ref (ux 5), .int (nI cnt)])), ((ux 0), .inl (cI, 4020, .inl M.2.1)), ((ux 1), .inl (cI, 201, .inl (ow_nI M.2.2))), ((ux 2), .inr (8, [.int (nI n2), .int q.1, .int (nI q.2.1), .ref fc, .int idn, .int den])), (fc, .inl (cI, 24, .inl q.2.2))] sz) [(aU, .inr (13, [.int (nI n), .int pw, .int (nI ln), .int (nI ((sm_add M q.2.2 ln).1)), .ref (ux 0), .ref (ux 1), .ref (ux 2), .ref (ux 3), .ref (ux 4), .ref (ux 5), .int (nI cnt)])), ((ux 0), .inl (cI, 4020, .inl ((sm_add M q.2.2 ln).2.1))), ((ux 1), .inl (cI, 201, .inl (ow_nI (sm_add M q.2.2 ln).2.2))), ((ux 2), .inr (8, [.int (nI n2), .int q.1, .int (nI q.2.1), .ref fc, .int idn, .int den])), (fc, .inl (cI, 24, .inl q.2.2))]) (va_A [(aU, .inr (13, [.int (nI n), .int pw, .int (nI ln), .int (nI M.1), .ref (ux 0), .ref (ux 1), .ref (ux 2), .ref (ux 3), .ref (ux 4), .ref (ux 5), .int (nI cnt)])), ((ux 0), .inl (cI, 4020, .inl M.2.1)), ((ux 1), .inl (cI, 201, .inl (ow_nI M.2.2))), ((ux 2), .inr (8, [.int (nI n2), .int q.1, .int (nI q.2.1), .ref fc, .int idn, .int den])), (fc, .inl (cI, 24, .inl q.2.2))] sz)) 0 0 (va_A [(aU, .inr (13, [.int (nI n), .int pw, .int (nI ln), .int (nI M.1), .ref (ux 0), .ref (ux 1), .ref (ux 2), .ref (ux 3), .ref (ux 4), .ref (ux 5), .int (nI cnt)])), ((ux 0), .inl (cI, 4020, .inl M.2.1)), ((ux 1), .inl (cI, 201, .inl (ow_nI M.2.2))), ((ux 2), .inr (8, [.int (nI n2), .int q.1, .int (nI q.2.1), .ref fc, .int idn, .int den])), (fc, .inl (cI, 24, .inl q.2.2))] sz) := by
  refine Met.ofW (cc := cX10_add) (maxL := 6) (ret := none) (by decide) rfl ?_
  intro p e s m args below meth c s₁ B hml hv
  obtain ⟨rfl, hsz, hP, hK, hD0⟩ := hv
  have hx := B.exec
  have hb := B.bytes
  have hr := B.returns
  have hts := atoms_spec (ws := wg_X10_add) B.pre
  have hown : s.vm.findClass RX10 = some m.cls := findClass_of_methodNamed B.named
  have hlocks := B.notSynchronized
  subst hsz
  have hD := hD0.self (sz := s.heap.size)
  generalize hAe : va_A [(aU, .inr (13, [.int (nI n), .int pw, .int (nI ln), .int (nI M.1), .ref (ux 0), .ref (ux 1), .ref (ux 2), .ref (ux 3), .ref (ux 4), .ref (ux 5), .int (nI cnt)])), ((ux 0), .inl (cI, 4020, .inl M.2.1)), ((ux 1), .inl (cI, 201, .inl (ow_nI M.2.2))), ((ux 2), .inr (8, [.int (nI n2), .int q.1, .int (nI q.2.1), .ref fc, .int idn, .int den])), (fc, .inl (cI, 24, .inl q.2.2))] s.heap.size = A at hD ⊢
  have hA : ∀ q : Nat, s.heap.size ≤ q → A q := fun q h => by rw [← hAe]; exact Or.inr h
  have hS : va_S A s.heap s.heap [] := va_S.rf
  have hP : va_P (dC, dI) vwCl [(aU, .inr (13, [.int (nI n), .int pw, .int (nI ln), .int (nI M.1), .ref (ux 0), .ref (ux 1), .ref (ux 2), .ref (ux 3), .ref (ux 4), .ref (ux 5), .int (nI cnt)])), ((ux 0), .inl (cI, 4020, .inl M.2.1)), ((ux 1), .inl (cI, 201, .inl (ow_nI M.2.2))), ((ux 2), .inr (8, [.int (nI n2), .int q.1, .int (nI q.2.1), .ref fc, .int idn, .int den])), (fc, .inl (cI, 24, .inl q.2.2))] s.heap := hP
  have hl := lv_entry ([.ref aU]) (n := 6) (Nat.le_of_ble_eq_true rfl)
  rw [lg_entry_eq]
  generalize (lg_sl ([.ref aU]) ++ List.replicate (6 - (lg_sl ([.ref aU])).length) Slot.unset).toArray = ls at hl ⊢
  have hl : lv_has ls 6 [(0, .ref aU)] := hl
  refine ow_named (fun QQ hQQ => ?_)
  suffices key9 : ∀ (H : Heap) (locs : List Loc), va_P (dC, dI) vwCl [(aU, .inr (13, [.int (nI n), .int pw, .int (nI ln), .int (nI M.1), .ref (ux 0), .ref (ux 1), .ref (ux 2), .ref (ux 3), .ref (ux 4), .ref (ux 5), .int (nI cnt)])), ((ux 0), .inl (cI, 4020, .inl M.2.1)), ((ux 1), .inl (cI, 201, .inl (ow_nI M.2.2))), ((ux 2), .inr (8, [.int (nI n2), .int q.1, .int (nI q.2.1), .ref fc, .int idn, .int den])), (fc, .inl (cI, 24, .inl q.2.2))] H → va_S A s.heap H locs → W p l e ({ frames := 1, cells := 0, slots := 0, locals := 60 } : Room) s m ([.ref aU] : List Value).toArray below meth c H locs 0 0 QQ (F0 m 0 ls []) from key9 s.heap [] hP hS
  intro H locs hP hS
  have hsz := hM.1
  have hln := hM.2.2.2
  have hsr := sm_sr_le M q.2.2 ln
  have K83 : (sm_sr M q.2.2 ln).1 = false → ∀ (H : Heap) (locs : List Loc) (ls : Array Slot), va_P (dC, dI) vwCl [(aU, .inr (13, [.int (nI n), .int pw, .int (nI ln), .int (nI M.1), .ref (ux 0), .ref (ux 1), .ref (ux 2), .ref (ux 3), .ref (ux 4), .ref (ux 5), .int (nI cnt)])), ((ux 0), .inl (cI, 4020, .inl M.2.1)), ((ux 1), .inl (cI, 201, .inl (ow_nI M.2.2))), ((ux 2), .inr (8, [.int (nI n2), .int q.1, .int (nI q.2.1), .ref fc, .int idn, .int den])), (fc, .inl (cI, 24, .inl q.2.2))] H → va_D A [(aU, .inr (13, [.int (nI n), .int pw, .int (nI ln), .int (nI M.1), .ref (ux 0), .ref (ux 1), .ref (ux 2), .ref (ux 3), .ref (ux 4), .ref (ux 5), .int (nI cnt)])), ((ux 0), .inl (cI, 4020, .inl M.2.1)), ((ux 1), .inl (cI, 201, .inl (ow_nI M.2.2))), ((ux 2), .inr (8, [.int (nI n2), .int q.1, .int (nI q.2.1), .ref fc, .int idn, .int den])), (fc, .inl (cI, 24, .inl q.2.2))] → va_S A s.heap H locs → lv_has ls 6 [(0, .ref aU), (1, .int (nI (sm_sr M q.2.2 ln).2))] → W p l e ({ frames := 1, cells := 0, slots := 0, locals := 60 } : Room) s m ([.ref aU] : List Value).toArray below meth c H locs 0 0 QQ (F0 m 83 ls []) := by
    intro hf H locs ls hP hD hS hl
    refine lv_aload_n hx hb dgX10_add_83 rfl (lv_at hl 0 rfl) ?_
    refine va_get (D := (dC, dI)) (ci := 13) (v := .int (nI M.1)) (C := RX10) (T := TX10) (N := 11) hx hb hts (fun _ h => List.mem_cons_of_mem _ (List.mem_append_left _ (List.mem_append_left _ (List.mem_append_right _ h)))) hown hK hP 0 rfl rfl 3 (by decide) (hts (.fieldLink RX10 56 "KnotHouse$Summit" "size" "I") (by decide +kernel)) (fun _ h9 => h9) rfl dgX10_add_84 ?_
    refine lv_sipush (v := 200) hx hb dgX10_add_87 (by decide) ?_
    rcases Nat.lt_or_ge 200 M.1 with h1 | h1
    · refine lv_icmp_gt (tgt := 102) hx hb dgX10_add_90 (by decide) (fun _ => ?_) (fun c9 => absurd (nI_lt (a := 200) (b := M.1) h1 (by omega)) c9)
      have hP : va_P (dC, dI) vwCl [(aU, .inr (13, [.int (nI n), .int pw, .int (nI ln), .int (nI ((sm_add M q.2.2 ln).1)), .ref (ux 0), .ref (ux 1), .ref (ux 2), .ref (ux 3), .ref (ux 4), .ref (ux 5), .int (nI cnt)])), ((ux 0), .inl (cI, 4020, .inl ((sm_add M q.2.2 ln).2.1))), ((ux 1), .inl (cI, 201, .inl (ow_nI (sm_add M q.2.2 ln).2.2))), ((ux 2), .inr (8, [.int (nI n2), .int q.1, .int (nI q.2.1), .ref fc, .int idn, .int den])), (fc, .inl (cI, 24, .inl q.2.2))] H := by rw [show (sm_add M q.2.2 ln) = M from by rw [sm_add, if_neg (by rw [hf]; decide), if_pos (Or.inl h1)]]; exact hP
      have hD : va_D A [(aU, .inr (13, [.int (nI n), .int pw, .int (nI ln), .int (nI ((sm_add M q.2.2 ln).1)), .ref (ux 0), .ref (ux 1), .ref (ux 2), .ref (ux 3), .ref (ux 4), .ref (ux 5), .int (nI cnt)])), ((ux 0), .inl (cI, 4020, .inl ((sm_add M q.2.2 ln).2.1))), ((ux 1), .inl (cI, 201, .inl (ow_nI (sm_add M q.2.2 ln).2.2))), ((ux 2), .inr (8, [.int (nI n2), .int q.1, .int (nI q.2.1), .ref fc, .int idn, .int den])), (fc, .inl (cI, 24, .inl q.2.2))] := by rw [show (sm_add M q.2.2 ln) = M from by rw [sm_add, if_neg (by rw [hf]; decide), if_pos (Or.inl h1)]]; exact hD
      rw [hQQ]
      exact W.vret hx hb hr (fun t ht hW => ⟨⟨(), rfl, trivial, by rw [ht]; exact hP, hD⟩, hS.F ht⟩) hS.2.2 dgX10_add_102
    · refine lv_icmp_gt (tgt := 102) hx hb dgX10_add_90 (by decide) (fun c9 => absurd c9 (nI_nlt (a := 200) (b := M.1) h1 (by omega))) (fun _ => ?_)
      refine lv_aload_n hx hb dgX10_add_93 rfl (lv_at hl 0 rfl) ?_
      refine va_get (D := (dC, dI)) (ci := 13) (v := .int (nI ln)) (C := RX10) (T := TX10) (N := 11) hx hb hts (fun _ h => List.mem_cons_of_mem _ (List.mem_append_left _ (List.mem_append_left _ (List.mem_append_right _ h)))) hown hK hP 0 rfl rfl 2 (by decide) (hts (.fieldLink RX10 88 "KnotHouse$Summit" "length" "I") (by decide +kernel)) (fun _ h9 => h9) rfl dgX10_add_94 ?_
      refine lv_bipush (v := 20) hx hb dgX10_add_97 (by decide) ?_
      rcases Nat.lt_or_ge 20 ln with h2 | h2
      · refine lv_icmp_le (tgt := 103) hx hb dgX10_add_99 (by decide) (fun c9 => absurd c9 (Int32.not_le.mpr (nI_lt (a := 20) (b := ln) h2 (by omega)))) (fun _ => ?_)
        have hP : va_P (dC, dI) vwCl [(aU, .inr (13, [.int (nI n), .int pw, .int (nI ln), .int (nI ((sm_add M q.2.2 ln).1)), .ref (ux 0), .ref (ux 1), .ref (ux 2), .ref (ux 3), .ref (ux 4), .ref (ux 5), .int (nI cnt)])), ((ux 0), .inl (cI, 4020, .inl ((sm_add M q.2.2 ln).2.1))), ((ux 1), .inl (cI, 201, .inl (ow_nI (sm_add M q.2.2 ln).2.2))), ((ux 2), .inr (8, [.int (nI n2), .int q.1, .int (nI q.2.1), .ref fc, .int idn, .int den])), (fc, .inl (cI, 24, .inl q.2.2))] H := by rw [show (sm_add M q.2.2 ln) = M from by rw [sm_add, if_neg (by rw [hf]; decide), if_pos (Or.inr h2)]]; exact hP
        have hD : va_D A [(aU, .inr (13, [.int (nI n), .int pw, .int (nI ln), .int (nI ((sm_add M q.2.2 ln).1)), .ref (ux 0), .ref (ux 1), .ref (ux 2), .ref (ux 3), .ref (ux 4), .ref (ux 5), .int (nI cnt)])), ((ux 0), .inl (cI, 4020, .inl ((sm_add M q.2.2 ln).2.1))), ((ux 1), .inl (cI, 201, .inl (ow_nI (sm_add M q.2.2 ln).2.2))), ((ux 2), .inr (8, [.int (nI n2), .int q.1, .int (nI q.2.1), .ref fc, .int idn, .int den])), (fc, .inl (cI, 24, .inl q.2.2))] := by rw [show (sm_add M q.2.2 ln) = M from by rw [sm_add, if_neg (by rw [hf]; decide), if_pos (Or.inr h2)]]; exact hD
        rw [hQQ]
        exact W.vret hx hb hr (fun t ht hW => ⟨⟨(), rfl, trivial, by rw [ht]; exact hP, hD⟩, hS.F ht⟩) hS.2.2 dgX10_add_102
      · refine lv_icmp_le (tgt := 103) hx hb dgX10_add_99 (by decide) (fun _ => ?_) (fun c9 => absurd (nI_le (a := ln) (b := 20) h2 (by omega)) c9)
        refine lv_aload_n hx hb dgX10_add_103 rfl (lv_at hl 0 rfl) ?_
        refine va_get (D := (dC, dI)) (ci := 13) (v := .ref (ux 2)) (C := RX10) (T := TX10) (N := 11) hx hb hts (fun _ h => List.mem_cons_of_mem _ (List.mem_append_left _ (List.mem_append_left _ (List.mem_append_right _ h)))) hown hK hP 0 rfl rfl 6 (by decide) (hts (.fieldLink RX10 21 "KnotHouse$Summit" "work" "LKnotHouse$Form;") (by decide +kernel)) (fun _ h9 => h9) rfl dgX10_add_104 ?_
        refine va_get (D := (dC, dI)) (ci := 8) (v := .ref fc) (C := RX5) (T := TX5) (N := 6) hx hb hts (fun _ h => List.mem_cons_of_mem _ (List.mem_append_left _ (List.mem_append_right _ h))) hown hK hP 3 rfl rfl 3 (by decide) (hts (.fieldLink RX10 96 "KnotHouse$Form" "factors" "[I") (by decide +kernel)) (fun _ h9 => h9) rfl dgX10_add_107 ?_
        refine lv_iconst (v := 0) hx hb dgX10_add_110 (by decide) ?_
        refine ow_topi (y := nI 0) (by decide) ?_
        refine lv_aload_n hx hb dgX10_add_111 rfl (lv_at hl 0 rfl) ?_
        refine va_get (D := (dC, dI)) (ci := 13) (v := .ref (ux 0)) (C := RX10) (T := TX10) (N := 11) hx hb hts (fun _ h => List.mem_cons_of_mem _ (List.mem_append_left _ (List.mem_append_left _ (List.mem_append_right _ h)))) hown hK hP 0 rfl rfl 4 (by decide) (hts (.fieldLink RX10 11 "KnotHouse$Summit" "rows" "[I") (by decide +kernel)) (fun _ h9 => h9) rfl dgX10_add_112 ?_
        refine lv_aload_n hx hb dgX10_add_115 rfl (lv_at hl 0 rfl) ?_
        refine va_get (D := (dC, dI)) (ci := 13) (v := .int (nI M.1)) (C := RX10) (T := TX10) (N := 11) hx hb hts (fun _ h => List.mem_cons_of_mem _ (List.mem_append_left _ (List.mem_append_left _ (List.mem_append_right _ h)))) hown hK hP 0 rfl rfl 3 (by decide) (hts (.fieldLink RX10 56 "KnotHouse$Summit" "size" "I") (by decide +kernel)) (fun _ h9 => h9) rfl dgX10_add_116 ?_
        refine lv_bipush (v := 20) hx hb dgX10_add_119 (by decide) ?_
        refine lv_imul hx hb dgX10_add_121 ?_
        refine ow_topi (y := nI (20 * M.1)) (by rw [Nat.mul_comm]; exact pk_mul _ 20) ?_
        refine lv_aload_n hx hb dgX10_add_122 rfl (lv_at hl 0 rfl) ?_
        refine va_get (D := (dC, dI)) (ci := 13) (v := .int (nI ln)) (C := RX10) (T := TX10) (N := 11) hx hb hts (fun _ h => List.mem_cons_of_mem _ (List.mem_append_left _ (List.mem_append_left _ (List.mem_append_right _ h)))) hown hK hP 0 rfl rfl 2 (by decide) (hts (.fieldLink RX10 88 "KnotHouse$Summit" "length" "I") (by decide +kernel)) (fun _ h9 => h9) rfl dgX10_add_123 ?_
        refine ow_cpyi (sp := 0) (dp := 20 * M.1) (n := ln) hx hb (by rw [hml]; exact hl.1.symm) hown (hts (.methodLink RX10 99 arraycopyName) (by decide +kernel)) (hts (.native arraycopyName) (by decide +kernel)) (hts (.static arraycopyName) (by decide +kernel)) (hts (.initialized "java/lang/System") (by decide +kernel)) hK hP hD hS 4 1 0 0 rfl rfl rfl rfl (by omega) (by omega) (by decide) (by decide) (Nat.le_of_ble_eq_true rfl) (by decide) dgX10_add_126 (fun H locs hP hD hS => ?_)
        have hP : va_P (dC, dI) vwCl [(aU, .inr (13, [.int (nI n), .int pw, .int (nI ln), .int (nI M.1), .ref (ux 0), .ref (ux 1), .ref (ux 2), .ref (ux 3), .ref (ux 4), .ref (ux 5), .int (nI cnt)])), ((ux 0), .inl (cI, 4020, .inl (va_cpy q.2.2 M.2.1 0 (20 * M.1) ln))), ((ux 1), .inl (cI, 201, .inl (ow_nI M.2.2))), ((ux 2), .inr (8, [.int (nI n2), .int q.1, .int (nI q.2.1), .ref fc, .int idn, .int den])), (fc, .inl (cI, 24, .inl q.2.2))] H := hP
        have hD : va_D A [(aU, .inr (13, [.int (nI n), .int pw, .int (nI ln), .int (nI M.1), .ref (ux 0), .ref (ux 1), .ref (ux 2), .ref (ux 3), .ref (ux 4), .ref (ux 5), .int (nI cnt)])), ((ux 0), .inl (cI, 4020, .inl (va_cpy q.2.2 M.2.1 0 (20 * M.1) ln))), ((ux 1), .inl (cI, 201, .inl (ow_nI M.2.2))), ((ux 2), .inr (8, [.int (nI n2), .int q.1, .int (nI q.2.1), .ref fc, .int idn, .int den])), (fc, .inl (cI, 24, .inl q.2.2))] := hD
        refine lv_aload_n hx hb dgX10_add_129 rfl (lv_at hl 0 rfl) ?_
        refine va_get (D := (dC, dI)) (ci := 13) (v := .ref (ux 1)) (C := RX10) (T := TX10) (N := 11) hx hb hts (fun _ h => List.mem_cons_of_mem _ (List.mem_append_left _ (List.mem_append_left _ (List.mem_append_right _ h)))) hown hK hP 0 rfl rfl 5 (by decide) (hts (.fieldLink RX10 15 "KnotHouse$Summit" "order" "[I") (by decide +kernel)) (fun _ h9 => h9) rfl dgX10_add_130 ?_
        refine lv_iload_n hx hb dgX10_add_133 rfl (lv_at hl 1 rfl) ?_
        refine lv_aload_n hx hb dgX10_add_134 rfl (lv_at hl 0 rfl) ?_
        refine va_get (D := (dC, dI)) (ci := 13) (v := .ref (ux 1)) (C := RX10) (T := TX10) (N := 11) hx hb hts (fun _ h => List.mem_cons_of_mem _ (List.mem_append_left _ (List.mem_append_left _ (List.mem_append_right _ h)))) hown hK hP 0 rfl rfl 5 (by decide) (hts (.fieldLink RX10 15 "KnotHouse$Summit" "order" "[I") (by decide +kernel)) (fun _ h9 => h9) rfl dgX10_add_135 ?_
        refine lv_iload_n hx hb dgX10_add_138 rfl (lv_at hl 1 rfl) ?_
        refine lv_iconst (v := 1) hx hb dgX10_add_139 (by decide) ?_
        refine lv_iadd hx hb dgX10_add_140 ?_
        refine ow_topi (y := nI ((sm_sr M q.2.2 ln).2 + 1)) (nI_1 ((sm_sr M q.2.2 ln).2)) ?_
        refine lv_aload_n hx hb dgX10_add_141 rfl (lv_at hl 0 rfl) ?_
        refine va_get (D := (dC, dI)) (ci := 13) (v := .int (nI M.1)) (C := RX10) (T := TX10) (N := 11) hx hb hts (fun _ h => List.mem_cons_of_mem _ (List.mem_append_left _ (List.mem_append_left _ (List.mem_append_right _ h)))) hown hK hP 0 rfl rfl 3 (by decide) (hts (.fieldLink RX10 56 "KnotHouse$Summit" "size" "I") (by decide +kernel)) (fun _ h9 => h9) rfl dgX10_add_142 ?_
        refine lv_iload_n hx hb dgX10_add_145 rfl (lv_at hl 1 rfl) ?_
        refine lv_isub hx hb dgX10_add_146 ?_
        refine ow_topi (y := nI (M.1 - (sm_sr M q.2.2 ln).2)) (pk_sub hsr) ?_
        refine ow_cpyi (sp := (sm_sr M q.2.2 ln).2) (dp := (sm_sr M q.2.2 ln).2 + 1) (n := M.1 - (sm_sr M q.2.2 ln).2) hx hb (by rw [hml]; exact hl.1.symm) hown (hts (.methodLink RX10 99 arraycopyName) (by decide +kernel)) (hts (.native arraycopyName) (by decide +kernel)) (hts (.static arraycopyName) (by decide +kernel)) (hts (.initialized "java/lang/System") (by decide +kernel)) hK hP hD hS 2 2 0 0 rfl rfl rfl rfl (by omega) (by omega) (by decide) (by decide) (Nat.le_of_ble_eq_true rfl) (by decide) dgX10_add_147 (fun H locs hP hD hS => ?_)
        have hP : va_P (dC, dI) vwCl [(aU, .inr (13, [.int (nI n), .int pw, .int (nI ln), .int (nI M.1), .ref (ux 0), .ref (ux 1), .ref (ux 2), .ref (ux 3), .ref (ux 4), .ref (ux 5), .int (nI cnt)])), ((ux 0), .inl (cI, 4020, .inl (va_cpy q.2.2 M.2.1 0 (20 * M.1) ln))), ((ux 1), .inl (cI, 201, .inl (ow_nI (va_cpy M.2.2 M.2.2 ((sm_sr M q.2.2 ln).2) ((sm_sr M q.2.2 ln).2 + 1) (M.1 - (sm_sr M q.2.2 ln).2))))), ((ux 2), .inr (8, [.int (nI n2), .int q.1, .int (nI q.2.1), .ref fc, .int idn, .int den])), (fc, .inl (cI, 24, .inl q.2.2))] H := by rw [← np_cpyI M.2.2 M.2.2 ((sm_sr M q.2.2 ln).2) ((sm_sr M q.2.2 ln).2 + 1) (M.1 - (sm_sr M q.2.2 ln).2)]; exact hP
        have hD : va_D A [(aU, .inr (13, [.int (nI n), .int pw, .int (nI ln), .int (nI M.1), .ref (ux 0), .ref (ux 1), .ref (ux 2), .ref (ux 3), .ref (ux 4), .ref (ux 5), .int (nI cnt)])), ((ux 0), .inl (cI, 4020, .inl (va_cpy q.2.2 M.2.1 0 (20 * M.1) ln))), ((ux 1), .inl (cI, 201, .inl (ow_nI (va_cpy M.2.2 M.2.2 ((sm_sr M q.2.2 ln).2) ((sm_sr M q.2.2 ln).2 + 1) (M.1 - (sm_sr M q.2.2 ln).2))))), ((ux 2), .inr (8, [.int (nI n2), .int q.1, .int (nI q.2.1), .ref fc, .int idn, .int den])), (fc, .inl (cI, 24, .inl q.2.2))] := by rw [← np_cpyI M.2.2 M.2.2 ((sm_sr M q.2.2 ln).2) ((sm_sr M q.2.2 ln).2 + 1) (M.1 - (sm_sr M q.2.2 ln).2)]; exact hD
        refine lv_aload_n hx hb dgX10_add_150 rfl (lv_at hl 0 rfl) ?_
        refine va_get (D := (dC, dI)) (ci := 13) (v := .ref (ux 1)) (C := RX10) (T := TX10) (N := 11) hx hb hts (fun _ h => List.mem_cons_of_mem _ (List.mem_append_left _ (List.mem_append_left _ (List.mem_append_right _ h)))) hown hK hP 0 rfl rfl 5 (by decide) (hts (.fieldLink RX10 15 "KnotHouse$Summit" "order" "[I") (by decide +kernel)) (fun _ h9 => h9) rfl dgX10_add_151 ?_
        refine lv_iload_n hx hb dgX10_add_154 rfl (lv_at hl 1 rfl) ?_
        refine lv_aload_n hx hb dgX10_add_155 rfl (lv_at hl 0 rfl) ?_
        refine va_get (D := (dC, dI)) (ci := 13) (v := .int (nI M.1)) (C := RX10) (T := TX10) (N := 11) hx hb hts (fun _ h => List.mem_cons_of_mem _ (List.mem_append_left _ (List.mem_append_left _ (List.mem_append_right _ h)))) hown hK hP 0 rfl rfl 3 (by decide) (hts (.fieldLink RX10 56 "KnotHouse$Summit" "size" "I") (by decide +kernel)) (fun _ h9 => h9) rfl dgX10_add_156 ?_
        refine ow_iastN (j := (sm_sr M q.2.2 ln).2) (w := M.1) hx hb hK hP hD hS 2 0 rfl rfl (by omega) (by decide) dgX10_add_159 (fun H locs hP hD hS => ?_)
        have hP : va_P (dC, dI) vwCl [(aU, .inr (13, [.int (nI n), .int pw, .int (nI ln), .int (nI M.1), .ref (ux 0), .ref (ux 1), .ref (ux 2), .ref (ux 3), .ref (ux 4), .ref (ux 5), .int (nI cnt)])), ((ux 0), .inl (cI, 4020, .inl (va_cpy q.2.2 M.2.1 0 (20 * M.1) ln))), ((ux 1), .inl (cI, 201, .inl (ow_nI (nu (va_cpy M.2.2 M.2.2 ((sm_sr M q.2.2 ln).2) ((sm_sr M q.2.2 ln).2 + 1) (M.1 - (sm_sr M q.2.2 ln).2)) ((sm_sr M q.2.2 ln).2) M.1)))), ((ux 2), .inr (8, [.int (nI n2), .int q.1, .int (nI q.2.1), .ref fc, .int idn, .int den])), (fc, .inl (cI, 24, .inl q.2.2))] H := hP
        have hD : va_D A [(aU, .inr (13, [.int (nI n), .int pw, .int (nI ln), .int (nI M.1), .ref (ux 0), .ref (ux 1), .ref (ux 2), .ref (ux 3), .ref (ux 4), .ref (ux 5), .int (nI cnt)])), ((ux 0), .inl (cI, 4020, .inl (va_cpy q.2.2 M.2.1 0 (20 * M.1) ln))), ((ux 1), .inl (cI, 201, .inl (ow_nI (nu (va_cpy M.2.2 M.2.2 ((sm_sr M q.2.2 ln).2) ((sm_sr M q.2.2 ln).2 + 1) (M.1 - (sm_sr M q.2.2 ln).2)) ((sm_sr M q.2.2 ln).2) M.1)))), ((ux 2), .inr (8, [.int (nI n2), .int q.1, .int (nI q.2.1), .ref fc, .int idn, .int den])), (fc, .inl (cI, 24, .inl q.2.2))] := hD
        refine lv_aload_n hx hb dgX10_add_160 rfl (lv_at hl 0 rfl) ?_
        refine lv_dup hx hb dgX10_add_161 rfl ?_
        refine va_get (D := (dC, dI)) (ci := 13) (v := .int (nI M.1)) (C := RX10) (T := TX10) (N := 11) hx hb hts (fun _ h => List.mem_cons_of_mem _ (List.mem_append_left _ (List.mem_append_left _ (List.mem_append_right _ h)))) hown hK hP 0 rfl rfl 3 (by decide) (hts (.fieldLink RX10 56 "KnotHouse$Summit" "size" "I") (by decide +kernel)) (fun _ h9 => h9) rfl dgX10_add_162 ?_
        refine lv_iconst (v := 1) hx hb dgX10_add_165 (by decide) ?_
        refine lv_iadd hx hb dgX10_add_166 ?_
        refine ow_topi (y := nI (M.1 + 1)) (nI_1 (M.1)) ?_
        refine va_put (D := (dC, dI)) (ci := 13) (v := .int (nI (M.1 + 1))) (ty := .int) (C := RX10) (T := TX10) (N := 11) hx hb hts (fun _ h => List.mem_cons_of_mem _ (List.mem_append_left _ (List.mem_append_left _ (List.mem_append_right _ h)))) tyX10 tyX10_ok nmX10 hown hK hP hD hS 0 rfl rfl 3 (by decide) (hts (.fieldLink RX10 56 "KnotHouse$Summit" "size" "I") (by decide +kernel)) (fun _ h9 => h9) rfl (by decide +kernel) rfl rfl (Nat.le_of_ble_eq_true rfl) dgX10_add_167 (fun H locs hP hD hS => ?_)
        have hP : va_P (dC, dI) vwCl [(aU, .inr (13, [.int (nI n), .int pw, .int (nI ln), .int (nI (M.1 + 1)), .ref (ux 0), .ref (ux 1), .ref (ux 2), .ref (ux 3), .ref (ux 4), .ref (ux 5), .int (nI cnt)])), ((ux 0), .inl (cI, 4020, .inl (va_cpy q.2.2 M.2.1 0 (20 * M.1) ln))), ((ux 1), .inl (cI, 201, .inl (ow_nI (nu (va_cpy M.2.2 M.2.2 ((sm_sr M q.2.2 ln).2) ((sm_sr M q.2.2 ln).2 + 1) (M.1 - (sm_sr M q.2.2 ln).2)) ((sm_sr M q.2.2 ln).2) M.1)))), ((ux 2), .inr (8, [.int (nI n2), .int q.1, .int (nI q.2.1), .ref fc, .int idn, .int den])), (fc, .inl (cI, 24, .inl q.2.2))] H := hP
        have hD : va_D A [(aU, .inr (13, [.int (nI n), .int pw, .int (nI ln), .int (nI (M.1 + 1)), .ref (ux 0), .ref (ux 1), .ref (ux 2), .ref (ux 3), .ref (ux 4), .ref (ux 5), .int (nI cnt)])), ((ux 0), .inl (cI, 4020, .inl (va_cpy q.2.2 M.2.1 0 (20 * M.1) ln))), ((ux 1), .inl (cI, 201, .inl (ow_nI (nu (va_cpy M.2.2 M.2.2 ((sm_sr M q.2.2 ln).2) ((sm_sr M q.2.2 ln).2 + 1) (M.1 - (sm_sr M q.2.2 ln).2)) ((sm_sr M q.2.2 ln).2) M.1)))), ((ux 2), .inr (8, [.int (nI n2), .int q.1, .int (nI q.2.1), .ref fc, .int idn, .int den])), (fc, .inl (cI, 24, .inl q.2.2))] := hD
        have hP : va_P (dC, dI) vwCl [(aU, .inr (13, [.int (nI n), .int pw, .int (nI ln), .int (nI ((sm_add M q.2.2 ln).1)), .ref (ux 0), .ref (ux 1), .ref (ux 2), .ref (ux 3), .ref (ux 4), .ref (ux 5), .int (nI cnt)])), ((ux 0), .inl (cI, 4020, .inl ((sm_add M q.2.2 ln).2.1))), ((ux 1), .inl (cI, 201, .inl (ow_nI (sm_add M q.2.2 ln).2.2))), ((ux 2), .inr (8, [.int (nI n2), .int q.1, .int (nI q.2.1), .ref fc, .int idn, .int den])), (fc, .inl (cI, 24, .inl q.2.2))] H := by rw [show (sm_add M q.2.2 ln) = (M.1 + 1, va_cpy q.2.2 M.2.1 0 (20 * M.1) ln, nu (va_cpy M.2.2 M.2.2 (sm_sr M q.2.2 ln).2 ((sm_sr M q.2.2 ln).2 + 1) (M.1 - (sm_sr M q.2.2 ln).2)) (sm_sr M q.2.2 ln).2 M.1) from by rw [sm_add, if_neg (by rw [hf]; decide), if_neg (fun h9 => by omega)]]; exact hP
        have hD : va_D A [(aU, .inr (13, [.int (nI n), .int pw, .int (nI ln), .int (nI ((sm_add M q.2.2 ln).1)), .ref (ux 0), .ref (ux 1), .ref (ux 2), .ref (ux 3), .ref (ux 4), .ref (ux 5), .int (nI cnt)])), ((ux 0), .inl (cI, 4020, .inl ((sm_add M q.2.2 ln).2.1))), ((ux 1), .inl (cI, 201, .inl (ow_nI (sm_add M q.2.2 ln).2.2))), ((ux 2), .inr (8, [.int (nI n2), .int q.1, .int (nI q.2.1), .ref fc, .int idn, .int den])), (fc, .inl (cI, 24, .inl q.2.2))] := by rw [show (sm_add M q.2.2 ln) = (M.1 + 1, va_cpy q.2.2 M.2.1 0 (20 * M.1) ln, nu (va_cpy M.2.2 M.2.2 (sm_sr M q.2.2 ln).2 ((sm_sr M q.2.2 ln).2 + 1) (M.1 - (sm_sr M q.2.2 ln).2)) (sm_sr M q.2.2 ln).2 M.1) from by rw [sm_add, if_neg (by rw [hf]; decide), if_neg (fun h9 => by omega)]]; exact hD
        rw [hQQ]
        exact W.vret hx hb hr (fun t ht hW => ⟨⟨(), rfl, trivial, by rw [ht]; exact hP, hD⟩, hS.F ht⟩) hS.2.2 dgX10_add_170
  have L9 : ∀ (d j lo hi : Nat), j + d = 16 → lo ≤ hi → hi ≤ M.1 → (sm_sr M q.2.2 ln) = cd_srch (sm_at M q.2.2 ln) d lo hi → ∀ (H : Heap) (locs : List Loc) (ls : Array Slot), va_P (dC, dI) vwCl [(aU, .inr (13, [.int (nI n), .int pw, .int (nI ln), .int (nI M.1), .ref (ux 0), .ref (ux 1), .ref (ux 2), .ref (ux 3), .ref (ux 4), .ref (ux 5), .int (nI cnt)])), ((ux 0), .inl (cI, 4020, .inl M.2.1)), ((ux 1), .inl (cI, 201, .inl (ow_nI M.2.2))), ((ux 2), .inr (8, [.int (nI n2), .int q.1, .int (nI q.2.1), .ref fc, .int idn, .int den])), (fc, .inl (cI, 24, .inl q.2.2))] H → va_D A [(aU, .inr (13, [.int (nI n), .int pw, .int (nI ln), .int (nI M.1), .ref (ux 0), .ref (ux 1), .ref (ux 2), .ref (ux 3), .ref (ux 4), .ref (ux 5), .int (nI cnt)])), ((ux 0), .inl (cI, 4020, .inl M.2.1)), ((ux 1), .inl (cI, 201, .inl (ow_nI M.2.2))), ((ux 2), .inr (8, [.int (nI n2), .int q.1, .int (nI q.2.1), .ref fc, .int idn, .int den])), (fc, .inl (cI, 24, .inl q.2.2))] → va_S A s.heap H locs → lv_has ls 6 [(0, .ref aU), (1, .int (nI lo)), (2, .int (nI hi)), (3, .int (nI j))] → W p l e ({ frames := 1, cells := 0, slots := 0, locals := 60 } : Room) s m ([.ref aU] : List Value).toArray below meth c H locs 0 0 QQ (F0 m 9 ls []) := by
    intro d
    induction d with
    | zero =>
      intro j lo hi hj hlh hhz hcd H locs ls hP hD hS hl
      refine lv_iload_n hx hb dgX10_add_9 rfl (lv_at hl 3 rfl) ?_
      refine lv_bipush (v := 16) hx hb dgX10_add_10 (by decide) ?_
      refine lv_icmp_ge (tgt := 83) hx hb dgX10_add_12 (by decide) (fun _ => ?_) (fun c9 => absurd (nI_le (a := 16) (b := j) (by omega) (by omega)) c9)
      have hcd : (sm_sr M q.2.2 ln) = (false, lo) := hcd
      refine K83 (by rw [hcd]) H locs ls hP hD hS ?_
      rw [hcd]
      exact (lv_sub hl [0, 1] rfl)
    | succ d ih =>
      intro j lo hi hj hlh hhz hcd H locs ls hP hD hS hl
      have hcd := hcd.trans (cd_srch_s _ d lo hi)
      rcases Nat.lt_or_ge lo hi with hlt | hge
      · rw [if_pos hlt] at hcd
        generalize hme : (lo + hi) / 2 = mid at hcd
        have hmz : lo ≤ mid ∧ mid < hi := by omega
        have hOm := hM.2.1 mid (by omega)
        have hl20 := hM.2.2.1 (by omega)
        refine lv_iload_n hx hb dgX10_add_9 rfl (lv_at hl 3 rfl) ?_
        refine lv_bipush (v := 16) hx hb dgX10_add_10 (by decide) ?_
        refine lv_icmp_ge (tgt := 83) hx hb dgX10_add_12 (by decide) (fun c9 => absurd c9 (nI_ge (a := j) (b := 16) (by omega) (by omega))) (fun _ => ?_)
        refine lv_iload_n hx hb dgX10_add_15 rfl (lv_at hl 1 rfl) ?_
        refine lv_iload_n hx hb dgX10_add_16 rfl (lv_at hl 2 rfl) ?_
        refine lv_icmp_ge (tgt := 83) hx hb dgX10_add_17 (by decide) (fun c9 => absurd c9 (nI_ge (a := lo) (b := hi) hlt (by omega))) (fun _ => ?_)
        refine lv_iload_n hx hb dgX10_add_20 rfl (lv_at hl 1 rfl) ?_
        refine lv_iload_n hx hb dgX10_add_21 rfl (lv_at hl 2 rfl) ?_
        refine lv_iadd hx hb dgX10_add_22 ?_
        refine ow_topi (y := nI (lo + hi)) (nI_add lo hi) ?_
        refine lv_iconst (v := 1) hx hb dgX10_add_23 (by decide) ?_
        refine lv_iushr hx hb dgX10_add_24 rfl ?_
        refine ow_topi (y := nI mid) ((ow_ushr1 (by omega)).trans (congrArg nI hme)) ?_
        refine lv_istore (lv' := [(4, .int (nI mid)), (0, .ref aU), (1, .int (nI lo)), (2, .int (nI hi)), (3, .int (nI j))]) hx hb dgX10_add_25 hl (by decide) rfl (fun ls hl => ?_)
        refine lv_aload_n hx hb dgX10_add_27 rfl (lv_at hl 1 rfl) ?_
        refine lv_aload_n hx hb dgX10_add_28 rfl (lv_at hl 1 rfl) ?_
        refine va_get (D := (dC, dI)) (ci := 13) (v := .ref (ux 0)) (C := RX10) (T := TX10) (N := 11) hx hb hts (fun _ h => List.mem_cons_of_mem _ (List.mem_append_left _ (List.mem_append_left _ (List.mem_append_right _ h)))) hown hK hP 0 rfl rfl 4 (by decide) (hts (.fieldLink RX10 11 "KnotHouse$Summit" "rows" "[I") (by decide +kernel)) (fun _ h9 => h9) rfl dgX10_add_29 ?_
        refine lv_aload_n hx hb dgX10_add_32 rfl (lv_at hl 1 rfl) ?_
        refine va_get (D := (dC, dI)) (ci := 13) (v := .ref (ux 1)) (C := RX10) (T := TX10) (N := 11) hx hb hts (fun _ h => List.mem_cons_of_mem _ (List.mem_append_left _ (List.mem_append_left _ (List.mem_append_right _ h)))) hown hK hP 0 rfl rfl 5 (by decide) (hts (.fieldLink RX10 15 "KnotHouse$Summit" "order" "[I") (by decide +kernel)) (fun _ h9 => h9) rfl dgX10_add_33 ?_
        refine lv_iload hx hb dgX10_add_36 (lv_at hl 0 rfl) ?_
        refine va_iald hx hb hK hP 2 0 rfl rfl (vp_in_nI (n := mid) (N := 201) (by omega) (by decide)) dgX10_add_38 ?_
        refine ow_topi (y := nI (M.2.2 mid)) (ow_nI_at M.2.2 (Nat.lt_trans (m := 201) (by omega) (by decide))) ?_
        refine lv_bipush (v := 20) hx hb dgX10_add_39 (by decide) ?_
        refine lv_imul hx hb dgX10_add_41 ?_
        refine ow_topi (y := nI (20 * M.2.2 mid)) (by rw [Nat.mul_comm]; exact pk_mul _ 20) ?_
        refine lv_aload_n hx hb dgX10_add_42 rfl (lv_at hl 1 rfl) ?_
        refine va_get (D := (dC, dI)) (ci := 13) (v := .ref (ux 2)) (C := RX10) (T := TX10) (N := 11) hx hb hts (fun _ h => List.mem_cons_of_mem _ (List.mem_append_left _ (List.mem_append_left _ (List.mem_append_right _ h)))) hown hK hP 0 rfl rfl 6 (by decide) (hts (.fieldLink RX10 21 "KnotHouse$Summit" "work" "LKnotHouse$Form;") (by decide +kernel)) (fun _ h9 => h9) rfl dgX10_add_43 ?_
        refine va_get (D := (dC, dI)) (ci := 8) (v := .ref fc) (C := RX5) (T := TX5) (N := 6) hx hb hts (fun _ h => List.mem_cons_of_mem _ (List.mem_append_left _ (List.mem_append_right _ h))) hown hK hP 3 rfl rfl 3 (by decide) (hts (.fieldLink RX10 96 "KnotHouse$Form" "factors" "[I") (by decide +kernel)) (fun _ h9 => h9) rfl dgX10_add_46 ?_
        refine lv_iconst (v := 0) hx hb dgX10_add_49 (by decide) ?_
        refine ow_topi (y := nI 0) (by decide) ?_
        have hPc := hP.sub (ws' := [(aU, .inr (13, [.int (nI n), .int pw, .int (nI ln), .int (nI M.1), .ref (ux 0), .ref (ux 1), .ref (ux 2), .ref (ux 3), .ref (ux 4), .ref (ux 5), .int (nI cnt)])), ((ux 0), .inl (cI, 4020, .inl M.2.1)), (fc, .inl (cI, 24, .inl q.2.2))]) [0, 1, 4] rfl
        refine va_calli (va_runV (As := [.ref (ux 0), .int (nI (20 * M.2.2 mid)), .ref fc, .int (nI 0)]) (rest := []) ⟨hx, hb, hml, hown, hts⟩ (kg_X10_compare l dC dI cI cB cJ cZ aU ux (nI n) pw ln M.1 cnt (ux 0) fc 4020 24 M.2.1 q.2.2 (20 * M.2.2 mid) 0 (by omega) (by omega) (by decide) (by decide)) (cwV 4 hts gg_X10_add_0 rfl rfl rfl (by decide +kernel) ⟨(Nat.le_of_ble_eq_true rfl), (Nat.le_of_ble_eq_true rfl)⟩) ⟨fun a U g mk q => by obtain ⟨q0, qP, qK⟩ := q; exact ⟨q0, qP, va_K.moved (u := U) (U := U.calling g mk a) (Vm.Alike.refl U.vm) qK⟩, va_recv hK hPc (ci := 13) (q0 := 0) rfl rfl, fun U hU hW => ⟨rfl, by rw [hU]; exact hPc, va_K.moved hW.alike hK⟩⟩ rfl rfl hl.1 rfl (lv_room (Nat.le_of_ble_eq_true rfl)) dgX10_add_50 ⟨(Nat.le_of_ble_eq_true rfl), (Nat.le_of_ble_eq_true rfl)⟩) hS (fun q _ h => h.elim) (fun q h => h.elim) (fun rc9 un t H1 locs ht hvm hw9 hB hz1 hk1 hS => ?_)
        have hP := hP.kept (fun k9 x9 h9 => hk1 x9.1 ((hP k9 x9 h9).lt) id)
        generalize H1 = H at hP hS ⊢
        have hr9 : rc9 = (sm_at M q.2.2 ln) mid := hw9
        rw [← hr9] at hcd
        refine lv_istore (lv' := [(5, .int rc9), (4, .int (nI mid)), (0, .ref aU), (1, .int (nI lo)), (2, .int (nI hi)), (3, .int (nI j))]) hx hb dgX10_add_53 hl (by decide) rfl (fun ls hl => ?_)
        refine lv_iload hx hb dgX10_add_55 (lv_at hl 0 rfl) ?_
        refine lv_if_ne (tgt := 61) hx hb dgX10_add_57 (by decide) (fun c1 => ?_) (fun c1 => ?_)
        · rw [if_neg c1] at hcd
          refine lv_iload hx hb dgX10_add_61 (lv_at hl 0 rfl) ?_
          refine lv_if_ge (tgt := 74) hx hb dgX10_add_63 (by decide) (fun c2 => ?_) (fun c2 => ?_)
          · rw [if_neg (Int32.not_lt.mpr c2)] at hcd
            refine lv_iload hx hb dgX10_add_74 (lv_at hl 1 rfl) ?_
            refine lv_istore_n (lv' := [(2, .int (nI mid)), (5, .int rc9), (4, .int (nI mid)), (0, .ref aU), (1, .int (nI lo)), (3, .int (nI j))]) hx hb dgX10_add_76 rfl hl (by decide) rfl (fun ls hl => ?_)
            refine lv_iinc (v := nI (j + 1)) (lv' := [(3, .int (nI (j + 1))), (2, .int (nI mid)), (5, .int rc9), (4, .int (nI mid)), (0, .ref aU), (1, .int (nI lo))]) hx hb dgX10_add_77 hl (k := 5) rfl (nI_1 j) (by decide) rfl (fun ls hl => ?_)
            refine lv_goto (tgt := 9) hx hb dgX10_add_80 (by decide) ?_
            exact ih (j + 1) lo mid (by omega) (by omega) (by omega) hcd H locs ls hP hD hS (lv_sub hl [4, 5, 1, 0] rfl)
          · rw [if_pos (Int32.not_le.mp c2)] at hcd
            refine lv_iload hx hb dgX10_add_66 (lv_at hl 1 rfl) ?_
            refine lv_iconst (v := 1) hx hb dgX10_add_68 (by decide) ?_
            refine lv_iadd hx hb dgX10_add_69 ?_
            refine ow_topi (y := nI (mid + 1)) (nI_1 mid) ?_
            refine lv_istore_n (lv' := [(1, .int (nI (mid + 1))), (5, .int rc9), (4, .int (nI mid)), (0, .ref aU), (2, .int (nI hi)), (3, .int (nI j))]) hx hb dgX10_add_70 rfl hl (by decide) rfl (fun ls hl => ?_)
            refine lv_goto (tgt := 77) hx hb dgX10_add_71 (by decide) ?_
            refine lv_iinc (v := nI (j + 1)) (lv' := [(3, .int (nI (j + 1))), (1, .int (nI (mid + 1))), (5, .int rc9), (4, .int (nI mid)), (0, .ref aU), (2, .int (nI hi))]) hx hb dgX10_add_77 hl (k := 5) rfl (nI_1 j) (by decide) rfl (fun ls hl => ?_)
            refine lv_goto (tgt := 9) hx hb dgX10_add_80 (by decide) ?_
            exact ih (j + 1) (mid + 1) hi (by omega) (by omega) (by omega) hcd H locs ls hP hD hS (lv_sub hl [4, 1, 5, 0] rfl)
        · rw [if_pos c1] at hcd
          have hP : va_P (dC, dI) vwCl [(aU, .inr (13, [.int (nI n), .int pw, .int (nI ln), .int (nI ((sm_add M q.2.2 ln).1)), .ref (ux 0), .ref (ux 1), .ref (ux 2), .ref (ux 3), .ref (ux 4), .ref (ux 5), .int (nI cnt)])), ((ux 0), .inl (cI, 4020, .inl ((sm_add M q.2.2 ln).2.1))), ((ux 1), .inl (cI, 201, .inl (ow_nI (sm_add M q.2.2 ln).2.2))), ((ux 2), .inr (8, [.int (nI n2), .int q.1, .int (nI q.2.1), .ref fc, .int idn, .int den])), (fc, .inl (cI, 24, .inl q.2.2))] H := by rw [show (sm_add M q.2.2 ln) = M from if_pos (by rw [hcd])]; exact hP
          have hD : va_D A [(aU, .inr (13, [.int (nI n), .int pw, .int (nI ln), .int (nI ((sm_add M q.2.2 ln).1)), .ref (ux 0), .ref (ux 1), .ref (ux 2), .ref (ux 3), .ref (ux 4), .ref (ux 5), .int (nI cnt)])), ((ux 0), .inl (cI, 4020, .inl ((sm_add M q.2.2 ln).2.1))), ((ux 1), .inl (cI, 201, .inl (ow_nI (sm_add M q.2.2 ln).2.2))), ((ux 2), .inr (8, [.int (nI n2), .int q.1, .int (nI q.2.1), .ref fc, .int idn, .int den])), (fc, .inl (cI, 24, .inl q.2.2))] := by rw [show (sm_add M q.2.2 ln) = M from if_pos (by rw [hcd])]; exact hD
          rw [hQQ]
          exact W.vret hx hb hr (fun t ht hW => ⟨⟨(), rfl, trivial, by rw [ht]; exact hP, hD⟩, hS.F ht⟩) hS.2.2 dgX10_add_60
      · rw [if_neg (by omega)] at hcd
        refine lv_iload_n hx hb dgX10_add_9 rfl (lv_at hl 3 rfl) ?_
        refine lv_bipush (v := 16) hx hb dgX10_add_10 (by decide) ?_
        refine lv_icmp_ge (tgt := 83) hx hb dgX10_add_12 (by decide) (fun c9 => absurd c9 (nI_ge (a := j) (b := 16) (by omega) (by omega))) (fun _ => ?_)
        refine lv_iload_n hx hb dgX10_add_15 rfl (lv_at hl 1 rfl) ?_
        refine lv_iload_n hx hb dgX10_add_16 rfl (lv_at hl 2 rfl) ?_
        refine lv_icmp_ge (tgt := 83) hx hb dgX10_add_17 (by decide) (fun _ => ?_) (fun c9 => absurd (nI_le (a := hi) (b := lo) hge (by omega)) c9)
        have hcd : (sm_sr M q.2.2 ln) = (false, lo) := hcd
        refine K83 (by rw [hcd]) H locs ls hP hD hS ?_
        rw [hcd]
        exact (lv_sub hl [0, 1] rfl)
  refine lv_iconst (v := 0) hx hb dgX10_add_0 (by decide) ?_
  refine ow_topi (y := nI 0) (by decide) ?_
  refine lv_istore_n (lv' := [(1, .int (nI 0)), (0, .ref aU)]) hx hb dgX10_add_1 rfl hl (by decide) rfl (fun ls hl => ?_)
  refine lv_aload_n hx hb dgX10_add_2 rfl (lv_at hl 1 rfl) ?_
  refine va_get (D := (dC, dI)) (ci := 13) (v := .int (nI M.1)) (C := RX10) (T := TX10) (N := 11) hx hb hts (fun _ h => List.mem_cons_of_mem _ (List.mem_append_left _ (List.mem_append_left _ (List.mem_append_right _ h)))) hown hK hP 0 rfl rfl 3 (by decide) (hts (.fieldLink RX10 56 "KnotHouse$Summit" "size" "I") (by decide +kernel)) (fun _ h9 => h9) rfl dgX10_add_3 ?_
  refine lv_istore_n (lv' := [(2, .int (nI M.1)), (1, .int (nI 0)), (0, .ref aU)]) hx hb dgX10_add_6 rfl hl (by decide) rfl (fun ls hl => ?_)
  refine lv_iconst (v := 0) hx hb dgX10_add_7 (by decide) ?_
  refine ow_topi (y := nI 0) (by decide) ?_
  refine lv_istore_n (lv' := [(3, .int (nI 0)), (2, .int (nI M.1)), (1, .int (nI 0)), (0, .ref aU)]) hx hb dgX10_add_8 rfl hl (by decide) rfl (fun ls hl => ?_)
  exact L9 16 0 0 M.1 (by omega) (by omega) (Nat.le_refl _) rfl H locs ls hP hD hS (lv_sub hl [3, 2, 1, 0] rfl)
theorem dgX10_begin_0 : decode cX10_begin 0 = .ok (.aload_n 0, 1) := by decide +kernel
theorem dgX10_begin_1 : decode cX10_begin 1 = .ok (.aload_n 0, 1) := by decide +kernel
theorem dgX10_begin_2 : decode cX10_begin 2 = .ok (.getfield 21, 3) := by decide +kernel
theorem dgX10_begin_5 : decode cX10_begin 5 = .ok (.getfield 75, 3) := by decide +kernel
theorem dgX10_begin_8 : decode cX10_begin 8 = .ok (.putfield 87, 3) := by decide +kernel
theorem dgX10_begin_11 : decode cX10_begin 11 = .ok (.aload_n 0, 1) := by decide +kernel
theorem dgX10_begin_12 : decode cX10_begin 12 = .ok (.aload_n 0, 1) := by decide +kernel
theorem dgX10_begin_13 : decode cX10_begin 13 = .ok (.getfield 21, 3) := by decide +kernel
theorem dgX10_begin_16 : decode cX10_begin 16 = .ok (.getfield 81, 3) := by decide +kernel
theorem dgX10_begin_19 : decode cX10_begin 19 = .ok (.putfield 88, 3) := by decide +kernel
theorem dgX10_begin_22 : decode cX10_begin 22 = .ok (.aload_n 0, 1) := by decide +kernel
theorem dgX10_begin_23 : decode cX10_begin 23 = .ok (.iconst 0, 1) := by decide +kernel
theorem dgX10_begin_24 : decode cX10_begin 24 = .ok (.putfield 56, 3) := by decide +kernel
theorem dgX10_begin_27 : decode cX10_begin 27 = .ok (.aload_n 0, 1) := by decide +kernel
theorem dgX10_begin_28 : decode cX10_begin 28 = .ok (.invokevirtual 89, 3) := by decide +kernel
theorem dgX10_begin_31 : decode cX10_begin 31 = .ok (.return_, 1) := by decide +kernel
def wg_X10_begin : List Cond := .code yX10_begin cX10_begin 1 none :: (([.fieldLink RX10 21 "KnotHouse$Summit" "work" "LKnotHouse$Form;", .fieldLink RX10 75 "KnotHouse$Form" "power" "I", .fieldLink RX10 87 "KnotHouse$Summit" "power" "I", .fieldLink RX10 81 "KnotHouse$Form" "length" "I", .fieldLink RX10 88 "KnotHouse$Summit" "length" "I", .fieldLink RX10 56 "KnotHouse$Summit" "size" "I"] ++ wsX100 ++ wsX50) ++ (wsV RX10 89 RX10 yX10_add wg_X10_add ++ []))
theorem gg_X10_begin_0 : GoodIn wg_X10_begin (wsV RX10 89 RX10 yX10_add wg_X10_add) := goodIn_sub (fun _ h => List.mem_cons_of_mem _ (List.mem_append_right _ (List.mem_append_left _ h))) (by decide +kernel)
set_option maxHeartbeats 4000000 in
set_option maxRecDepth 100000 in
theorem kg_X10_begin (l : Launch) (dC : Nat → ClassId) (dI : Nat → Nat → Nat) (cI cB cJ cZ : ClassId) (aU : Nat) (ux : Nat → Nat) (n n2 fc : Nat) (pw idn den : Int32) (ln cnt : Nat) (M : ow_SM) (q : ow_FO) (hq : q.2.1 ≤ 24) (sz : Nat) : Met l yX10_begin wg_X10_begin (({ frames := 2, cells := 0, slots := 0, locals := 100 } : Room)) (va_Pc [.ref aU] (fun U => U.heap.size = sz ∧ va_P (dC, dI) vwCl [(aU, .inr (13, [.int (nI n), .int pw, .int (nI ln), .int (nI M.1), .ref (ux 0), .ref (ux 1), .ref (ux 2), .ref (ux 3), .ref (ux 4), .ref (ux 5), .int (nI cnt)])), ((ux 0), .inl (cI, 4020, .inl M.2.1)), ((ux 1), .inl (cI, 201, .inl (ow_nI M.2.2))), ((ux 2), .inr (8, [.int (nI n2), .int q.1, .int (nI q.2.1), .ref fc, .int idn, .int den])), (fc, .inl (cI, 24, .inl q.2.2))] U.heap ∧ va_K (dC, dI) vwCl [(cI, .int), (cB, .byte), (cJ, .long), (cZ, .boolean)] U ∧ va_D (fun _ => True) [(aU, .inr (13, [.int (nI n), .int pw, .int (nI ln), .int (nI M.1), .ref (ux 0), .ref (ux 1), .ref (ux 2), .ref (ux 3), .ref (ux 4), .ref (ux 5), .int (nI cnt)])), ((ux 0), .inl (cI, 4020, .inl M.2.1)), ((ux 1), .inl (cI, 201, .inl (ow_nI M.2.2))), ((ux 2), .inr (8, [.int (nI n2), .int q.1, .int (nI q.2.1), .ref fc, .int idn, .int den])), (fc, .inl (cI, 24, .inl q.2.2))])) (va_Qv (fun (g : Unit) => True) (fun g t => va_P (dC, dI) vwCl [(aU, .inr (13, [.int (nI n), .int q.1, .int (nI q.2.1), .int (nI ((sm_add (0, M.2.1, M.2.2) q.2.2 q.2.1).1)), .ref (ux 0), .ref (ux 1), .ref (ux 2), .ref (ux 3), .ref (ux 4), .ref (ux 5), .int (nI cnt)])), ((ux 0), .inl (cI, 4020, .inl ((sm_add (0, M.2.1, M.2.2) q.2.2 q.2.1).2.1))), ((ux 1), .inl (cI, 201, .inl (ow_nI (sm_add (0, M.2.1, M.2.2) q.2.2 q.2.1).2.2))), ((ux 2), .inr (8, [.int (nI n2), .int q.1, .int (nI q.2.1), .ref fc, .int idn, .int den])), (fc, .inl (cI, 24, .inl q.2.2))] t.heap ∧ va_D (va_A [(aU, .inr (13, [.int (nI n), .int pw, .int (nI ln), .int (nI M.1), .ref (ux 0), .ref (ux 1), .ref (ux 2), .ref (ux 3), .ref (ux 4), .ref (ux 5), .int (nI cnt)])), ((ux 0), .inl (cI, 4020, .inl M.2.1)), ((ux 1), .inl (cI, 201, .inl (ow_nI M.2.2))), ((ux 2), .inr (8, [.int (nI n2), .int q.1, .int (nI q.2.1), .ref fc, .int idn, .int den])), (fc, .inl (cI, 24, .inl q.2.2))] sz) [(aU, .inr (13, [.int (nI n), .int q.1, .int (nI q.2.1), .int (nI ((sm_add (0, M.2.1, M.2.2) q.2.2 q.2.1).1)), .ref (ux 0), .ref (ux 1), .ref (ux 2), .ref (ux 3), .ref (ux 4), .ref (ux 5), .int (nI cnt)])), ((ux 0), .inl (cI, 4020, .inl ((sm_add (0, M.2.1, M.2.2) q.2.2 q.2.1).2.1))), ((ux 1), .inl (cI, 201, .inl (ow_nI (sm_add (0, M.2.1, M.2.2) q.2.2 q.2.1).2.2))), ((ux 2), .inr (8, [.int (nI n2), .int q.1, .int (nI q.2.1), .ref fc, .int idn, .int den])), (fc, .inl (cI, 24, .inl q.2.2))]) (va_A [(aU, .inr (13, [.int (nI n), .int pw, .int (nI ln), .int (nI M.1), .ref (ux 0), .ref (ux 1), .ref (ux 2), .ref (ux 3), .ref (ux 4), .ref (ux 5), .int (nI cnt)])), ((ux 0), .inl (cI, 4020, .inl M.2.1)), ((ux 1), .inl (cI, 201, .inl (ow_nI M.2.2))), ((ux 2), .inr (8, [.int (nI n2), .int q.1, .int (nI q.2.1), .ref fc, .int idn, .int den])), (fc, .inl (cI, 24, .inl q.2.2))] sz)) 0 0 (va_A [(aU, .inr (13, [.int (nI n), .int pw, .int (nI ln), .int (nI M.1), .ref (ux 0), .ref (ux 1), .ref (ux 2), .ref (ux 3), .ref (ux 4), .ref (ux 5), .int (nI cnt)])), ((ux 0), .inl (cI, 4020, .inl M.2.1)), ((ux 1), .inl (cI, 201, .inl (ow_nI M.2.2))), ((ux 2), .inr (8, [.int (nI n2), .int q.1, .int (nI q.2.1), .ref fc, .int idn, .int den])), (fc, .inl (cI, 24, .inl q.2.2))] sz) := by
  refine Met.ofW (cc := cX10_begin) (maxL := 1) (ret := none) (by decide) rfl ?_
  intro p e s m args below meth c s₁ B hml hv
  obtain ⟨rfl, hsz, hP, hK, hD0⟩ := hv
  have hx := B.exec
  have hb := B.bytes
  have hr := B.returns
  have hts := atoms_spec (ws := wg_X10_begin) B.pre
  have hown : s.vm.findClass RX10 = some m.cls := findClass_of_methodNamed B.named
  have hlocks := B.notSynchronized
  subst hsz
  have hD := hD0.self (sz := s.heap.size)
  generalize hAe : va_A [(aU, .inr (13, [.int (nI n), .int pw, .int (nI ln), .int (nI M.1), .ref (ux 0), .ref (ux 1), .ref (ux 2), .ref (ux 3), .ref (ux 4), .ref (ux 5), .int (nI cnt)])), ((ux 0), .inl (cI, 4020, .inl M.2.1)), ((ux 1), .inl (cI, 201, .inl (ow_nI M.2.2))), ((ux 2), .inr (8, [.int (nI n2), .int q.1, .int (nI q.2.1), .ref fc, .int idn, .int den])), (fc, .inl (cI, 24, .inl q.2.2))] s.heap.size = A at hD ⊢
  have hA : ∀ q : Nat, s.heap.size ≤ q → A q := fun q h => by rw [← hAe]; exact Or.inr h
  have hS : va_S A s.heap s.heap [] := va_S.rf
  have hP : va_P (dC, dI) vwCl [(aU, .inr (13, [.int (nI n), .int pw, .int (nI ln), .int (nI M.1), .ref (ux 0), .ref (ux 1), .ref (ux 2), .ref (ux 3), .ref (ux 4), .ref (ux 5), .int (nI cnt)])), ((ux 0), .inl (cI, 4020, .inl M.2.1)), ((ux 1), .inl (cI, 201, .inl (ow_nI M.2.2))), ((ux 2), .inr (8, [.int (nI n2), .int q.1, .int (nI q.2.1), .ref fc, .int idn, .int den])), (fc, .inl (cI, 24, .inl q.2.2))] s.heap := hP
  have hl := lv_entry ([.ref aU]) (n := 1) (Nat.le_of_ble_eq_true rfl)
  rw [lg_entry_eq]
  generalize (lg_sl ([.ref aU]) ++ List.replicate (1 - (lg_sl ([.ref aU])).length) Slot.unset).toArray = ls at hl ⊢
  have hl : lv_has ls 1 [(0, .ref aU)] := hl
  refine ow_named (fun QQ hQQ => ?_)
  suffices key9 : ∀ (H : Heap) (locs : List Loc), va_P (dC, dI) vwCl [(aU, .inr (13, [.int (nI n), .int pw, .int (nI ln), .int (nI M.1), .ref (ux 0), .ref (ux 1), .ref (ux 2), .ref (ux 3), .ref (ux 4), .ref (ux 5), .int (nI cnt)])), ((ux 0), .inl (cI, 4020, .inl M.2.1)), ((ux 1), .inl (cI, 201, .inl (ow_nI M.2.2))), ((ux 2), .inr (8, [.int (nI n2), .int q.1, .int (nI q.2.1), .ref fc, .int idn, .int den])), (fc, .inl (cI, 24, .inl q.2.2))] H → va_S A s.heap H locs → W p l e ({ frames := 2, cells := 0, slots := 0, locals := 100 } : Room) s m ([.ref aU] : List Value).toArray below meth c H locs 0 0 QQ (F0 m 0 ls []) from key9 s.heap [] hP hS
  intro H locs hP hS
  refine lv_aload_n hx hb dgX10_begin_0 rfl (lv_at hl 0 rfl) ?_
  refine lv_aload_n hx hb dgX10_begin_1 rfl (lv_at hl 0 rfl) ?_
  refine va_get (D := (dC, dI)) (ci := 13) (v := .ref (ux 2)) (C := RX10) (T := TX10) (N := 11) hx hb hts (fun _ h => List.mem_cons_of_mem _ (List.mem_append_left _ (List.mem_append_left _ (List.mem_append_right _ h)))) hown hK hP 0 rfl rfl 6 (by decide) (hts (.fieldLink RX10 21 "KnotHouse$Summit" "work" "LKnotHouse$Form;") (by decide +kernel)) (fun _ h9 => h9) rfl dgX10_begin_2 ?_
  refine va_get (D := (dC, dI)) (ci := 8) (v := .int q.1) (C := RX5) (T := TX5) (N := 6) hx hb hts (fun _ h => List.mem_cons_of_mem _ (List.mem_append_left _ (List.mem_append_right _ h))) hown hK hP 3 rfl rfl 1 (by decide) (hts (.fieldLink RX10 75 "KnotHouse$Form" "power" "I") (by decide +kernel)) (fun _ h9 => h9) rfl dgX10_begin_5 ?_
  refine va_put (D := (dC, dI)) (ci := 13) (v := .int q.1) (ty := .int) (C := RX10) (T := TX10) (N := 11) hx hb hts (fun _ h => List.mem_cons_of_mem _ (List.mem_append_left _ (List.mem_append_left _ (List.mem_append_right _ h)))) tyX10 tyX10_ok nmX10 hown hK hP hD hS 0 rfl rfl 1 (by decide) (hts (.fieldLink RX10 87 "KnotHouse$Summit" "power" "I") (by decide +kernel)) (fun _ h9 => h9) rfl (by decide +kernel) rfl rfl (Nat.le_of_ble_eq_true rfl) dgX10_begin_8 (fun H locs hP hD hS => ?_)
  have hP : va_P (dC, dI) vwCl [(aU, .inr (13, [.int (nI n), .int q.1, .int (nI ln), .int (nI M.1), .ref (ux 0), .ref (ux 1), .ref (ux 2), .ref (ux 3), .ref (ux 4), .ref (ux 5), .int (nI cnt)])), ((ux 0), .inl (cI, 4020, .inl M.2.1)), ((ux 1), .inl (cI, 201, .inl (ow_nI M.2.2))), ((ux 2), .inr (8, [.int (nI n2), .int q.1, .int (nI q.2.1), .ref fc, .int idn, .int den])), (fc, .inl (cI, 24, .inl q.2.2))] H := hP
  have hD : va_D A [(aU, .inr (13, [.int (nI n), .int q.1, .int (nI ln), .int (nI M.1), .ref (ux 0), .ref (ux 1), .ref (ux 2), .ref (ux 3), .ref (ux 4), .ref (ux 5), .int (nI cnt)])), ((ux 0), .inl (cI, 4020, .inl M.2.1)), ((ux 1), .inl (cI, 201, .inl (ow_nI M.2.2))), ((ux 2), .inr (8, [.int (nI n2), .int q.1, .int (nI q.2.1), .ref fc, .int idn, .int den])), (fc, .inl (cI, 24, .inl q.2.2))] := hD
  refine lv_aload_n hx hb dgX10_begin_11 rfl (lv_at hl 0 rfl) ?_
  refine lv_aload_n hx hb dgX10_begin_12 rfl (lv_at hl 0 rfl) ?_
  refine va_get (D := (dC, dI)) (ci := 13) (v := .ref (ux 2)) (C := RX10) (T := TX10) (N := 11) hx hb hts (fun _ h => List.mem_cons_of_mem _ (List.mem_append_left _ (List.mem_append_left _ (List.mem_append_right _ h)))) hown hK hP 0 rfl rfl 6 (by decide) (hts (.fieldLink RX10 21 "KnotHouse$Summit" "work" "LKnotHouse$Form;") (by decide +kernel)) (fun _ h9 => h9) rfl dgX10_begin_13 ?_
  refine va_get (D := (dC, dI)) (ci := 8) (v := .int (nI q.2.1)) (C := RX5) (T := TX5) (N := 6) hx hb hts (fun _ h => List.mem_cons_of_mem _ (List.mem_append_left _ (List.mem_append_right _ h))) hown hK hP 3 rfl rfl 2 (by decide) (hts (.fieldLink RX10 81 "KnotHouse$Form" "length" "I") (by decide +kernel)) (fun _ h9 => h9) rfl dgX10_begin_16 ?_
  refine va_put (D := (dC, dI)) (ci := 13) (v := .int (nI q.2.1)) (ty := .int) (C := RX10) (T := TX10) (N := 11) hx hb hts (fun _ h => List.mem_cons_of_mem _ (List.mem_append_left _ (List.mem_append_left _ (List.mem_append_right _ h)))) tyX10 tyX10_ok nmX10 hown hK hP hD hS 0 rfl rfl 2 (by decide) (hts (.fieldLink RX10 88 "KnotHouse$Summit" "length" "I") (by decide +kernel)) (fun _ h9 => h9) rfl (by decide +kernel) rfl rfl (Nat.le_of_ble_eq_true rfl) dgX10_begin_19 (fun H locs hP hD hS => ?_)
  have hP : va_P (dC, dI) vwCl [(aU, .inr (13, [.int (nI n), .int q.1, .int (nI q.2.1), .int (nI M.1), .ref (ux 0), .ref (ux 1), .ref (ux 2), .ref (ux 3), .ref (ux 4), .ref (ux 5), .int (nI cnt)])), ((ux 0), .inl (cI, 4020, .inl M.2.1)), ((ux 1), .inl (cI, 201, .inl (ow_nI M.2.2))), ((ux 2), .inr (8, [.int (nI n2), .int q.1, .int (nI q.2.1), .ref fc, .int idn, .int den])), (fc, .inl (cI, 24, .inl q.2.2))] H := hP
  have hD : va_D A [(aU, .inr (13, [.int (nI n), .int q.1, .int (nI q.2.1), .int (nI M.1), .ref (ux 0), .ref (ux 1), .ref (ux 2), .ref (ux 3), .ref (ux 4), .ref (ux 5), .int (nI cnt)])), ((ux 0), .inl (cI, 4020, .inl M.2.1)), ((ux 1), .inl (cI, 201, .inl (ow_nI M.2.2))), ((ux 2), .inr (8, [.int (nI n2), .int q.1, .int (nI q.2.1), .ref fc, .int idn, .int den])), (fc, .inl (cI, 24, .inl q.2.2))] := hD
  refine lv_aload_n hx hb dgX10_begin_22 rfl (lv_at hl 0 rfl) ?_
  refine lv_iconst (v := 0) hx hb dgX10_begin_23 (by decide) ?_
  refine ow_topi (y := nI 0) (by decide) ?_
  refine va_put (D := (dC, dI)) (ci := 13) (v := .int (nI 0)) (ty := .int) (C := RX10) (T := TX10) (N := 11) hx hb hts (fun _ h => List.mem_cons_of_mem _ (List.mem_append_left _ (List.mem_append_left _ (List.mem_append_right _ h)))) tyX10 tyX10_ok nmX10 hown hK hP hD hS 0 rfl rfl 3 (by decide) (hts (.fieldLink RX10 56 "KnotHouse$Summit" "size" "I") (by decide +kernel)) (fun _ h9 => h9) rfl (by decide +kernel) rfl rfl (Nat.le_of_ble_eq_true rfl) dgX10_begin_24 (fun H locs hP hD hS => ?_)
  have hP : va_P (dC, dI) vwCl [(aU, .inr (13, [.int (nI n), .int q.1, .int (nI q.2.1), .int (nI 0), .ref (ux 0), .ref (ux 1), .ref (ux 2), .ref (ux 3), .ref (ux 4), .ref (ux 5), .int (nI cnt)])), ((ux 0), .inl (cI, 4020, .inl M.2.1)), ((ux 1), .inl (cI, 201, .inl (ow_nI M.2.2))), ((ux 2), .inr (8, [.int (nI n2), .int q.1, .int (nI q.2.1), .ref fc, .int idn, .int den])), (fc, .inl (cI, 24, .inl q.2.2))] H := hP
  have hD : va_D A [(aU, .inr (13, [.int (nI n), .int q.1, .int (nI q.2.1), .int (nI 0), .ref (ux 0), .ref (ux 1), .ref (ux 2), .ref (ux 3), .ref (ux 4), .ref (ux 5), .int (nI cnt)])), ((ux 0), .inl (cI, 4020, .inl M.2.1)), ((ux 1), .inl (cI, 201, .inl (ow_nI M.2.2))), ((ux 2), .inr (8, [.int (nI n2), .int q.1, .int (nI q.2.1), .ref fc, .int idn, .int den])), (fc, .inl (cI, 24, .inl q.2.2))] := hD
  refine lv_aload_n hx hb dgX10_begin_27 rfl (lv_at hl 0 rfl) ?_
  have hP : va_P (dC, dI) vwCl [(aU, .inr (13, [.int (nI n), .int q.1, .int (nI q.2.1), .int (nI ((0, M.2.1, M.2.2).1)), .ref (ux 0), .ref (ux 1), .ref (ux 2), .ref (ux 3), .ref (ux 4), .ref (ux 5), .int (nI cnt)])), ((ux 0), .inl (cI, 4020, .inl ((0, M.2.1, M.2.2).2.1))), ((ux 1), .inl (cI, 201, .inl (ow_nI (0, M.2.1, M.2.2).2.2))), ((ux 2), .inr (8, [.int (nI n2), .int q.1, .int (nI q.2.1), .ref fc, .int idn, .int den])), (fc, .inl (cI, 24, .inl q.2.2))] H := hP
  have hD : va_D A [(aU, .inr (13, [.int (nI n), .int q.1, .int (nI q.2.1), .int (nI ((0, M.2.1, M.2.2).1)), .ref (ux 0), .ref (ux 1), .ref (ux 2), .ref (ux 3), .ref (ux 4), .ref (ux 5), .int (nI cnt)])), ((ux 0), .inl (cI, 4020, .inl ((0, M.2.1, M.2.2).2.1))), ((ux 1), .inl (cI, 201, .inl (ow_nI (0, M.2.1, M.2.2).2.2))), ((ux 2), .inr (8, [.int (nI n2), .int q.1, .int (nI q.2.1), .ref fc, .int idn, .int den])), (fc, .inl (cI, 24, .inl q.2.2))] := hD
  have hPc := hP.sub (ws' := [(aU, .inr (13, [.int (nI n), .int q.1, .int (nI q.2.1), .int (nI ((0, M.2.1, M.2.2).1)), .ref (ux 0), .ref (ux 1), .ref (ux 2), .ref (ux 3), .ref (ux 4), .ref (ux 5), .int (nI cnt)])), ((ux 0), .inl (cI, 4020, .inl ((0, M.2.1, M.2.2).2.1))), ((ux 1), .inl (cI, 201, .inl (ow_nI (0, M.2.1, M.2.2).2.2))), ((ux 2), .inr (8, [.int (nI n2), .int q.1, .int (nI q.2.1), .ref fc, .int idn, .int den])), (fc, .inl (cI, 24, .inl q.2.2))]) [0, 1, 2, 3, 4] rfl
  have hDc := hD.sub (ws' := [(aU, .inr (13, [.int (nI n), .int q.1, .int (nI q.2.1), .int (nI ((0, M.2.1, M.2.2).1)), .ref (ux 0), .ref (ux 1), .ref (ux 2), .ref (ux 3), .ref (ux 4), .ref (ux 5), .int (nI cnt)])), ((ux 0), .inl (cI, 4020, .inl ((0, M.2.1, M.2.2).2.1))), ((ux 1), .inl (cI, 201, .inl (ow_nI (0, M.2.1, M.2.2).2.2))), ((ux 2), .inr (8, [.int (nI n2), .int q.1, .int (nI q.2.1), .ref fc, .int idn, .int den])), (fc, .inl (cI, 24, .inl q.2.2))]) [0, 1, 2, 3, 4] (by decide) rfl
  have hFc := va_free (wc := [(aU, .inr (13, [.int (nI n), .int q.1, .int (nI q.2.1), .int (nI ((0, M.2.1, M.2.2).1)), .ref (ux 0), .ref (ux 1), .ref (ux 2), .ref (ux 3), .ref (ux 4), .ref (ux 5), .int (nI cnt)])), ((ux 0), .inl (cI, 4020, .inl ((0, M.2.1, M.2.2).2.1))), ((ux 1), .inl (cI, 201, .inl (ow_nI (0, M.2.1, M.2.2).2.2))), ((ux 2), .inr (8, [.int (nI n2), .int q.1, .int (nI q.2.1), .ref fc, .int idn, .int den])), (fc, .inl (cI, 24, .inl q.2.2))]) hD hS hA [0, 1, 2, 3, 4] rfl
  refine va_callv (va_runV (As := []) (rest := []) ⟨hx, hb, hml, hown, hts⟩ (kg_X10_add l dC dI cI cB cJ cZ aU ux n n2 fc q.1 idn den q.2.1 cnt (0, M.2.1, M.2.2) ⟨Nat.zero_le _, fun k9 h9 => absurd h9 (Nat.not_lt_zero k9), fun h9 => absurd h9 (Nat.lt_irrefl 0), hq⟩ q H.size) (cwV 0 hts gg_X10_begin_0 rfl rfl rfl (by decide +kernel) ⟨(Nat.le_of_ble_eq_true rfl), (Nat.le_of_ble_eq_true rfl)⟩) ⟨fun a U g mk q => by obtain ⟨q0, q1, qP, qK, qD⟩ := q; exact ⟨q0, q1, qP, va_K.moved (u := U) (U := U.calling g mk a) (Vm.Alike.refl U.vm) qK, qD⟩, va_recv hK hPc (ci := 13) (q0 := 0) rfl rfl, fun U hU hW => ⟨rfl, by rw [hU], by rw [hU]; exact hPc, va_K.moved hW.alike hK, hDc.weaken (fun _ _ _ _ => trivial)⟩⟩ rfl rfl hl.1 rfl (lv_room (Nat.le_of_ble_eq_true rfl)) dgX10_begin_28 ⟨(Nat.le_of_ble_eq_true rfl), (Nat.le_of_ble_eq_true rfl)⟩) hS (fun q _ h => hFc q h) hFc (fun u9 t H1 locs ht hvm hw hB hz1 hk1 hS => ?_)
  obtain ⟨hP1, hD1⟩ := hB
  rw [ht] at hP1
  obtain ⟨hP, hD⟩ := va_join (wr := []) (w1 := [(aU, .inr (13, [.int (nI n), .int q.1, .int (nI q.2.1), .int (nI ((sm_add (0, M.2.1, M.2.2) q.2.2 q.2.1).1)), .ref (ux 0), .ref (ux 1), .ref (ux 2), .ref (ux 3), .ref (ux 4), .ref (ux 5), .int (nI cnt)])), ((ux 0), .inl (cI, 4020, .inl ((sm_add (0, M.2.1, M.2.2) q.2.2 q.2.1).2.1))), ((ux 1), .inl (cI, 201, .inl (ow_nI (sm_add (0, M.2.1, M.2.2) q.2.2 q.2.1).2.2))), ((ux 2), .inr (8, [.int (nI n2), .int q.1, .int (nI q.2.1), .ref fc, .int idn, .int den])), (fc, .inl (cI, 24, .inl q.2.2))]) hP hD [0, 1, 2, 3, 4] [] rfl rfl (by decide) (by decide) hk1 hFc hP1 hD1
  generalize H1 = H at hP hS ⊢
  have hP : va_P (dC, dI) vwCl [(aU, .inr (13, [.int (nI n), .int q.1, .int (nI q.2.1), .int (nI ((sm_add (0, M.2.1, M.2.2) q.2.2 q.2.1).1)), .ref (ux 0), .ref (ux 1), .ref (ux 2), .ref (ux 3), .ref (ux 4), .ref (ux 5), .int (nI cnt)])), ((ux 0), .inl (cI, 4020, .inl ((sm_add (0, M.2.1, M.2.2) q.2.2 q.2.1).2.1))), ((ux 1), .inl (cI, 201, .inl (ow_nI (sm_add (0, M.2.1, M.2.2) q.2.2 q.2.1).2.2))), ((ux 2), .inr (8, [.int (nI n2), .int q.1, .int (nI q.2.1), .ref fc, .int idn, .int den])), (fc, .inl (cI, 24, .inl q.2.2))] H := hP
  have hD : va_D A [(aU, .inr (13, [.int (nI n), .int q.1, .int (nI q.2.1), .int (nI ((sm_add (0, M.2.1, M.2.2) q.2.2 q.2.1).1)), .ref (ux 0), .ref (ux 1), .ref (ux 2), .ref (ux 3), .ref (ux 4), .ref (ux 5), .int (nI cnt)])), ((ux 0), .inl (cI, 4020, .inl ((sm_add (0, M.2.1, M.2.2) q.2.2 q.2.1).2.1))), ((ux 1), .inl (cI, 201, .inl (ow_nI (sm_add (0, M.2.1, M.2.2) q.2.2 q.2.1).2.2))), ((ux 2), .inr (8, [.int (nI n2), .int q.1, .int (nI q.2.1), .ref fc, .int idn, .int den])), (fc, .inl (cI, 24, .inl q.2.2))] := hD
  rw [hQQ]
  exact W.vret hx hb hr (fun t ht hW => ⟨⟨(), rfl, trivial, by rw [ht]; exact hP, hD⟩, hS.F ht⟩) hS.2.2 dgX10_begin_31
theorem dgX10_climb_0 : decode cX10_climb 0 = .ok (.iconst 0, 1) := by decide +kernel
theorem dgX10_climb_1 : decode cX10_climb 1 = .ok (.istore_n 1, 1) := by decide +kernel
theorem dgX10_climb_2 : decode cX10_climb 2 = .ok (.iconst 0, 1) := by decide +kernel
theorem dgX10_climb_3 : decode cX10_climb 3 = .ok (.istore_n 2, 1) := by decide +kernel
theorem dgX10_climb_4 : decode cX10_climb 4 = .ok (.iload_n 2, 1) := by decide +kernel
theorem dgX10_climb_5 : decode cX10_climb 5 = .ok (.sipush 2000, 3) := by decide +kernel
theorem dgX10_climb_8 : decode cX10_climb 8 = .ok (.if_icmp .ge 49, 3) := by decide +kernel
theorem dgX10_climb_11 : decode cX10_climb 11 = .ok (.iload_n 1, 1) := by decide +kernel
theorem dgX10_climb_12 : decode cX10_climb 12 = .ok (.bipush 30, 2) := by decide +kernel
theorem dgX10_climb_14 : decode cX10_climb 14 = .ok (.if_icmp .ge 43, 3) := by decide +kernel
theorem dgX10_climb_17 : decode cX10_climb 17 = .ok (.aload_n 0, 1) := by decide +kernel
theorem dgX10_climb_18 : decode cX10_climb 18 = .ok (.getfield 21, 3) := by decide +kernel
theorem dgX10_climb_21 : decode cX10_climb 21 = .ok (.getfield 75, 3) := by decide +kernel
theorem dgX10_climb_24 : decode cX10_climb 24 = .ok (.istore_n 3, 1) := by decide +kernel
theorem dgX10_climb_25 : decode cX10_climb 25 = .ok (.aload_n 0, 1) := by decide +kernel
theorem dgX10_climb_26 : decode cX10_climb 26 = .ok (.getfield 21, 3) := by decide +kernel
theorem dgX10_climb_29 : decode cX10_climb 29 = .ok (.invokevirtual 78, 3) := by decide +kernel
theorem dgX10_climb_32 : decode cX10_climb 32 = .ok (.aload_n 0, 1) := by decide +kernel
theorem dgX10_climb_33 : decode cX10_climb 33 = .ok (.getfield 21, 3) := by decide +kernel
theorem dgX10_climb_36 : decode cX10_climb 36 = .ok (.getfield 75, 3) := by decide +kernel
theorem dgX10_climb_39 : decode cX10_climb 39 = .ok (.iload_n 3, 1) := by decide +kernel
theorem dgX10_climb_40 : decode cX10_climb 40 = .ok (.if_icmp .le 7, 3) := by decide +kernel
theorem dgX10_climb_43 : decode cX10_climb 43 = .ok (.iconst 0, 1) := by decide +kernel
theorem dgX10_climb_44 : decode cX10_climb 44 = .ok (.goto 6, 3) := by decide +kernel
theorem dgX10_climb_47 : decode cX10_climb 47 = .ok (.iload_n 1, 1) := by decide +kernel
theorem dgX10_climb_48 : decode cX10_climb 48 = .ok (.iconst 1, 1) := by decide +kernel
theorem dgX10_climb_49 : decode cX10_climb 49 = .ok (.iadd, 1) := by decide +kernel
theorem dgX10_climb_50 : decode cX10_climb 50 = .ok (.istore_n 1, 1) := by decide +kernel
theorem dgX10_climb_51 : decode cX10_climb 51 = .ok (.iinc 2 1, 3) := by decide +kernel
theorem dgX10_climb_54 : decode cX10_climb 54 = .ok (.goto (-50), 3) := by decide +kernel
theorem dgX10_climb_57 : decode cX10_climb 57 = .ok (.iconst 0, 1) := by decide +kernel
theorem dgX10_climb_58 : decode cX10_climb 58 = .ok (.istore_n 1, 1) := by decide +kernel
theorem dgX10_climb_59 : decode cX10_climb 59 = .ok (.iconst 0, 1) := by decide +kernel
theorem dgX10_climb_60 : decode cX10_climb 60 = .ok (.istore_n 2, 1) := by decide +kernel
theorem dgX10_climb_61 : decode cX10_climb 61 = .ok (.iload_n 2, 1) := by decide +kernel
theorem dgX10_climb_62 : decode cX10_climb 62 = .ok (.sipush 2000, 3) := by decide +kernel
theorem dgX10_climb_65 : decode cX10_climb 65 = .ok (.if_icmp .ge 65, 3) := by decide +kernel
theorem dgX10_climb_68 : decode cX10_climb 68 = .ok (.iload_n 1, 1) := by decide +kernel
theorem dgX10_climb_69 : decode cX10_climb 69 = .ok (.bipush 30, 2) := by decide +kernel
theorem dgX10_climb_71 : decode cX10_climb 71 = .ok (.if_icmp .ge 59, 3) := by decide +kernel
theorem dgX10_climb_74 : decode cX10_climb 74 = .ok (.aload_n 0, 1) := by decide +kernel
theorem dgX10_climb_75 : decode cX10_climb 75 = .ok (.getfield 21, 3) := by decide +kernel
theorem dgX10_climb_78 : decode cX10_climb 78 = .ok (.getfield 75, 3) := by decide +kernel
theorem dgX10_climb_81 : decode cX10_climb 81 = .ok (.aload_n 0, 1) := by decide +kernel
theorem dgX10_climb_82 : decode cX10_climb 82 = .ok (.getfield 21, 3) := by decide +kernel
theorem dgX10_climb_85 : decode cX10_climb 85 = .ok (.getfield 81, 3) := by decide +kernel
theorem dgX10_climb_88 : decode cX10_climb 88 = .ok (.iadd, 1) := by decide +kernel
theorem dgX10_climb_89 : decode cX10_climb 89 = .ok (.istore_n 3, 1) := by decide +kernel
theorem dgX10_climb_90 : decode cX10_climb 90 = .ok (.aload_n 0, 1) := by decide +kernel
theorem dgX10_climb_91 : decode cX10_climb 91 = .ok (.getfield 21, 3) := by decide +kernel
theorem dgX10_climb_94 : decode cX10_climb 94 = .ok (.invokevirtual 84, 3) := by decide +kernel
theorem dgX10_climb_97 : decode cX10_climb 97 = .ok (.aload_n 0, 1) := by decide +kernel
theorem dgX10_climb_98 : decode cX10_climb 98 = .ok (.getfield 21, 3) := by decide +kernel
theorem dgX10_climb_101 : decode cX10_climb 101 = .ok (.getfield 75, 3) := by decide +kernel
theorem dgX10_climb_104 : decode cX10_climb 104 = .ok (.aload_n 0, 1) := by decide +kernel
theorem dgX10_climb_105 : decode cX10_climb 105 = .ok (.getfield 21, 3) := by decide +kernel
theorem dgX10_climb_108 : decode cX10_climb 108 = .ok (.getfield 81, 3) := by decide +kernel
theorem dgX10_climb_111 : decode cX10_climb 111 = .ok (.iadd, 1) := by decide +kernel
theorem dgX10_climb_112 : decode cX10_climb 112 = .ok (.iload_n 3, 1) := by decide +kernel
theorem dgX10_climb_113 : decode cX10_climb 113 = .ok (.if_icmp .ge 7, 3) := by decide +kernel
theorem dgX10_climb_116 : decode cX10_climb 116 = .ok (.iconst 0, 1) := by decide +kernel
theorem dgX10_climb_117 : decode cX10_climb 117 = .ok (.goto 6, 3) := by decide +kernel
theorem dgX10_climb_120 : decode cX10_climb 120 = .ok (.iload_n 1, 1) := by decide +kernel
theorem dgX10_climb_121 : decode cX10_climb 121 = .ok (.iconst 1, 1) := by decide +kernel
theorem dgX10_climb_122 : decode cX10_climb 122 = .ok (.iadd, 1) := by decide +kernel
theorem dgX10_climb_123 : decode cX10_climb 123 = .ok (.istore_n 1, 1) := by decide +kernel
theorem dgX10_climb_124 : decode cX10_climb 124 = .ok (.iinc 2 1, 3) := by decide +kernel
theorem dgX10_climb_127 : decode cX10_climb 127 = .ok (.goto (-66), 3) := by decide +kernel
theorem dgX10_climb_130 : decode cX10_climb 130 = .ok (.return_, 1) := by decide +kernel
def wg_X10_climb : List Cond := .code yX10_climb cX10_climb 4 none :: (([.fieldLink RX10 21 "KnotHouse$Summit" "work" "LKnotHouse$Form;", .fieldLink RX10 75 "KnotHouse$Form" "power" "I", .fieldLink RX10 81 "KnotHouse$Form" "length" "I"] ++ wsX100 ++ wsX50) ++ (wsV RX10 78 RX5 yX5_cycle wg_X5_cycle ++ (wsV RX10 84 RX5 yX5_decycle wg_X5_decycle ++ [])))
theorem gg_X10_climb_0 : GoodIn wg_X10_climb (wsV RX10 78 RX5 yX5_cycle wg_X5_cycle) := goodIn_sub (fun _ h => List.mem_cons_of_mem _ (List.mem_append_right _ (List.mem_append_left _ h))) (by decide +kernel)
theorem gg_X10_climb_1 : GoodIn wg_X10_climb (wsV RX10 84 RX5 yX5_decycle wg_X5_decycle) := goodIn_sub (fun _ h => List.mem_cons_of_mem _ (List.mem_append_right _ (List.mem_append_right _ (List.mem_append_left _ h)))) (by decide +kernel)
set_option maxHeartbeats 4000000 in
set_option maxRecDepth 100000 in
theorem kg_X10_climb (l : Launch) (dC : Nat → ClassId) (dI : Nat → Nat → Nat) (cI cB cJ cZ : ClassId) (aU : Nat) (ux : Nat → Nat) (n fc : Nat) (hn1 : 1 ≤ n) (hn9 : n < 100) (pw idn den : Int32) (ln z9 cnt : Nat) (q : ow_FO) (hq : q.2.1 ≤ 24) (sz : Nat) : Met l yX10_climb wg_X10_climb (({ frames := 5, cells := 0, slots := 0, locals := 230 } : Room)) (va_Pc [.ref aU] (fun U => U.heap.size = sz ∧ va_P (dC, dI) vwCl [(aU, .inr (13, [.int (nI n), .int pw, .int (nI ln), .int (nI z9), .ref (ux 0), .ref (ux 1), .ref (ux 2), .ref (ux 3), .ref (ux 4), .ref (ux 5), .int (nI cnt)])), ((ux 2), .inr (8, [.int (nI n), .int q.1, .int (nI q.2.1), .ref fc, .int idn, .int den])), (fc, .inl (cI, 24, .inl q.2.2))] U.heap ∧ va_K (dC, dI) vwCl [(cI, .int), (cB, .byte), (cJ, .long), (cZ, .boolean)] U ∧ va_D (fun _ => True) [(aU, .inr (13, [.int (nI n), .int pw, .int (nI ln), .int (nI z9), .ref (ux 0), .ref (ux 1), .ref (ux 2), .ref (ux 3), .ref (ux 4), .ref (ux 5), .int (nI cnt)])), ((ux 2), .inr (8, [.int (nI n), .int q.1, .int (nI q.2.1), .ref fc, .int idn, .int den])), (fc, .inl (cI, 24, .inl q.2.2))])) (va_Qv (fun (g : Unit) => True) (fun g t => va_P (dC, dI) vwCl [(aU, .inr (13, [.int (nI n), .int pw, .int (nI ln), .int (nI z9), .ref (ux 0), .ref (ux 1), .ref (ux 2), .ref (ux 3), .ref (ux 4), .ref (ux 5), .int (nI cnt)])), ((ux 2), .inr (8, [.int (nI n), .int (sm_cl n idn den q).1, .int (nI ((sm_cl n idn den q).2.1)), .ref fc, .int idn, .int den])), (fc, .inl (cI, 24, .inl ((sm_cl n idn den q).2.2)))] t.heap ∧ va_D (va_A [(aU, .inr (13, [.int (nI n), .int pw, .int (nI ln), .int (nI z9), .ref (ux 0), .ref (ux 1), .ref (ux 2), .ref (ux 3), .ref (ux 4), .ref (ux 5), .int (nI cnt)])), ((ux 2), .inr (8, [.int (nI n), .int q.1, .int (nI q.2.1), .ref fc, .int idn, .int den])), (fc, .inl (cI, 24, .inl q.2.2))] sz) [(aU, .inr (13, [.int (nI n), .int pw, .int (nI ln), .int (nI z9), .ref (ux 0), .ref (ux 1), .ref (ux 2), .ref (ux 3), .ref (ux 4), .ref (ux 5), .int (nI cnt)])), ((ux 2), .inr (8, [.int (nI n), .int (sm_cl n idn den q).1, .int (nI ((sm_cl n idn den q).2.1)), .ref fc, .int idn, .int den])), (fc, .inl (cI, 24, .inl ((sm_cl n idn den q).2.2)))]) (va_A [(aU, .inr (13, [.int (nI n), .int pw, .int (nI ln), .int (nI z9), .ref (ux 0), .ref (ux 1), .ref (ux 2), .ref (ux 3), .ref (ux 4), .ref (ux 5), .int (nI cnt)])), ((ux 2), .inr (8, [.int (nI n), .int q.1, .int (nI q.2.1), .ref fc, .int idn, .int den])), (fc, .inl (cI, 24, .inl q.2.2))] sz)) 0 0 (va_A [(aU, .inr (13, [.int (nI n), .int pw, .int (nI ln), .int (nI z9), .ref (ux 0), .ref (ux 1), .ref (ux 2), .ref (ux 3), .ref (ux 4), .ref (ux 5), .int (nI cnt)])), ((ux 2), .inr (8, [.int (nI n), .int q.1, .int (nI q.2.1), .ref fc, .int idn, .int den])), (fc, .inl (cI, 24, .inl q.2.2))] sz) := by
  refine Met.ofW (cc := cX10_climb) (maxL := 4) (ret := none) (by decide) rfl ?_
  intro p e s m args below meth c s₁ B hml hv
  obtain ⟨rfl, hsz, hP, hK, hD0⟩ := hv
  have hx := B.exec
  have hb := B.bytes
  have hr := B.returns
  have hts := atoms_spec (ws := wg_X10_climb) B.pre
  have hown : s.vm.findClass RX10 = some m.cls := findClass_of_methodNamed B.named
  have hlocks := B.notSynchronized
  subst hsz
  have hD := hD0.self (sz := s.heap.size)
  generalize hAe : va_A [(aU, .inr (13, [.int (nI n), .int pw, .int (nI ln), .int (nI z9), .ref (ux 0), .ref (ux 1), .ref (ux 2), .ref (ux 3), .ref (ux 4), .ref (ux 5), .int (nI cnt)])), ((ux 2), .inr (8, [.int (nI n), .int q.1, .int (nI q.2.1), .ref fc, .int idn, .int den])), (fc, .inl (cI, 24, .inl q.2.2))] s.heap.size = A at hD ⊢
  have hA : ∀ q : Nat, s.heap.size ≤ q → A q := fun q h => by rw [← hAe]; exact Or.inr h
  have hS : va_S A s.heap s.heap [] := va_S.rf
  have hP : va_P (dC, dI) vwCl [(aU, .inr (13, [.int (nI n), .int pw, .int (nI ln), .int (nI z9), .ref (ux 0), .ref (ux 1), .ref (ux 2), .ref (ux 3), .ref (ux 4), .ref (ux 5), .int (nI cnt)])), ((ux 2), .inr (8, [.int (nI n), .int q.1, .int (nI q.2.1), .ref fc, .int idn, .int den])), (fc, .inl (cI, 24, .inl q.2.2))] s.heap := hP
  have hl := lv_entry ([.ref aU]) (n := 4) (Nat.le_of_ble_eq_true rfl)
  rw [lg_entry_eq]
  generalize (lg_sl ([.ref aU]) ++ List.replicate (4 - (lg_sl ([.ref aU])).length) Slot.unset).toArray = ls at hl ⊢
  have hl : lv_has ls 4 [(0, .ref aU)] := hl
  refine ow_named (fun QQ hQQ => ?_)
  suffices key9 : ∀ (H : Heap) (locs : List Loc), va_P (dC, dI) vwCl [(aU, .inr (13, [.int (nI n), .int pw, .int (nI ln), .int (nI z9), .ref (ux 0), .ref (ux 1), .ref (ux 2), .ref (ux 3), .ref (ux 4), .ref (ux 5), .int (nI cnt)])), ((ux 2), .inr (8, [.int (nI n), .int q.1, .int (nI q.2.1), .ref fc, .int idn, .int den])), (fc, .inl (cI, 24, .inl q.2.2))] H → va_S A s.heap H locs → W p l e ({ frames := 5, cells := 0, slots := 0, locals := 230 } : Room) s m ([.ref aU] : List Value).toArray below meth c H locs 0 0 QQ (F0 m 0 ls []) from key9 s.heap [] hP hS
  intro H locs hP hS
  have L61 : ∀ (d i z : Nat) (k9 : ow_FO), i + d = 2000 → z ≤ 30 → k9.2.1 ≤ 24 → (sm_cl n idn den q) = sm_c2 n idn den d z k9 → ∀ (H : Heap) (locs : List Loc) (ls : Array Slot), va_P (dC, dI) vwCl [(aU, .inr (13, [.int (nI n), .int pw, .int (nI ln), .int (nI z9), .ref (ux 0), .ref (ux 1), .ref (ux 2), .ref (ux 3), .ref (ux 4), .ref (ux 5), .int (nI cnt)])), ((ux 2), .inr (8, [.int (nI n), .int k9.1, .int (nI k9.2.1), .ref fc, .int idn, .int den])), (fc, .inl (cI, 24, .inl k9.2.2))] H → va_D A [(aU, .inr (13, [.int (nI n), .int pw, .int (nI ln), .int (nI z9), .ref (ux 0), .ref (ux 1), .ref (ux 2), .ref (ux 3), .ref (ux 4), .ref (ux 5), .int (nI cnt)])), ((ux 2), .inr (8, [.int (nI n), .int k9.1, .int (nI k9.2.1), .ref fc, .int idn, .int den])), (fc, .inl (cI, 24, .inl k9.2.2))] → va_S A s.heap H locs → lv_has ls 4 [(0, .ref aU), (1, .int (nI z)), (2, .int (nI i))] → W p l e ({ frames := 5, cells := 0, slots := 0, locals := 230 } : Room) s m ([.ref aU] : List Value).toArray below meth c H locs 0 0 QQ (F0 m 61 ls []) := by
    intro d
    induction d with
    | zero =>
      intro i z k9 hi hz hk9 hQ H locs ls hP hD hS hl
      refine lv_iload_n hx hb dgX10_climb_61 rfl (lv_at hl 2 rfl) ?_
      refine lv_sipush (v := 2000) hx hb dgX10_climb_62 (by decide) ?_
      refine lv_icmp_ge (tgt := 130) hx hb dgX10_climb_65 (by decide) (fun _ => ?_) (fun c9 => absurd (nI_le (a := 2000) (b := i) (by omega) (by omega)) c9)
      have hQ : (sm_cl n idn den q) = k9 := hQ
      have hP : va_P (dC, dI) vwCl [(aU, .inr (13, [.int (nI n), .int pw, .int (nI ln), .int (nI z9), .ref (ux 0), .ref (ux 1), .ref (ux 2), .ref (ux 3), .ref (ux 4), .ref (ux 5), .int (nI cnt)])), ((ux 2), .inr (8, [.int (nI n), .int (sm_cl n idn den q).1, .int (nI ((sm_cl n idn den q).2.1)), .ref fc, .int idn, .int den])), (fc, .inl (cI, 24, .inl ((sm_cl n idn den q).2.2)))] H := by rw [hQ]; exact hP
      have hD : va_D A [(aU, .inr (13, [.int (nI n), .int pw, .int (nI ln), .int (nI z9), .ref (ux 0), .ref (ux 1), .ref (ux 2), .ref (ux 3), .ref (ux 4), .ref (ux 5), .int (nI cnt)])), ((ux 2), .inr (8, [.int (nI n), .int (sm_cl n idn den q).1, .int (nI ((sm_cl n idn den q).2.1)), .ref fc, .int idn, .int den])), (fc, .inl (cI, 24, .inl ((sm_cl n idn den q).2.2)))] := by rw [hQ]; exact hD
      rw [hQQ]
      exact W.vret hx hb hr (fun t ht hW => ⟨⟨(), rfl, trivial, by rw [ht]; exact hP, hD⟩, hS.F ht⟩) hS.2.2 dgX10_climb_130
    | succ d ih =>
      intro i z k9 hi hz hk9 hQ H locs ls hP hD hS hl
      rw [show sm_c2 n idn den (d + 1) z k9 = (if z < 30 then sm_c2 n idn den d (if (f5_dc n idn den k9).1 + nI (f5_dc n idn den k9).2.1 < k9.1 + nI k9.2.1 then 0 else z + 1) (f5_dc n idn den k9) else k9) from rfl] at hQ
      refine lv_iload_n hx hb dgX10_climb_61 rfl (lv_at hl 2 rfl) ?_
      refine lv_sipush (v := 2000) hx hb dgX10_climb_62 (by decide) ?_
      refine lv_icmp_ge (tgt := 130) hx hb dgX10_climb_65 (by decide) (fun c9 => absurd c9 (nI_ge (a := i) (b := 2000) (by omega) (by omega))) (fun _ => ?_)
      refine lv_iload_n hx hb dgX10_climb_68 rfl (lv_at hl 1 rfl) ?_
      refine lv_bipush (v := 30) hx hb dgX10_climb_69 (by decide) ?_
      rcases Nat.lt_or_ge z 30 with h30 | h30
      · rw [if_pos h30] at hQ
        refine lv_icmp_ge (tgt := 130) hx hb dgX10_climb_71 (by decide) (fun c9 => absurd c9 (nI_ge (a := z) (b := 30) h30 (by omega))) (fun _ => ?_)
        refine lv_aload_n hx hb dgX10_climb_74 rfl (lv_at hl 0 rfl) ?_
        refine va_get (D := (dC, dI)) (ci := 13) (v := .ref (ux 2)) (C := RX10) (T := TX10) (N := 11) hx hb hts (fun _ h => List.mem_cons_of_mem _ (List.mem_append_left _ (List.mem_append_left _ (List.mem_append_right _ h)))) hown hK hP 0 rfl rfl 6 (by decide) (hts (.fieldLink RX10 21 "KnotHouse$Summit" "work" "LKnotHouse$Form;") (by decide +kernel)) (fun _ h9 => h9) rfl dgX10_climb_75 ?_
        refine va_get (D := (dC, dI)) (ci := 8) (v := .int k9.1) (C := RX5) (T := TX5) (N := 6) hx hb hts (fun _ h => List.mem_cons_of_mem _ (List.mem_append_left _ (List.mem_append_right _ h))) hown hK hP 1 rfl rfl 1 (by decide) (hts (.fieldLink RX10 75 "KnotHouse$Form" "power" "I") (by decide +kernel)) (fun _ h9 => h9) rfl dgX10_climb_78 ?_
        refine lv_aload_n hx hb dgX10_climb_81 rfl (lv_at hl 0 rfl) ?_
        refine va_get (D := (dC, dI)) (ci := 13) (v := .ref (ux 2)) (C := RX10) (T := TX10) (N := 11) hx hb hts (fun _ h => List.mem_cons_of_mem _ (List.mem_append_left _ (List.mem_append_left _ (List.mem_append_right _ h)))) hown hK hP 0 rfl rfl 6 (by decide) (hts (.fieldLink RX10 21 "KnotHouse$Summit" "work" "LKnotHouse$Form;") (by decide +kernel)) (fun _ h9 => h9) rfl dgX10_climb_82 ?_
        refine va_get (D := (dC, dI)) (ci := 8) (v := .int (nI k9.2.1)) (C := RX5) (T := TX5) (N := 6) hx hb hts (fun _ h => List.mem_cons_of_mem _ (List.mem_append_left _ (List.mem_append_right _ h))) hown hK hP 1 rfl rfl 2 (by decide) (hts (.fieldLink RX10 81 "KnotHouse$Form" "length" "I") (by decide +kernel)) (fun _ h9 => h9) rfl dgX10_climb_85 ?_
        refine lv_iadd hx hb dgX10_climb_88 ?_
        refine lv_istore_n (lv' := [(3, .int (k9.1 + (nI k9.2.1))), (0, .ref aU), (1, .int (nI z)), (2, .int (nI i))]) hx hb dgX10_climb_89 rfl hl (by decide) rfl (fun ls hl => ?_)
        refine lv_aload_n hx hb dgX10_climb_90 rfl (lv_at hl 1 rfl) ?_
        refine va_get (D := (dC, dI)) (ci := 13) (v := .ref (ux 2)) (C := RX10) (T := TX10) (N := 11) hx hb hts (fun _ h => List.mem_cons_of_mem _ (List.mem_append_left _ (List.mem_append_left _ (List.mem_append_right _ h)))) hown hK hP 0 rfl rfl 6 (by decide) (hts (.fieldLink RX10 21 "KnotHouse$Summit" "work" "LKnotHouse$Form;") (by decide +kernel)) (fun _ h9 => h9) rfl dgX10_climb_91 ?_
        have hPc := hP.sub (ws' := [((ux 2), .inr (8, [.int (nI n), .int k9.1, .int (nI k9.2.1), .ref fc, .int idn, .int den])), (fc, .inl (cI, 24, .inl k9.2.2))]) [1, 2] rfl
        have hDc := hD.sub (ws' := [((ux 2), .inr (8, [.int (nI n), .int k9.1, .int (nI k9.2.1), .ref fc, .int idn, .int den])), (fc, .inl (cI, 24, .inl k9.2.2))]) [1, 2] (by decide) rfl
        have hFc := va_free (wc := [((ux 2), .inr (8, [.int (nI n), .int k9.1, .int (nI k9.2.1), .ref fc, .int idn, .int den])), (fc, .inl (cI, 24, .inl k9.2.2))]) hD hS hA [1, 2] rfl
        refine va_callv (va_runV (As := []) (rest := []) ⟨hx, hb, hml, hown, hts⟩ (kg_X5_decycle l dC dI cI cB cJ cZ (ux 2) fc n hn1 hn9 idn den k9 hk9 H.size) (cwV 0 hts gg_X10_climb_1 rfl rfl rfl (by decide +kernel) ⟨(Nat.le_of_ble_eq_true rfl), (Nat.le_of_ble_eq_true rfl)⟩) ⟨fun a U g mk q => by obtain ⟨q0, q1, qP, qK, qD⟩ := q; exact ⟨q0, q1, qP, va_K.moved (u := U) (U := U.calling g mk a) (Vm.Alike.refl U.vm) qK, qD⟩, va_recv hK hPc (ci := 8) (q0 := 0) rfl rfl, fun U hU hW => ⟨rfl, by rw [hU], by rw [hU]; exact hPc, va_K.moved hW.alike hK, hDc.weaken (fun _ _ _ _ => trivial)⟩⟩ rfl rfl hl.1 rfl (lv_room (Nat.le_of_ble_eq_true rfl)) dgX10_climb_94 ⟨(Nat.le_of_ble_eq_true rfl), (Nat.le_of_ble_eq_true rfl)⟩) hS (fun q _ h => hFc q h) hFc (fun u9 t H1 locs ht hvm hw hB hz1 hk1 hS => ?_)
        obtain ⟨hP1, hD1⟩ := hB
        rw [ht] at hP1
        obtain ⟨hP, hD⟩ := va_join (wr := [(aU, .inr (13, [.int (nI n), .int pw, .int (nI ln), .int (nI z9), .ref (ux 0), .ref (ux 1), .ref (ux 2), .ref (ux 3), .ref (ux 4), .ref (ux 5), .int (nI cnt)]))]) (w1 := [((ux 2), .inr (8, [.int (nI n), .int (f5_dc n idn den k9).1, .int (nI ((f5_dc n idn den k9).2.1)), .ref fc, .int idn, .int den])), (fc, .inl (cI, 24, .inl ((f5_dc n idn den k9).2.2)))]) hP hD [1, 2] [0] rfl rfl (by decide) (by decide) hk1 hFc hP1 hD1
        generalize H1 = H at hP hS ⊢
        have hP : va_P (dC, dI) vwCl [(aU, .inr (13, [.int (nI n), .int pw, .int (nI ln), .int (nI z9), .ref (ux 0), .ref (ux 1), .ref (ux 2), .ref (ux 3), .ref (ux 4), .ref (ux 5), .int (nI cnt)])), ((ux 2), .inr (8, [.int (nI n), .int (f5_dc n idn den k9).1, .int (nI ((f5_dc n idn den k9).2.1)), .ref fc, .int idn, .int den])), (fc, .inl (cI, 24, .inl ((f5_dc n idn den k9).2.2)))] H := hP
        have hD : va_D A [(aU, .inr (13, [.int (nI n), .int pw, .int (nI ln), .int (nI z9), .ref (ux 0), .ref (ux 1), .ref (ux 2), .ref (ux 3), .ref (ux 4), .ref (ux 5), .int (nI cnt)])), ((ux 2), .inr (8, [.int (nI n), .int (f5_dc n idn den k9).1, .int (nI ((f5_dc n idn den k9).2.1)), .ref fc, .int idn, .int den])), (fc, .inl (cI, 24, .inl ((f5_dc n idn den k9).2.2)))] := hD
        have hk8 : (f5_dc n idn den k9).2.1 ≤ 24 := f5_dc_le hk9
        refine lv_aload_n hx hb dgX10_climb_97 rfl (lv_at hl 1 rfl) ?_
        refine va_get (D := (dC, dI)) (ci := 13) (v := .ref (ux 2)) (C := RX10) (T := TX10) (N := 11) hx hb hts (fun _ h => List.mem_cons_of_mem _ (List.mem_append_left _ (List.mem_append_left _ (List.mem_append_right _ h)))) hown hK hP 0 rfl rfl 6 (by decide) (hts (.fieldLink RX10 21 "KnotHouse$Summit" "work" "LKnotHouse$Form;") (by decide +kernel)) (fun _ h9 => h9) rfl dgX10_climb_98 ?_
        refine va_get (D := (dC, dI)) (ci := 8) (v := .int (f5_dc n idn den k9).1) (C := RX5) (T := TX5) (N := 6) hx hb hts (fun _ h => List.mem_cons_of_mem _ (List.mem_append_left _ (List.mem_append_right _ h))) hown hK hP 1 rfl rfl 1 (by decide) (hts (.fieldLink RX10 75 "KnotHouse$Form" "power" "I") (by decide +kernel)) (fun _ h9 => h9) rfl dgX10_climb_101 ?_
        refine lv_aload_n hx hb dgX10_climb_104 rfl (lv_at hl 1 rfl) ?_
        refine va_get (D := (dC, dI)) (ci := 13) (v := .ref (ux 2)) (C := RX10) (T := TX10) (N := 11) hx hb hts (fun _ h => List.mem_cons_of_mem _ (List.mem_append_left _ (List.mem_append_left _ (List.mem_append_right _ h)))) hown hK hP 0 rfl rfl 6 (by decide) (hts (.fieldLink RX10 21 "KnotHouse$Summit" "work" "LKnotHouse$Form;") (by decide +kernel)) (fun _ h9 => h9) rfl dgX10_climb_105 ?_
        refine va_get (D := (dC, dI)) (ci := 8) (v := .int (nI ((f5_dc n idn den k9).2.1))) (C := RX5) (T := TX5) (N := 6) hx hb hts (fun _ h => List.mem_cons_of_mem _ (List.mem_append_left _ (List.mem_append_right _ h))) hown hK hP 1 rfl rfl 2 (by decide) (hts (.fieldLink RX10 81 "KnotHouse$Form" "length" "I") (by decide +kernel)) (fun _ h9 => h9) rfl dgX10_climb_108 ?_
        refine lv_iadd hx hb dgX10_climb_111 ?_
        refine lv_iload_n hx hb dgX10_climb_112 rfl (lv_at hl 0 rfl) ?_
        rcases Decidable.em ((f5_dc n idn den k9).1 + nI (f5_dc n idn den k9).2.1 < k9.1 + nI k9.2.1) with h1 | h1
        · rw [if_pos h1] at hQ
          refine lv_icmp_ge (tgt := 120) hx hb dgX10_climb_113 (by decide) (fun c9 => absurd c9 (Int32.not_le.mpr h1)) (fun _ => ?_)
          refine lv_iconst (v := 0) hx hb dgX10_climb_116 (by decide) ?_
          refine lv_goto (tgt := 123) hx hb dgX10_climb_117 (by decide) ?_
          refine ow_topi (y := nI 0) (by decide) ?_
          refine lv_istore_n (lv' := [(1, .int (nI 0)), (3, .int (k9.1 + (nI k9.2.1))), (0, .ref aU), (2, .int (nI i))]) hx hb dgX10_climb_123 rfl hl (by decide) rfl (fun ls hl => ?_)
          refine lv_iinc (v := nI (i + 1)) (lv' := [(2, .int (nI (i + 1))), (1, .int (nI 0)), (3, .int (k9.1 + (nI k9.2.1))), (0, .ref aU)]) hx hb dgX10_climb_124 hl (k := 3) rfl (nI_1 i) (by decide) rfl (fun ls hl => ?_)
          refine lv_goto (tgt := 61) hx hb dgX10_climb_127 (by decide) ?_
          exact ih (i + 1) 0 (f5_dc n idn den k9) (by omega) (by omega) hk8 hQ H locs ls hP hD hS (lv_sub hl [3, 1, 0] rfl)
        · rw [if_neg h1] at hQ
          refine lv_icmp_ge (tgt := 120) hx hb dgX10_climb_113 (by decide) (fun _ => ?_) (fun c9 => absurd (Int32.not_lt.mp h1) c9)
          refine lv_iload_n hx hb dgX10_climb_120 rfl (lv_at hl 2 rfl) ?_
          refine lv_iconst (v := 1) hx hb dgX10_climb_121 (by decide) ?_
          refine lv_iadd hx hb dgX10_climb_122 ?_
          refine ow_topi (y := nI (z + 1)) (nI_1 (z)) ?_
          refine lv_istore_n (lv' := [(1, .int (nI (z + 1))), (3, .int (k9.1 + (nI k9.2.1))), (0, .ref aU), (2, .int (nI i))]) hx hb dgX10_climb_123 rfl hl (by decide) rfl (fun ls hl => ?_)
          refine lv_iinc (v := nI (i + 1)) (lv' := [(2, .int (nI (i + 1))), (1, .int (nI (z + 1))), (3, .int (k9.1 + (nI k9.2.1))), (0, .ref aU)]) hx hb dgX10_climb_124 hl (k := 3) rfl (nI_1 i) (by decide) rfl (fun ls hl => ?_)
          refine lv_goto (tgt := 61) hx hb dgX10_climb_127 (by decide) ?_
          exact ih (i + 1) (z + 1) (f5_dc n idn den k9) (by omega) (by omega) hk8 hQ H locs ls hP hD hS (lv_sub hl [3, 1, 0] rfl)
      · rw [if_neg (Nat.not_lt.mpr h30)] at hQ
        refine lv_icmp_ge (tgt := 130) hx hb dgX10_climb_71 (by decide) (fun _ => ?_) (fun c9 => absurd (nI_le (a := 30) (b := z) h30 (by omega)) c9)
        have hQ : (sm_cl n idn den q) = k9 := hQ
        have hP : va_P (dC, dI) vwCl [(aU, .inr (13, [.int (nI n), .int pw, .int (nI ln), .int (nI z9), .ref (ux 0), .ref (ux 1), .ref (ux 2), .ref (ux 3), .ref (ux 4), .ref (ux 5), .int (nI cnt)])), ((ux 2), .inr (8, [.int (nI n), .int (sm_cl n idn den q).1, .int (nI ((sm_cl n idn den q).2.1)), .ref fc, .int idn, .int den])), (fc, .inl (cI, 24, .inl ((sm_cl n idn den q).2.2)))] H := by rw [hQ]; exact hP
        have hD : va_D A [(aU, .inr (13, [.int (nI n), .int pw, .int (nI ln), .int (nI z9), .ref (ux 0), .ref (ux 1), .ref (ux 2), .ref (ux 3), .ref (ux 4), .ref (ux 5), .int (nI cnt)])), ((ux 2), .inr (8, [.int (nI n), .int (sm_cl n idn den q).1, .int (nI ((sm_cl n idn den q).2.1)), .ref fc, .int idn, .int den])), (fc, .inl (cI, 24, .inl ((sm_cl n idn den q).2.2)))] := by rw [hQ]; exact hD
        rw [hQQ]
        exact W.vret hx hb hr (fun t ht hW => ⟨⟨(), rfl, trivial, by rw [ht]; exact hP, hD⟩, hS.F ht⟩) hS.2.2 dgX10_climb_130
  have L4 : ∀ (d i z : Nat) (k9 : ow_FO), i + d = 2000 → z ≤ 30 → k9.2.1 ≤ 24 → sm_c1 n idn den 2000 0 q = sm_c1 n idn den d z k9 → ∀ (H : Heap) (locs : List Loc) (ls : Array Slot), va_P (dC, dI) vwCl [(aU, .inr (13, [.int (nI n), .int pw, .int (nI ln), .int (nI z9), .ref (ux 0), .ref (ux 1), .ref (ux 2), .ref (ux 3), .ref (ux 4), .ref (ux 5), .int (nI cnt)])), ((ux 2), .inr (8, [.int (nI n), .int k9.1, .int (nI k9.2.1), .ref fc, .int idn, .int den])), (fc, .inl (cI, 24, .inl k9.2.2))] H → va_D A [(aU, .inr (13, [.int (nI n), .int pw, .int (nI ln), .int (nI z9), .ref (ux 0), .ref (ux 1), .ref (ux 2), .ref (ux 3), .ref (ux 4), .ref (ux 5), .int (nI cnt)])), ((ux 2), .inr (8, [.int (nI n), .int k9.1, .int (nI k9.2.1), .ref fc, .int idn, .int den])), (fc, .inl (cI, 24, .inl k9.2.2))] → va_S A s.heap H locs → lv_has ls 4 [(0, .ref aU), (1, .int (nI z)), (2, .int (nI i))] → W p l e ({ frames := 5, cells := 0, slots := 0, locals := 230 } : Room) s m ([.ref aU] : List Value).toArray below meth c H locs 0 0 QQ (F0 m 4 ls []) := by
    intro d
    induction d with
    | zero =>
      intro i z k9 hi hz hk9 hQ H locs ls hP hD hS hl
      refine lv_iload_n hx hb dgX10_climb_4 rfl (lv_at hl 2 rfl) ?_
      refine lv_sipush (v := 2000) hx hb dgX10_climb_5 (by decide) ?_
      refine lv_icmp_ge (tgt := 57) hx hb dgX10_climb_8 (by decide) (fun _ => ?_) (fun c9 => absurd (nI_le (a := 2000) (b := i) (by omega) (by omega)) c9)
      have hQ : sm_c1 n idn den 2000 0 q = k9 := hQ
      have hk24 : (sm_c1 n idn den 2000 0 q).2.1 ≤ 24 := sm_c1_le _ _ _ hq
      rw [hQ] at hk24
      have hcl : (sm_cl n idn den q) = sm_c2 n idn den 2000 0 k9 := by rw [sm_cl, hQ]
      refine lv_iconst (v := 0) hx hb dgX10_climb_57 (by decide) ?_
      refine ow_topi (y := nI 0) (by decide) ?_
      refine lv_istore_n (lv' := [(1, .int (nI 0)), (0, .ref aU), (2, .int (nI i))]) hx hb dgX10_climb_58 rfl hl (by decide) rfl (fun ls hl => ?_)
      refine lv_iconst (v := 0) hx hb dgX10_climb_59 (by decide) ?_
      refine ow_topi (y := nI 0) (by decide) ?_
      refine lv_istore_n (lv' := [(2, .int (nI 0)), (1, .int (nI 0)), (0, .ref aU)]) hx hb dgX10_climb_60 rfl hl (by decide) rfl (fun ls hl => ?_)
      exact L61 2000 0 0 k9 (by omega) (by omega) hk24 hcl H locs ls hP hD hS (lv_sub hl [2, 1, 0] rfl)
    | succ d ih =>
      intro i z k9 hi hz hk9 hQ H locs ls hP hD hS hl
      rw [show sm_c1 n idn den (d + 1) z k9 = (if z < 30 then sm_c1 n idn den d (if k9.1 < (f5_cy n idn den k9).1 then 0 else z + 1) (f5_cy n idn den k9) else k9) from rfl] at hQ
      refine lv_iload_n hx hb dgX10_climb_4 rfl (lv_at hl 2 rfl) ?_
      refine lv_sipush (v := 2000) hx hb dgX10_climb_5 (by decide) ?_
      refine lv_icmp_ge (tgt := 57) hx hb dgX10_climb_8 (by decide) (fun c9 => absurd c9 (nI_ge (a := i) (b := 2000) (by omega) (by omega))) (fun _ => ?_)
      refine lv_iload_n hx hb dgX10_climb_11 rfl (lv_at hl 1 rfl) ?_
      refine lv_bipush (v := 30) hx hb dgX10_climb_12 (by decide) ?_
      rcases Nat.lt_or_ge z 30 with h30 | h30
      · rw [if_pos h30] at hQ
        refine lv_icmp_ge (tgt := 57) hx hb dgX10_climb_14 (by decide) (fun c9 => absurd c9 (nI_ge (a := z) (b := 30) h30 (by omega))) (fun _ => ?_)
        refine lv_aload_n hx hb dgX10_climb_17 rfl (lv_at hl 0 rfl) ?_
        refine va_get (D := (dC, dI)) (ci := 13) (v := .ref (ux 2)) (C := RX10) (T := TX10) (N := 11) hx hb hts (fun _ h => List.mem_cons_of_mem _ (List.mem_append_left _ (List.mem_append_left _ (List.mem_append_right _ h)))) hown hK hP 0 rfl rfl 6 (by decide) (hts (.fieldLink RX10 21 "KnotHouse$Summit" "work" "LKnotHouse$Form;") (by decide +kernel)) (fun _ h9 => h9) rfl dgX10_climb_18 ?_
        refine va_get (D := (dC, dI)) (ci := 8) (v := .int k9.1) (C := RX5) (T := TX5) (N := 6) hx hb hts (fun _ h => List.mem_cons_of_mem _ (List.mem_append_left _ (List.mem_append_right _ h))) hown hK hP 1 rfl rfl 1 (by decide) (hts (.fieldLink RX10 75 "KnotHouse$Form" "power" "I") (by decide +kernel)) (fun _ h9 => h9) rfl dgX10_climb_21 ?_
        refine lv_istore_n (lv' := [(3, .int k9.1), (0, .ref aU), (1, .int (nI z)), (2, .int (nI i))]) hx hb dgX10_climb_24 rfl hl (by decide) rfl (fun ls hl => ?_)
        refine lv_aload_n hx hb dgX10_climb_25 rfl (lv_at hl 1 rfl) ?_
        refine va_get (D := (dC, dI)) (ci := 13) (v := .ref (ux 2)) (C := RX10) (T := TX10) (N := 11) hx hb hts (fun _ h => List.mem_cons_of_mem _ (List.mem_append_left _ (List.mem_append_left _ (List.mem_append_right _ h)))) hown hK hP 0 rfl rfl 6 (by decide) (hts (.fieldLink RX10 21 "KnotHouse$Summit" "work" "LKnotHouse$Form;") (by decide +kernel)) (fun _ h9 => h9) rfl dgX10_climb_26 ?_
        have hPc := hP.sub (ws' := [((ux 2), .inr (8, [.int (nI n), .int k9.1, .int (nI k9.2.1), .ref fc, .int idn, .int den])), (fc, .inl (cI, 24, .inl k9.2.2))]) [1, 2] rfl
        have hDc := hD.sub (ws' := [((ux 2), .inr (8, [.int (nI n), .int k9.1, .int (nI k9.2.1), .ref fc, .int idn, .int den])), (fc, .inl (cI, 24, .inl k9.2.2))]) [1, 2] (by decide) rfl
        have hFc := va_free (wc := [((ux 2), .inr (8, [.int (nI n), .int k9.1, .int (nI k9.2.1), .ref fc, .int idn, .int den])), (fc, .inl (cI, 24, .inl k9.2.2))]) hD hS hA [1, 2] rfl
        refine va_callv (va_runV (As := []) (rest := []) ⟨hx, hb, hml, hown, hts⟩ (kg_X5_cycle l dC dI cI cB cJ cZ (ux 2) fc n hn1 hn9 idn den k9 hk9 H.size) (cwV 0 hts gg_X10_climb_0 rfl rfl rfl (by decide +kernel) ⟨(Nat.le_of_ble_eq_true rfl), (Nat.le_of_ble_eq_true rfl)⟩) ⟨fun a U g mk q => by obtain ⟨q0, q1, qP, qK, qD⟩ := q; exact ⟨q0, q1, qP, va_K.moved (u := U) (U := U.calling g mk a) (Vm.Alike.refl U.vm) qK, qD⟩, va_recv hK hPc (ci := 8) (q0 := 0) rfl rfl, fun U hU hW => ⟨rfl, by rw [hU], by rw [hU]; exact hPc, va_K.moved hW.alike hK, hDc.weaken (fun _ _ _ _ => trivial)⟩⟩ rfl rfl hl.1 rfl (lv_room (Nat.le_of_ble_eq_true rfl)) dgX10_climb_29 ⟨(Nat.le_of_ble_eq_true rfl), (Nat.le_of_ble_eq_true rfl)⟩) hS (fun q _ h => hFc q h) hFc (fun u9 t H1 locs ht hvm hw hB hz1 hk1 hS => ?_)
        obtain ⟨hP1, hD1⟩ := hB
        rw [ht] at hP1
        obtain ⟨hP, hD⟩ := va_join (wr := [(aU, .inr (13, [.int (nI n), .int pw, .int (nI ln), .int (nI z9), .ref (ux 0), .ref (ux 1), .ref (ux 2), .ref (ux 3), .ref (ux 4), .ref (ux 5), .int (nI cnt)]))]) (w1 := [((ux 2), .inr (8, [.int (nI n), .int (f5_cy n idn den k9).1, .int (nI ((f5_cy n idn den k9).2.1)), .ref fc, .int idn, .int den])), (fc, .inl (cI, 24, .inl ((f5_cy n idn den k9).2.2)))]) hP hD [1, 2] [0] rfl rfl (by decide) (by decide) hk1 hFc hP1 hD1
        generalize H1 = H at hP hS ⊢
        have hP : va_P (dC, dI) vwCl [(aU, .inr (13, [.int (nI n), .int pw, .int (nI ln), .int (nI z9), .ref (ux 0), .ref (ux 1), .ref (ux 2), .ref (ux 3), .ref (ux 4), .ref (ux 5), .int (nI cnt)])), ((ux 2), .inr (8, [.int (nI n), .int (f5_cy n idn den k9).1, .int (nI ((f5_cy n idn den k9).2.1)), .ref fc, .int idn, .int den])), (fc, .inl (cI, 24, .inl ((f5_cy n idn den k9).2.2)))] H := hP
        have hD : va_D A [(aU, .inr (13, [.int (nI n), .int pw, .int (nI ln), .int (nI z9), .ref (ux 0), .ref (ux 1), .ref (ux 2), .ref (ux 3), .ref (ux 4), .ref (ux 5), .int (nI cnt)])), ((ux 2), .inr (8, [.int (nI n), .int (f5_cy n idn den k9).1, .int (nI ((f5_cy n idn den k9).2.1)), .ref fc, .int idn, .int den])), (fc, .inl (cI, 24, .inl ((f5_cy n idn den k9).2.2)))] := hD
        have hk8 : (f5_cy n idn den k9).2.1 ≤ 24 := f5_cy_le hk9
        refine lv_aload_n hx hb dgX10_climb_32 rfl (lv_at hl 1 rfl) ?_
        refine va_get (D := (dC, dI)) (ci := 13) (v := .ref (ux 2)) (C := RX10) (T := TX10) (N := 11) hx hb hts (fun _ h => List.mem_cons_of_mem _ (List.mem_append_left _ (List.mem_append_left _ (List.mem_append_right _ h)))) hown hK hP 0 rfl rfl 6 (by decide) (hts (.fieldLink RX10 21 "KnotHouse$Summit" "work" "LKnotHouse$Form;") (by decide +kernel)) (fun _ h9 => h9) rfl dgX10_climb_33 ?_
        refine va_get (D := (dC, dI)) (ci := 8) (v := .int (f5_cy n idn den k9).1) (C := RX5) (T := TX5) (N := 6) hx hb hts (fun _ h => List.mem_cons_of_mem _ (List.mem_append_left _ (List.mem_append_right _ h))) hown hK hP 1 rfl rfl 1 (by decide) (hts (.fieldLink RX10 75 "KnotHouse$Form" "power" "I") (by decide +kernel)) (fun _ h9 => h9) rfl dgX10_climb_36 ?_
        refine lv_iload_n hx hb dgX10_climb_39 rfl (lv_at hl 0 rfl) ?_
        rcases Decidable.em (k9.1 < (f5_cy n idn den k9).1) with h1 | h1
        · rw [if_pos h1] at hQ
          refine lv_icmp_le (tgt := 47) hx hb dgX10_climb_40 (by decide) (fun c9 => absurd c9 (Int32.not_le.mpr h1)) (fun _ => ?_)
          refine lv_iconst (v := 0) hx hb dgX10_climb_43 (by decide) ?_
          refine lv_goto (tgt := 50) hx hb dgX10_climb_44 (by decide) ?_
          refine ow_topi (y := nI 0) (by decide) ?_
          refine lv_istore_n (lv' := [(1, .int (nI 0)), (3, .int k9.1), (0, .ref aU), (2, .int (nI i))]) hx hb dgX10_climb_50 rfl hl (by decide) rfl (fun ls hl => ?_)
          refine lv_iinc (v := nI (i + 1)) (lv' := [(2, .int (nI (i + 1))), (1, .int (nI 0)), (3, .int k9.1), (0, .ref aU)]) hx hb dgX10_climb_51 hl (k := 3) rfl (nI_1 i) (by decide) rfl (fun ls hl => ?_)
          refine lv_goto (tgt := 4) hx hb dgX10_climb_54 (by decide) ?_
          exact ih (i + 1) 0 (f5_cy n idn den k9) (by omega) (by omega) hk8 hQ H locs ls hP hD hS (lv_sub hl [3, 1, 0] rfl)
        · rw [if_neg h1] at hQ
          refine lv_icmp_le (tgt := 47) hx hb dgX10_climb_40 (by decide) (fun _ => ?_) (fun c9 => absurd (Int32.not_lt.mp h1) c9)
          refine lv_iload_n hx hb dgX10_climb_47 rfl (lv_at hl 2 rfl) ?_
          refine lv_iconst (v := 1) hx hb dgX10_climb_48 (by decide) ?_
          refine lv_iadd hx hb dgX10_climb_49 ?_
          refine ow_topi (y := nI (z + 1)) (nI_1 (z)) ?_
          refine lv_istore_n (lv' := [(1, .int (nI (z + 1))), (3, .int k9.1), (0, .ref aU), (2, .int (nI i))]) hx hb dgX10_climb_50 rfl hl (by decide) rfl (fun ls hl => ?_)
          refine lv_iinc (v := nI (i + 1)) (lv' := [(2, .int (nI (i + 1))), (1, .int (nI (z + 1))), (3, .int k9.1), (0, .ref aU)]) hx hb dgX10_climb_51 hl (k := 3) rfl (nI_1 i) (by decide) rfl (fun ls hl => ?_)
          refine lv_goto (tgt := 4) hx hb dgX10_climb_54 (by decide) ?_
          exact ih (i + 1) (z + 1) (f5_cy n idn den k9) (by omega) (by omega) hk8 hQ H locs ls hP hD hS (lv_sub hl [3, 1, 0] rfl)
      · rw [if_neg (Nat.not_lt.mpr h30)] at hQ
        refine lv_icmp_ge (tgt := 57) hx hb dgX10_climb_14 (by decide) (fun _ => ?_) (fun c9 => absurd (nI_le (a := 30) (b := z) h30 (by omega)) c9)
        have hQ : sm_c1 n idn den 2000 0 q = k9 := hQ
        have hk24 : (sm_c1 n idn den 2000 0 q).2.1 ≤ 24 := sm_c1_le _ _ _ hq
        rw [hQ] at hk24
        have hcl : (sm_cl n idn den q) = sm_c2 n idn den 2000 0 k9 := by rw [sm_cl, hQ]
        refine lv_iconst (v := 0) hx hb dgX10_climb_57 (by decide) ?_
        refine ow_topi (y := nI 0) (by decide) ?_
        refine lv_istore_n (lv' := [(1, .int (nI 0)), (0, .ref aU), (2, .int (nI i))]) hx hb dgX10_climb_58 rfl hl (by decide) rfl (fun ls hl => ?_)
        refine lv_iconst (v := 0) hx hb dgX10_climb_59 (by decide) ?_
        refine ow_topi (y := nI 0) (by decide) ?_
        refine lv_istore_n (lv' := [(2, .int (nI 0)), (1, .int (nI 0)), (0, .ref aU)]) hx hb dgX10_climb_60 rfl hl (by decide) rfl (fun ls hl => ?_)
        exact L61 2000 0 0 k9 (by omega) (by omega) hk24 hcl H locs ls hP hD hS (lv_sub hl [2, 1, 0] rfl)
  refine lv_iconst (v := 0) hx hb dgX10_climb_0 (by decide) ?_
  refine ow_topi (y := nI 0) (by decide) ?_
  refine lv_istore_n (lv' := [(1, .int (nI 0)), (0, .ref aU)]) hx hb dgX10_climb_1 rfl hl (by decide) rfl (fun ls hl => ?_)
  refine lv_iconst (v := 0) hx hb dgX10_climb_2 (by decide) ?_
  refine ow_topi (y := nI 0) (by decide) ?_
  refine lv_istore_n (lv' := [(2, .int (nI 0)), (1, .int (nI 0)), (0, .ref aU)]) hx hb dgX10_climb_3 rfl hl (by decide) rfl (fun ls hl => ?_)
  exact L4 2000 0 0 q (by omega) (by omega) hq rfl H locs ls hP hD hS (lv_sub hl [2, 1, 0] rfl)
