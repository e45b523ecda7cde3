theorem ow_ushr1 {n : Nat} (h : n < 2 ^ 31) : ((nI n).toUInt32 >>> ((1 : Int32).toUInt32 &&& Int32.toUInt32 31)).toInt32 = nI (n / 2) := by
  apply Int32.toBitVec_inj.mp
  apply BitVec.eq_of_toNat_eq
  rw [pk_ushr (nI n) 1 1 (by decide), pk_tn (by omega), pk_tn (by omega)]
/-- where a code stands in the order (true), or should (false) -/
def cd_srch (cmp : Nat → Int32) : Nat → Nat → Nat → Bool × Nat
  | 0, lo, _ => (false, lo)
  | d + 1, lo, hi => if lo < hi then (if cmp ((lo + hi) / 2) = 0 then (true, (lo + hi) / 2) else if cmp ((lo + hi) / 2) < 0 then cd_srch cmp d ((lo + hi) / 2 + 1) hi else cd_srch cmp d lo ((lo + hi) / 2)) else (false, lo)
theorem cd_srch_s (cmp : Nat → Int32) (d lo hi : Nat) : cd_srch cmp (d + 1) lo hi = if lo < hi then (if cmp ((lo + hi) / 2) = 0 then (true, (lo + hi) / 2) else if cmp ((lo + hi) / 2) < 0 then cd_srch cmp d ((lo + hi) / 2 + 1) hi else cd_srch cmp d lo ((lo + hi) / 2)) else (false, lo) := rfl
theorem cd_srch_le {cmp : Nat → Int32} {z : Nat} : ∀ (d lo hi : Nat), lo ≤ hi → hi ≤ z → (cd_srch cmp d lo hi).2 ≤ z := by
  intro d
  induction d with
  | zero => intro lo hi h1 h2; exact Nat.le_trans h1 h2
  | succ d ih =>
    intro lo hi h1 h2
    rw [cd_srch]
    split
    · split
      · show (lo + hi) / 2 ≤ z
        omega
      · split
        · exact ih _ _ (by omega) h2
        · exact ih _ _ (by omega) (by omega)
    · show lo ≤ z
      omega
theorem cd_srch_lt {cmp : Nat → Int32} {z : Nat} : ∀ (d lo hi : Nat), lo ≤ hi → hi ≤ z → (cd_srch cmp d lo hi).1 = true → (cd_srch cmp d lo hi).2 < z := by
  intro d
  induction d with
  | zero => intro lo hi _ _ h; exact absurd (show false = true from h) (by decide)
  | succ d ih =>
    intro lo hi h1 h2
    rw [cd_srch]
    split
    · split
      · intro _
        show (lo + hi) / 2 < z
        omega
      · split
        · exact ih _ _ (by omega) h2
        · exact ih _ _ (by omega) (by omega)
    · intro h; exact absurd (show false = true from h) (by decide)
def cd_ans (q : Bool × Nat) : Int32 := if q.1 then nI q.2 else -1 - nI q.2
theorem ow_mm1 (x : Int32) : -1 - (-1 - x) = x := by
  rw [Int32.sub_eq_add_neg, Int32.neg_sub, Int32.add_comm, Int32.sub_add_cancel]
theorem ow_mm1lt {k : Nat} (h : k < 2 ^ 31) : -1 - nI k < 0 := by
  apply Int32.lt_iff_toInt_lt.mpr
  have h1 : (nI k).toInt = (k : Int) := nI_toInt h
  rw [Int32.toInt_sub, h1]
  have h2 : (-1 : Int32).toInt = -1 := by decide
  have h3 : (0 : Int32).toInt = 0 := by decide
  rw [h2, h3, Int.bmod_eq_of_le (by omega) (by omega)]
  omega
/-- the comparison of the code at place m of the order with another -/
def cd_at (C L K O : Nat → Nat) (k2 l2 : Nat) (B : Nat → Nat) (m : Nat) : Int32 := cd_cmp (K (O m)) (L (O m)) (fun i => C (30 * O m + i)) k2 l2 B
theorem dgX3_find_0 : decode cX3_find 0 = .ok (.iconst 0, 1) := by decide +kernel
theorem dgX3_find_1 : decode cX3_find 1 = .ok (.istore_n 3, 1) := by decide +kernel
theorem dgX3_find_2 : decode cX3_find 2 = .ok (.aload_n 0, 1) := by decide +kernel
theorem dgX3_find_3 : decode cX3_find 3 = .ok (.getfield 37, 3) := by decide +kernel
theorem dgX3_find_6 : decode cX3_find 6 = .ok (.istore 4, 2) := by decide +kernel
theorem dgX3_find_8 : decode cX3_find 8 = .ok (.iconst 0, 1) := by decide +kernel
theorem dgX3_find_9 : decode cX3_find 9 = .ok (.istore 5, 2) := by decide +kernel
theorem dgX3_find_11 : decode cX3_find 11 = .ok (.iload 5, 2) := by decide +kernel
theorem dgX3_find_13 : decode cX3_find 13 = .ok (.bipush 32, 2) := by decide +kernel
theorem dgX3_find_15 : decode cX3_find 15 = .ok (.if_icmp .ge 63, 3) := by decide +kernel
theorem dgX3_find_18 : decode cX3_find 18 = .ok (.iload_n 3, 1) := by decide +kernel
theorem dgX3_find_19 : decode cX3_find 19 = .ok (.iload 4, 2) := by decide +kernel
theorem dgX3_find_21 : decode cX3_find 21 = .ok (.if_icmp .ge 57, 3) := by decide +kernel
theorem dgX3_find_24 : decode cX3_find 24 = .ok (.iload_n 3, 1) := by decide +kernel
theorem dgX3_find_25 : decode cX3_find 25 = .ok (.iload 4, 2) := by decide +kernel
theorem dgX3_find_27 : decode cX3_find 27 = .ok (.iadd, 1) := by decide +kernel
theorem dgX3_find_28 : decode cX3_find 28 = .ok (.iconst 1, 1) := by decide +kernel
theorem dgX3_find_29 : decode cX3_find 29 = .ok (.iushr, 1) := by decide +kernel
theorem dgX3_find_30 : decode cX3_find 30 = .ok (.istore 6, 2) := by decide +kernel
theorem dgX3_find_32 : decode cX3_find 32 = .ok (.aload_n 0, 1) := by decide +kernel
theorem dgX3_find_33 : decode cX3_find 33 = .ok (.aload_n 0, 1) := by decide +kernel
theorem dgX3_find_34 : decode cX3_find 34 = .ok (.getfield 21, 3) := by decide +kernel
theorem dgX3_find_37 : decode cX3_find 37 = .ok (.iload 6, 2) := by decide +kernel
theorem dgX3_find_39 : decode cX3_find 39 = .ok (.iaload, 1) := by decide +kernel
theorem dgX3_find_40 : decode cX3_find 40 = .ok (.aload_n 1, 1) := by decide +kernel
theorem dgX3_find_41 : decode cX3_find 41 = .ok (.iload_n 2, 1) := by decide +kernel
theorem dgX3_find_42 : decode cX3_find 42 = .ok (.invokevirtual 41, 3) := by decide +kernel
theorem dgX3_find_45 : decode cX3_find 45 = .ok (.istore 7, 2) := by decide +kernel
theorem dgX3_find_47 : decode cX3_find 47 = .ok (.iload 7, 2) := by decide +kernel
theorem dgX3_find_49 : decode cX3_find 49 = .ok (.ifCond .ne 6, 3) := by decide +kernel
theorem dgX3_find_52 : decode cX3_find 52 = .ok (.iload 6, 2) := by decide +kernel
theorem dgX3_find_54 : decode cX3_find 54 = .ok (.ireturn, 1) := by decide +kernel
theorem dgX3_find_55 : decode cX3_find 55 = .ok (.iload 7, 2) := by decide +kernel
theorem dgX3_find_57 : decode cX3_find 57 = .ok (.ifCond .ge 11, 3) := by decide +kernel
theorem dgX3_find_60 : decode cX3_find 60 = .ok (.iload 6, 2) := by decide +kernel
theorem dgX3_find_62 : decode cX3_find 62 = .ok (.iconst 1, 1) := by decide +kernel
theorem dgX3_find_63 : decode cX3_find 63 = .ok (.iadd, 1) := by decide +kernel
theorem dgX3_find_64 : decode cX3_find 64 = .ok (.istore_n 3, 1) := by decide +kernel
theorem dgX3_find_65 : decode cX3_find 65 = .ok (.goto 7, 3) := by decide +kernel
theorem dgX3_find_68 : decode cX3_find 68 = .ok (.iload 6, 2) := by decide +kernel
theorem dgX3_find_70 : decode cX3_find 70 = .ok (.istore 4, 2) := by decide +kernel
theorem dgX3_find_72 : decode cX3_find 72 = .ok (.iinc 5 1, 3) := by decide +kernel
theorem dgX3_find_75 : decode cX3_find 75 = .ok (.goto (-64), 3) := by decide +kernel
theorem dgX3_find_78 : decode cX3_find 78 = .ok (.iconst (-1), 1) := by decide +kernel
theorem dgX3_find_79 : decode cX3_find 79 = .ok (.iload_n 3, 1) := by decide +kernel
theorem dgX3_find_80 : decode cX3_find 80 = .ok (.isub, 1) := by decide +kernel
theorem dgX3_find_81 : decode cX3_find 81 = .ok (.ireturn, 1) := by decide +kernel
def wg_X3_find : List Cond := .code yX3_find cX3_find 8 (some .int) :: (([.fieldLink RX3 37 "KnotHouse$Codes" "size" "I", .fieldLink RX3 21 "KnotHouse$Codes" "order" "[I"] ++ wsX30) ++ (wsV RX3 41 RX3 yX3_compare wg_X3_compare ++ []))
theorem gg_X3_find_0 : GoodIn wg_X3_find (wsV RX3 41 RX3 yX3_compare wg_X3_compare) := goodIn_sub (fun _ h => List.mem_cons_of_mem _ (List.mem_append_right _ (List.mem_append_left _ h))) (by decide +kernel)
set_option maxHeartbeats 4000000 in
set_option maxRecDepth 100000 in
theorem kg_X3_find (l : Launch) (dC : Nat → ClassId) (dI : Nat → Nat → Nat) (cI cB cJ cZ : ClassId) (aX aY : Nat) (fx fy : Nat → Nat) (n k : Nat) (hn : n < 2 ^ 24) (hk : k < 2 ^ 24) (C L K O C2 L2 K2 : Nat → Nat) (z : Nat) (zy : Int32) (hz : z ≤ n) (b : Nat) (hbk : b < k) (hO : ∀ i, i < z → O i < n) (hL : ∀ i, L i ≤ 30) (hLb : L2 b ≤ 30) (hC : ow_b128 C) (hKb : ow_b128 K) (hC2 : ow_b128 C2) (hK2 : ow_b128 K2) : Met l yX3_find wg_X3_find (({ frames := 2, cells := 0, slots := 0, locals := 68 } : Room)) (va_Pc [.ref aX, .ref aY, .int (nI b)] (fun U => va_P (dC, dI) vwCl [(aX, .inr (6, [.ref (fx 0), .ref (fx 1), .ref (fx 2), .ref (fx 3), .int (nI z)])), ((fx 0), .inl (cB, (30 * n), .inl (ow_nI C))), ((fx 1), .inl (cB, n, .inl (ow_nI L))), ((fx 2), .inl (cB, n, .inl (ow_nI K))), ((fx 3), .inl (cI, n, .inl (ow_nI O))), (aY, .inr (6, [.ref (fy 0), .ref (fy 1), .ref (fy 2), .ref (fy 3), .int zy])), ((fy 0), .inl (cB, (30 * k), .inl (ow_nI C2))), ((fy 1), .inl (cB, k, .inl (ow_nI L2))), ((fy 2), .inl (cB, k, .inl (ow_nI K2)))] U.heap ∧ va_K (dC, dI) vwCl [(cI, .int), (cB, .byte), (cJ, .long), (cZ, .boolean)] U)) (va_Qi (fun r (_ : Unit) => r = cd_ans (cd_srch (cd_at C L K O (K2 b) (L2 b) (fun i => C2 (30 * b + i))) 32 0 z)) (fun _ _ => True) (fun _ => False)) 0 0 (fun _ => False) := by
  refine Met.ofW (cc := cX3_find) (maxL := 8) (ret := (some .int)) (by decide) rfl ?_
  intro p e s m args below meth c s₁ B hml hv
  obtain ⟨rfl, hP, hK⟩ := hv
  have hx := B.exec
  have hb := B.bytes
  have hr := B.returns
  have hts := atoms_spec (ws := wg_X3_find) B.pre
  have hown : s.vm.findClass RX3 = some m.cls := findClass_of_methodNamed B.named
  have hlocks := B.notSynchronized
  have hS : va_S (fun _ => False) s.heap s.heap [] := va_S.rf
  have hP : va_P (dC, dI) vwCl [(aX, .inr (6, [.ref (fx 0), .ref (fx 1), .ref (fx 2), .ref (fx 3), .int (nI z)])), ((fx 0), .inl (cB, (30 * n), .inl (ow_nI C))), ((fx 1), .inl (cB, n, .inl (ow_nI L))), ((fx 2), .inl (cB, n, .inl (ow_nI K))), ((fx 3), .inl (cI, n, .inl (ow_nI O))), (aY, .inr (6, [.ref (fy 0), .ref (fy 1), .ref (fy 2), .ref (fy 3), .int zy])), ((fy 0), .inl (cB, (30 * k), .inl (ow_nI C2))), ((fy 1), .inl (cB, k, .inl (ow_nI L2))), ((fy 2), .inl (cB, k, .inl (ow_nI K2)))] s.heap := hP
  have hl := lv_entry ([.ref aX, .ref aY, .int (nI b)]) (n := 8) (Nat.le_of_ble_eq_true rfl)
  rw [lg_entry_eq]
  generalize (lg_sl ([.ref aX, .ref aY, .int (nI b)]) ++ List.replicate (8 - (lg_sl ([.ref aX, .ref aY, .int (nI b)])).length) Slot.unset).toArray = ls at hl ⊢
  have hl : lv_has ls 8 [(0, .ref aX), (1, .ref aY), (2, .int (nI b))] := hl
  refine ow_named (fun QQ hQQ => ?_)
  have L11 : ∀ (d j lo hi : Nat), j + d = 32 → lo ≤ hi → hi ≤ z → cd_srch (cd_at C L K O (K2 b) (L2 b) (fun i => C2 (30 * b + i))) 32 0 z = cd_srch (cd_at C L K O (K2 b) (L2 b) (fun i => C2 (30 * b + i))) d lo hi → ∀ (H : Heap) (locs : List Loc) (ls : Array Slot), va_P (dC, dI) vwCl [(aX, .inr (6, [.ref (fx 0), .ref (fx 1), .ref (fx 2), .ref (fx 3), .int (nI z)])), ((fx 0), .inl (cB, (30 * n), .inl (ow_nI C))), ((fx 1), .inl (cB, n, .inl (ow_nI L))), ((fx 2), .inl (cB, n, .inl (ow_nI K))), ((fx 3), .inl (cI, n, .inl (ow_nI O))), (aY, .inr (6, [.ref (fy 0), .ref (fy 1), .ref (fy 2), .ref (fy 3), .int zy])), ((fy 0), .inl (cB, (30 * k), .inl (ow_nI C2))), ((fy 1), .inl (cB, k, .inl (ow_nI L2))), ((fy 2), .inl (cB, k, .inl (ow_nI K2)))] H → va_S (fun _ => False) s.heap H locs → lv_has ls 8 [(0, .ref aX), (1, .ref aY), (2, .int (nI b)), (3, .int (nI lo)), (4, .int (nI hi)), (5, .int (nI j))] → W p l e ({ frames := 2, cells := 0, slots := 0, locals := 68 } : Room) s m ([.ref aX, .ref aY, .int (nI b)] : List Value).toArray below meth c H locs 0 0 QQ (F0 m 11 ls []) := by
    intro d
    induction d with
    | zero =>
      intro j lo hi hj hlh hhz hcd H locs ls hP hS hl
      refine lv_iload hx hb dgX3_find_11 (lv_at hl 5 rfl) ?_
      refine lv_bipush (v := 32) hx hb dgX3_find_13 (by decide) ?_
      refine lv_icmp_ge (tgt := 78) hx hb dgX3_find_15 (by decide) (fun _ => ?_) (fun c9 => absurd (nI_le (a := 32) (b := j) (by omega) (by omega)) c9)
      refine lv_iconst (v := (-1)) hx hb dgX3_find_78 (by decide) ?_
      refine lv_iload_n hx hb dgX3_find_79 rfl (lv_at hl 3 rfl) ?_
      refine lv_isub hx hb dgX3_find_80 ?_
      rw [hQQ]
      exact W.iret (v := ((-1) - (nI lo))) hx hb hr (fun t ht hW => ⟨⟨((-1) - (nI lo)), (), rfl, by rw [hcd]; rfl, trivial⟩, hS.F ht⟩) hS.2.2 dgX3_find_81
    | succ d ih =>
      intro j lo hi hj hlh hhz hcd H locs ls hP hS hl
      have hcd := hcd.trans (cd_srch_s _ d lo hi)
      rcases Nat.lt_or_ge lo hi with hlt | hge
      · rw [if_pos hlt] at hcd
        generalize hme : (lo + hi) / 2 = mid at hcd
        have hmz : lo ≤ mid ∧ mid < hi := by omega
        have hOm := hO mid (by omega)
        refine lv_iload hx hb dgX3_find_11 (lv_at hl 5 rfl) ?_
        refine lv_bipush (v := 32) hx hb dgX3_find_13 (by decide) ?_
        refine lv_icmp_ge (tgt := 78) hx hb dgX3_find_15 (by decide) (fun c9 => absurd c9 (nI_ge (a := j) (b := 32) (by omega) (by omega))) (fun _ => ?_)
        refine lv_iload_n hx hb dgX3_find_18 rfl (lv_at hl 3 rfl) ?_
        refine lv_iload hx hb dgX3_find_19 (lv_at hl 4 rfl) ?_
        refine lv_icmp_ge (tgt := 78) hx hb dgX3_find_21 (by decide) (fun c9 => absurd c9 (nI_ge (a := lo) (b := hi) hlt (by omega))) (fun _ => ?_)
        refine lv_iload_n hx hb dgX3_find_24 rfl (lv_at hl 3 rfl) ?_
        refine lv_iload hx hb dgX3_find_25 (lv_at hl 4 rfl) ?_
        refine lv_iadd hx hb dgX3_find_27 ?_
        refine ow_topi (y := nI (lo + hi)) (nI_add lo hi) ?_
        refine lv_iconst (v := 1) hx hb dgX3_find_28 (by decide) ?_
        refine lv_iushr hx hb dgX3_find_29 rfl ?_
        refine ow_topi (y := nI mid) ((ow_ushr1 (by omega)).trans (congrArg nI hme)) ?_
        refine lv_istore (lv' := [(6, .int (nI mid)), (0, .ref aX), (1, .ref aY), (2, .int (nI b)), (3, .int (nI lo)), (4, .int (nI hi)), (5, .int (nI j))]) hx hb dgX3_find_30 hl (by decide) rfl (fun ls hl => ?_)
        refine lv_aload_n hx hb dgX3_find_32 rfl (lv_at hl 1 rfl) ?_
        refine lv_aload_n hx hb dgX3_find_33 rfl (lv_at hl 1 rfl) ?_
        refine va_get (D := (dC, dI)) (ci := 6) (v := .ref (fx 3)) (C := RX3) (T := TX3) (N := 5) hx hb hts (fun _ h => List.mem_cons_of_mem _ (List.mem_append_left _ (List.mem_append_right _ h))) hown hK hP 0 rfl rfl 3 (by decide) (hts (.fieldLink RX3 21 "KnotHouse$Codes" "order" "[I") (by decide +kernel)) (fun _ h9 => h9) rfl dgX3_find_34 ?_
        refine lv_iload hx hb dgX3_find_37 (lv_at hl 0 rfl) ?_
        refine va_iald hx hb hK hP 4 0 rfl rfl (vp_in_nI (n := mid) (N := n) (by omega) (by omega)) dgX3_find_39 ?_
        refine ow_topi (y := nI (O mid)) (ow_nI_at O (by omega)) ?_
        refine lv_aload_n hx hb dgX3_find_40 rfl (lv_at hl 2 rfl) ?_
        refine lv_iload_n hx hb dgX3_find_41 rfl (lv_at hl 3 rfl) ?_
        have hPc := hP.sub (ws' := [(aX, .inr (6, [.ref (fx 0), .ref (fx 1), .ref (fx 2), .ref (fx 3), .int (nI z)])), ((fx 0), .inl (cB, (30 * n), .inl (ow_nI C))), ((fx 1), .inl (cB, n, .inl (ow_nI L))), ((fx 2), .inl (cB, n, .inl (ow_nI K))), (aY, .inr (6, [.ref (fy 0), .ref (fy 1), .ref (fy 2), .ref (fy 3), .int zy])), ((fy 0), .inl (cB, (30 * k), .inl (ow_nI C2))), ((fy 1), .inl (cB, k, .inl (ow_nI L2))), ((fy 2), .inl (cB, k, .inl (ow_nI K2)))]) [0, 1, 2, 3, 5, 6, 7, 8] rfl
        refine va_calli (va_runV (As := [.int (nI (O mid)), .ref aY, .int (nI b)]) (rest := []) ⟨hx, hb, hml, hown, hts⟩ (kg_X3_compare l dC dI cI cB cJ cZ aX aY fx fy n k hn hk C L K C2 L2 K2 (nI z) zy (O mid) b hOm hbk (hL _) hLb hC hKb hC2 hK2) (cwV 3 hts gg_X3_find_0 rfl rfl rfl (by decide +kernel) ⟨(Nat.le_of_ble_eq_true rfl), (Nat.le_of_ble_eq_true rfl)⟩) ⟨fun a U g mk q => by obtain ⟨q0, qP, qK⟩ := q; exact ⟨q0, qP, va_K.moved (u := U) (U := U.calling g mk a) (Vm.Alike.refl U.vm) qK⟩, va_recv hK hPc (ci := 6) (q0 := 0) rfl rfl, fun U hU hW => ⟨rfl, by rw [hU]; exact hPc, va_K.moved hW.alike hK⟩⟩ rfl rfl hl.1 rfl (lv_room (Nat.le_of_ble_eq_true rfl)) dgX3_find_42 ⟨(Nat.le_of_ble_eq_true rfl), (Nat.le_of_ble_eq_true rfl)⟩) hS (fun q _ h => h.elim) (fun q h => h.elim) (fun r9 un t H1 locs ht hvm hw9 hB hz1 hk1 hS => ?_)
        have hP := hP.kept (fun k9 x9 h9 => hk1 x9.1 ((hP k9 x9 h9).lt) id)
        generalize H1 = H at hP hS ⊢
        have hr9 : r9 = (cd_at C L K O (K2 b) (L2 b) (fun i => C2 (30 * b + i))) mid := hw9
        rw [← hr9] at hcd
        refine lv_istore (lv' := [(7, .int r9), (6, .int (nI mid)), (0, .ref aX), (1, .ref aY), (2, .int (nI b)), (3, .int (nI lo)), (4, .int (nI hi)), (5, .int (nI j))]) hx hb dgX3_find_45 hl (by decide) rfl (fun ls hl => ?_)
        refine lv_iload hx hb dgX3_find_47 (lv_at hl 0 rfl) ?_
        refine lv_if_ne (tgt := 55) hx hb dgX3_find_49 (by decide) (fun c1 => ?_) (fun c1 => ?_)
        · rw [if_neg c1] at hcd
          refine lv_iload hx hb dgX3_find_55 (lv_at hl 0 rfl) ?_
          refine lv_if_ge (tgt := 68) hx hb dgX3_find_57 (by decide) (fun c2 => ?_) (fun c2 => ?_)
          · rw [if_neg (Int32.not_lt.mpr c2)] at hcd
            refine lv_iload hx hb dgX3_find_68 (lv_at hl 1 rfl) ?_
            refine lv_istore (lv' := [(4, .int (nI mid)), (7, .int r9), (6, .int (nI mid)), (0, .ref aX), (1, .ref aY), (2, .int (nI b)), (3, .int (nI lo)), (5, .int (nI j))]) hx hb dgX3_find_70 hl (by decide) rfl (fun ls hl => ?_)
            refine lv_iinc (v := nI (j + 1)) (lv' := [(5, .int (nI (j + 1))), (4, .int (nI mid)), (7, .int r9), (6, .int (nI mid)), (0, .ref aX), (1, .ref aY), (2, .int (nI b)), (3, .int (nI lo))]) hx hb dgX3_find_72 hl (k := 7) rfl (nI_1 j) (by decide) rfl (fun ls hl => ?_)
            refine lv_goto (tgt := 11) hx hb dgX3_find_75 (by decide) ?_
            exact ih (j + 1) lo mid (by omega) (by omega) (by omega) hcd H locs ls hP hS (lv_sub hl [4, 5, 6, 7, 1, 0] rfl)
          · rw [if_pos (Int32.not_le.mp c2)] at hcd
            refine lv_iload hx hb dgX3_find_60 (lv_at hl 1 rfl) ?_
            refine lv_iconst (v := 1) hx hb dgX3_find_62 (by decide) ?_
            refine lv_iadd hx hb dgX3_find_63 ?_
            refine ow_topi (y := nI (mid + 1)) (nI_1 mid) ?_
            refine lv_istore_n (lv' := [(3, .int (nI (mid + 1))), (7, .int r9), (6, .int (nI mid)), (0, .ref aX), (1, .ref aY), (2, .int (nI b)), (4, .int (nI hi)), (5, .int (nI j))]) hx hb dgX3_find_64 rfl hl (by decide) rfl (fun ls hl => ?_)
            refine lv_goto (tgt := 72) hx hb dgX3_find_65 (by decide) ?_
            refine lv_iinc (v := nI (j + 1)) (lv' := [(5, .int (nI (j + 1))), (3, .int (nI (mid + 1))), (7, .int r9), (6, .int (nI mid)), (0, .ref aX), (1, .ref aY), (2, .int (nI b)), (4, .int (nI hi))]) hx hb dgX3_find_72 hl (k := 7) rfl (nI_1 j) (by decide) rfl (fun ls hl => ?_)
            refine lv_goto (tgt := 11) hx hb dgX3_find_75 (by decide) ?_
            exact ih (j + 1) (mid + 1) hi (by omega) (by omega) (by omega) hcd H locs ls hP hS (lv_sub hl [4, 5, 6, 1, 7, 0] rfl)
        · rw [if_pos c1] at hcd
          refine lv_iload hx hb dgX3_find_52 (lv_at hl 1 rfl) ?_
          rw [hQQ]
          exact W.iret (v := (nI mid)) hx hb hr (fun t ht hW => ⟨⟨(nI mid), (), rfl, by rw [hcd]; rfl, trivial⟩, hS.F ht⟩) hS.2.2 dgX3_find_54
      · rw [if_neg (by omega)] at hcd
        refine lv_iload hx hb dgX3_find_11 (lv_at hl 5 rfl) ?_
        refine lv_bipush (v := 32) hx hb dgX3_find_13 (by decide) ?_
        refine lv_icmp_ge (tgt := 78) hx hb dgX3_find_15 (by decide) (fun c9 => absurd c9 (nI_ge (a := j) (b := 32) (by omega) (by omega))) (fun _ => ?_)
        refine lv_iload_n hx hb dgX3_find_18 rfl (lv_at hl 3 rfl) ?_
        refine lv_iload hx hb dgX3_find_19 (lv_at hl 4 rfl) ?_
        refine lv_icmp_ge (tgt := 78) hx hb dgX3_find_21 (by decide) (fun _ => ?_) (fun c9 => absurd (nI_le (a := hi) (b := lo) hge (by omega)) c9)
        refine lv_iconst (v := (-1)) hx hb dgX3_find_78 (by decide) ?_
        refine lv_iload_n hx hb dgX3_find_79 rfl (lv_at hl 3 rfl) ?_
        refine lv_isub hx hb dgX3_find_80 ?_
        rw [hQQ]
        exact W.iret (v := ((-1) - (nI lo))) hx hb hr (fun t ht hW => ⟨⟨((-1) - (nI lo)), (), rfl, by rw [hcd]; rfl, trivial⟩, hS.F ht⟩) hS.2.2 dgX3_find_81
  refine lv_iconst (v := 0) hx hb dgX3_find_0 (by decide) ?_
  refine ow_topi (y := nI 0) (by decide) ?_
  refine lv_istore_n (lv' := [(3, .int (nI 0)), (0, .ref aX), (1, .ref aY), (2, .int (nI b))]) hx hb dgX3_find_1 rfl hl (by decide) rfl (fun ls hl => ?_)
  refine lv_aload_n hx hb dgX3_find_2 rfl (lv_at hl 1 rfl) ?_
  refine va_get (D := (dC, dI)) (ci := 6) (v := .int (nI z)) (C := RX3) (T := TX3) (N := 5) hx hb hts (fun _ h => List.mem_cons_of_mem _ (List.mem_append_left _ (List.mem_append_right _ h))) hown hK hP 0 rfl rfl 4 (by decide) (hts (.fieldLink RX3 37 "KnotHouse$Codes" "size" "I") (by decide +kernel)) (fun _ h9 => h9) rfl dgX3_find_3 ?_
  refine lv_istore (lv' := [(4, .int (nI z)), (3, .int (nI 0)), (0, .ref aX), (1, .ref aY), (2, .int (nI b))]) hx hb dgX3_find_6 hl (by decide) rfl (fun ls hl => ?_)
  refine lv_iconst (v := 0) hx hb dgX3_find_8 (by decide) ?_
  refine ow_topi (y := nI 0) (by decide) ?_
  refine lv_istore (lv' := [(5, .int (nI 0)), (4, .int (nI z)), (3, .int (nI 0)), (0, .ref aX), (1, .ref aY), (2, .int (nI b))]) hx hb dgX3_find_9 hl (by decide) rfl (fun ls hl => ?_)
  exact L11 32 0 0 z (by omega) (by omega) (Nat.le_refl z) rfl s.heap [] ls hP hS (lv_sub hl [3, 4, 5, 2, 1, 0] rfl)
theorem dgX3_insert_0 : decode cX3_insert 0 = .ok (.aload_n 0, 1) := by decide +kernel
theorem dgX3_insert_1 : decode cX3_insert 1 = .ok (.getfield 37, 3) := by decide +kernel
theorem dgX3_insert_4 : decode cX3_insert 4 = .ok (.aload_n 0, 1) := by decide +kernel
theorem dgX3_insert_5 : decode cX3_insert 5 = .ok (.getfield 21, 3) := by decide +kernel
theorem dgX3_insert_8 : decode cX3_insert 8 = .ok (.arraylength, 1) := by decide +kernel
theorem dgX3_insert_9 : decode cX3_insert 9 = .ok (.if_icmp .lt 4, 3) := by decide +kernel
theorem dgX3_insert_12 : decode cX3_insert 12 = .ok (.return_, 1) := by decide +kernel
theorem dgX3_insert_13 : decode cX3_insert 13 = .ok (.aload_n 0, 1) := by decide +kernel
theorem dgX3_insert_14 : decode cX3_insert 14 = .ok (.aload_n 0, 1) := by decide +kernel
theorem dgX3_insert_15 : decode cX3_insert 15 = .ok (.getfield 37, 3) := by decide +kernel
theorem dgX3_insert_18 : decode cX3_insert 18 = .ok (.aload_n 2, 1) := by decide +kernel
theorem dgX3_insert_19 : decode cX3_insert 19 = .ok (.iload_n 3, 1) := by decide +kernel
theorem dgX3_insert_20 : decode cX3_insert 20 = .ok (.invokevirtual 53, 3) := by decide +kernel
theorem dgX3_insert_23 : decode cX3_insert 23 = .ok (.aload_n 0, 1) := by decide +kernel
theorem dgX3_insert_24 : decode cX3_insert 24 = .ok (.getfield 21, 3) := by decide +kernel
theorem dgX3_insert_27 : decode cX3_insert 27 = .ok (.iload_n 1, 1) := by decide +kernel
theorem dgX3_insert_28 : decode cX3_insert 28 = .ok (.aload_n 0, 1) := by decide +kernel
theorem dgX3_insert_29 : decode cX3_insert 29 = .ok (.getfield 21, 3) := by decide +kernel
theorem dgX3_insert_32 : decode cX3_insert 32 = .ok (.iload_n 1, 1) := by decide +kernel
theorem dgX3_insert_33 : decode cX3_insert 33 = .ok (.iconst 1, 1) := by decide +kernel
theorem dgX3_insert_34 : decode cX3_insert 34 = .ok (.iadd, 1) := by decide +kernel
theorem dgX3_insert_35 : decode cX3_insert 35 = .ok (.aload_n 0, 1) := by decide +kernel
theorem dgX3_insert_36 : decode cX3_insert 36 = .ok (.getfield 37, 3) := by decide +kernel
theorem dgX3_insert_39 : decode cX3_insert 39 = .ok (.iload_n 1, 1) := by decide +kernel
theorem dgX3_insert_40 : decode cX3_insert 40 = .ok (.isub, 1) := by decide +kernel
theorem dgX3_insert_41 : decode cX3_insert 41 = .ok (.invokestatic 25, 3) := by decide +kernel
theorem dgX3_insert_44 : decode cX3_insert 44 = .ok (.aload_n 0, 1) := by decide +kernel
theorem dgX3_insert_45 : decode cX3_insert 45 = .ok (.getfield 21, 3) := by decide +kernel
theorem dgX3_insert_48 : decode cX3_insert 48 = .ok (.iload_n 1, 1) := by decide +kernel
theorem dgX3_insert_49 : decode cX3_insert 49 = .ok (.aload_n 0, 1) := by decide +kernel
theorem dgX3_insert_50 : decode cX3_insert 50 = .ok (.getfield 37, 3) := by decide +kernel
theorem dgX3_insert_53 : decode cX3_insert 53 = .ok (.iastore, 1) := by decide +kernel
theorem dgX3_insert_54 : decode cX3_insert 54 = .ok (.aload_n 0, 1) := by decide +kernel
theorem dgX3_insert_55 : decode cX3_insert 55 = .ok (.dup, 1) := by decide +kernel
theorem dgX3_insert_56 : decode cX3_insert 56 = .ok (.getfield 37, 3) := by decide +kernel
theorem dgX3_insert_59 : decode cX3_insert 59 = .ok (.iconst 1, 1) := by decide +kernel
theorem dgX3_insert_60 : decode cX3_insert 60 = .ok (.iadd, 1) := by decide +kernel
theorem dgX3_insert_61 : decode cX3_insert 61 = .ok (.putfield 37, 3) := by decide +kernel
theorem dgX3_insert_64 : decode cX3_insert 64 = .ok (.return_, 1) := by decide +kernel
def wg_X3_insert : List Cond := .code yX3_insert cX3_insert 4 none :: (([.fieldLink RX3 37 "KnotHouse$Codes" "size" "I", .fieldLink RX3 21 "KnotHouse$Codes" "order" "[I", .methodLink RX3 25 arraycopyName, .native arraycopyName, .static arraycopyName, .initialized "java/lang/System"] ++ wsX30) ++ (wsV RX3 53 RX3 yX3_write wg_X3_write ++ []))
theorem gg_X3_insert_0 : GoodIn wg_X3_insert (wsV RX3 53 RX3 yX3_write wg_X3_write) := goodIn_sub (fun _ h => List.mem_cons_of_mem _ (List.mem_append_right _ (List.mem_append_left _ h))) (by decide +kernel)
set_option maxHeartbeats 4000000 in
set_option maxRecDepth 100000 in
theorem kg_X3_insert (l : Launch) (dC : Nat → ClassId) (dI : Nat → Nat → Nat) (cI cB cJ cZ : ClassId) (aX aY : Nat) (fx fy : Nat → Nat) (n k : Nat) (hn : n < 2 ^ 24) (hk : k < 2 ^ 24) (C L K O C2 L2 K2 : Nat → Nat) (z : Nat) (zy : Int32) (hz : z < n) (b wh : Nat) (hbk : b < k) (hwz : wh ≤ z) (hC2 : ow_b128 C2) (hL2 : ow_b128 L2) (hK2 : ow_b128 K2) (sz : Nat) : Met l yX3_insert wg_X3_insert (({ frames := 2, cells := 0, slots := 0, locals := 70 } : Room)) (va_Pc [.ref aX, .int (nI wh), .ref aY, .int (nI b)] (fun U => U.heap.size = sz ∧ va_P (dC, dI) vwCl [(aX, .inr (6, [.ref (fx 0), .ref (fx 1), .ref (fx 2), .ref (fx 3), .int (nI z)])), ((fx 0), .inl (cB, (30 * n), .inl (ow_nI C))), ((fx 1), .inl (cB, n, .inl (ow_nI L))), ((fx 2), .inl (cB, n, .inl (ow_nI K))), ((fx 3), .inl (cI, n, .inl (ow_nI O))), (aY, .inr (6, [.ref (fy 0), .ref (fy 1), .ref (fy 2), .ref (fy 3), .int zy])), ((fy 0), .inl (cB, (30 * k), .inl (ow_nI C2))), ((fy 1), .inl (cB, k, .inl (ow_nI L2))), ((fy 2), .inl (cB, k, .inl (ow_nI K2)))] U.heap ∧ va_K (dC, dI) vwCl [(cI, .int), (cB, .byte), (cJ, .long), (cZ, .boolean)] U ∧ va_D (fun _ => True) [(aX, .inr (6, [.ref (fx 0), .ref (fx 1), .ref (fx 2), .ref (fx 3), .int (nI z)])), ((fx 0), .inl (cB, (30 * n), .inl (ow_nI C))), ((fx 1), .inl (cB, n, .inl (ow_nI L))), ((fx 2), .inl (cB, n, .inl (ow_nI K))), ((fx 3), .inl (cI, n, .inl (ow_nI O))), (aY, .inr (6, [.ref (fy 0), .ref (fy 1), .ref (fy 2), .ref (fy 3), .int zy])), ((fy 0), .inl (cB, (30 * k), .inl (ow_nI C2))), ((fy 1), .inl (cB, k, .inl (ow_nI L2))), ((fy 2), .inl (cB, k, .inl (ow_nI K2)))])) (va_Qv (fun (g : Unit) => True) (fun g t => va_P (dC, dI) vwCl [(aX, .inr (6, [.ref (fx 0), .ref (fx 1), .ref (fx 2), .ref (fx 3), .int (nI (z + 1))])), ((fx 0), .inl (cB, (30 * n), .inl (ow_nI (va_cpy C2 C (30 * b) (30 * z) 30)))), ((fx 1), .inl (cB, n, .inl (ow_nI (nu L z (L2 b))))), ((fx 2), .inl (cB, n, .inl (ow_nI (nu K z (K2 b))))), ((fx 3), .inl (cI, n, .inl (ow_nI (nu (va_cpy O O wh (wh + 1) (z - wh)) wh z)))), (aY, .inr (6, [.ref (fy 0), .ref (fy 1), .ref (fy 2), .ref (fy 3), .int zy])), ((fy 0), .inl (cB, (30 * k), .inl (ow_nI C2))), ((fy 1), .inl (cB, k, .inl (ow_nI L2))), ((fy 2), .inl (cB, k, .inl (ow_nI K2)))] t.heap ∧ va_D (va_A [(aX, .inr (6, [.ref (fx 0), .ref (fx 1), .ref (fx 2), .ref (fx 3), .int (nI z)])), ((fx 0), .inl (cB, (30 * n), .inl (ow_nI C))), ((fx 1), .inl (cB, n, .inl (ow_nI L))), ((fx 2), .inl (cB, n, .inl (ow_nI K))), ((fx 3), .inl (cI, n, .inl (ow_nI O))), (aY, .inr (6, [.ref (fy 0), .ref (fy 1), .ref (fy 2), .ref (fy 3), .int zy])), ((fy 0), .inl (cB, (30 * k), .inl (ow_nI C2))), ((fy 1), .inl (cB, k, .inl (ow_nI L2))), ((fy 2), .inl (cB, k, .inl (ow_nI K2)))] sz) [(aX, .inr (6, [.ref (fx 0), .ref (fx 1), .ref (fx 2), .ref (fx 3), .int (nI (z + 1))])), ((fx 0), .inl (cB, (30 * n), .inl (ow_nI (va_cpy C2 C (30 * b) (30 * z) 30)))), ((fx 1), .inl (cB, n, .inl (ow_nI (nu L z (L2 b))))), ((fx 2), .inl (cB, n, .inl (ow_nI (nu K z (K2 b))))), ((fx 3), .inl (cI, n, .inl (ow_nI (nu (va_cpy O O wh (wh + 1) (z - wh)) wh z)))), (aY, .inr (6, [.ref (fy 0), .ref (fy 1), .ref (fy 2), .ref (fy 3), .int zy])), ((fy 0), .inl (cB, (30 * k), .inl (ow_nI C2))), ((fy 1), .inl (cB, k, .inl (ow_nI L2))), ((fy 2), .inl (cB, k, .inl (ow_nI K2)))]) (va_A [(aX, .inr (6, [.ref (fx 0), .ref (fx 1), .ref (fx 2), .ref (fx 3), .int (nI z)])), ((fx 0), .inl (cB, (30 * n), .inl (ow_nI C))), ((fx 1), .inl (cB, n, .inl (ow_nI L))), ((fx 2), .inl (cB, n, .inl (ow_nI K))), ((fx 3), .inl (cI, n, .inl (ow_nI O))), (aY, .inr (6, [.ref (fy 0), .ref (fy 1), .ref (fy 2), .ref (fy 3), .int zy])), ((fy 0), .inl (cB, (30 * k), .inl (ow_nI C2))), ((fy 1), .inl (cB, k, .inl (ow_nI L2))), ((fy 2), .inl (cB, k, .inl (ow_nI K2)))] sz)) 0 0 (va_A [(aX, .inr (6, [.ref (fx 0), .ref (fx 1), .ref (fx 2), .ref (fx 3), .int (nI z)])), ((fx 0), .inl (cB, (30 * n), .inl (ow_nI C))), ((fx 1), .inl (cB, n, .inl (ow_nI L))), ((fx 2), .inl (cB, n, .inl (ow_nI K))), ((fx 3), .inl (cI, n, .inl (ow_nI O))), (aY, .inr (6, [.ref (fy 0), .ref (fy 1), .ref (fy 2), .ref (fy 3), .int zy])), ((fy 0), .inl (cB, (30 * k), .inl (ow_nI C2))), ((fy 1), .inl (cB, k, .inl (ow_nI L2))), ((fy 2), .inl (cB, k, .inl (ow_nI K2)))] sz) := by
  refine Met.ofW (cc := cX3_insert) (maxL := 4) (ret := none) (by decide) rfl ?_
  intro p e s m args below meth c s₁ B hml hv
  obtain ⟨rfl, hsz, hP, hK, hD0⟩ := hv
  have hx := B.exec
  have hb := B.bytes
  have hr := B.returns
  have hts := atoms_spec (ws := wg_X3_insert) B.pre
  have hown : s.vm.findClass RX3 = some m.cls := findClass_of_methodNamed B.named
  have hlocks := B.notSynchronized
  subst hsz
  have hD := hD0.self (sz := s.heap.size)
  generalize hAe : va_A [(aX, .inr (6, [.ref (fx 0), .ref (fx 1), .ref (fx 2), .ref (fx 3), .int (nI z)])), ((fx 0), .inl (cB, (30 * n), .inl (ow_nI C))), ((fx 1), .inl (cB, n, .inl (ow_nI L))), ((fx 2), .inl (cB, n, .inl (ow_nI K))), ((fx 3), .inl (cI, n, .inl (ow_nI O))), (aY, .inr (6, [.ref (fy 0), .ref (fy 1), .ref (fy 2), .ref (fy 3), .int zy])), ((fy 0), .inl (cB, (30 * k), .inl (ow_nI C2))), ((fy 1), .inl (cB, k, .inl (ow_nI L2))), ((fy 2), .inl (cB, k, .inl (ow_nI K2)))] s.heap.size = A at hD ⊢
  have hA : ∀ q : Nat, s.heap.size ≤ q → A q := fun q h => by rw [← hAe]; exact Or.inr h
  have hS : va_S A s.heap s.heap [] := va_S.rf
  have hP : va_P (dC, dI) vwCl [(aX, .inr (6, [.ref (fx 0), .ref (fx 1), .ref (fx 2), .ref (fx 3), .int (nI z)])), ((fx 0), .inl (cB, (30 * n), .inl (ow_nI C))), ((fx 1), .inl (cB, n, .inl (ow_nI L))), ((fx 2), .inl (cB, n, .inl (ow_nI K))), ((fx 3), .inl (cI, n, .inl (ow_nI O))), (aY, .inr (6, [.ref (fy 0), .ref (fy 1), .ref (fy 2), .ref (fy 3), .int zy])), ((fy 0), .inl (cB, (30 * k), .inl (ow_nI C2))), ((fy 1), .inl (cB, k, .inl (ow_nI L2))), ((fy 2), .inl (cB, k, .inl (ow_nI K2)))] s.heap := hP
  have hl := lv_entry ([.ref aX, .int (nI wh), .ref aY, .int (nI b)]) (n := 4) (Nat.le_of_ble_eq_true rfl)
  rw [lg_entry_eq]
  generalize (lg_sl ([.ref aX, .int (nI wh), .ref aY, .int (nI b)]) ++ List.replicate (4 - (lg_sl ([.ref aX, .int (nI wh), .ref aY, .int (nI b)])).length) Slot.unset).toArray = ls at hl ⊢
  have hl : lv_has ls 4 [(0, .ref aX), (1, .int (nI wh)), (2, .ref aY), (3, .int (nI b))] := hl
  refine ow_named (fun QQ hQQ => ?_)
  suffices key9 : ∀ (H : Heap) (locs : List Loc), va_P (dC, dI) vwCl [(aX, .inr (6, [.ref (fx 0), .ref (fx 1), .ref (fx 2), .ref (fx 3), .int (nI z)])), ((fx 0), .inl (cB, (30 * n), .inl (ow_nI C))), ((fx 1), .inl (cB, n, .inl (ow_nI L))), ((fx 2), .inl (cB, n, .inl (ow_nI K))), ((fx 3), .inl (cI, n, .inl (ow_nI O))), (aY, .inr (6, [.ref (fy 0), .ref (fy 1), .ref (fy 2), .ref (fy 3), .int zy])), ((fy 0), .inl (cB, (30 * k), .inl (ow_nI C2))), ((fy 1), .inl (cB, k, .inl (ow_nI L2))), ((fy 2), .inl (cB, k, .inl (ow_nI K2)))] H → va_S A s.heap H locs → W p l e ({ frames := 2, cells := 0, slots := 0, locals := 70 } : Room) s m ([.ref aX, .int (nI wh), .ref aY, .int (nI b)] : List Value).toArray below meth c H locs 0 0 QQ (F0 m 0 ls []) from key9 s.heap [] hP hS
  intro H locs hP hS
  refine lv_aload_n hx hb dgX3_insert_0 rfl (lv_at hl 0 rfl) ?_
  refine va_get (D := (dC, dI)) (ci := 6) (v := .int (nI z)) (C := RX3) (T := TX3) (N := 5) hx hb hts (fun _ h => List.mem_cons_of_mem _ (List.mem_append_left _ (List.mem_append_right _ h))) hown hK hP 0 rfl rfl 4 (by decide) (hts (.fieldLink RX3 37 "KnotHouse$Codes" "size" "I") (by decide +kernel)) (fun _ h9 => h9) rfl dgX3_insert_1 ?_
  refine lv_aload_n hx hb dgX3_insert_4 rfl (lv_at hl 0 rfl) ?_
  refine va_get (D := (dC, dI)) (ci := 6) (v := .ref (fx 3)) (C := RX3) (T := TX3) (N := 5) hx hb hts (fun _ h => List.mem_cons_of_mem _ (List.mem_append_left _ (List.mem_append_right _ h))) hown hK hP 0 rfl rfl 3 (by decide) (hts (.fieldLink RX3 21 "KnotHouse$Codes" "order" "[I") (by decide +kernel)) (fun _ h9 => h9) rfl dgX3_insert_5 ?_
  refine va_alen (v := (nI n)) hx hb hK hP 4 0 rfl rfl rfl dgX3_insert_8 ?_
  refine lv_icmp_lt (tgt := 13) hx hb dgX3_insert_9 (by decide) (fun _ => ?_) (fun c9 => absurd (nI_lt (a := z) (b := n) hz (by omega)) c9)
  refine lv_aload_n hx hb dgX3_insert_13 rfl (lv_at hl 0 rfl) ?_
  refine lv_aload_n hx hb dgX3_insert_14 rfl (lv_at hl 0 rfl) ?_
  refine va_get (D := (dC, dI)) (ci := 6) (v := .int (nI z)) (C := RX3) (T := TX3) (N := 5) hx hb hts (fun _ h => List.mem_cons_of_mem _ (List.mem_append_left _ (List.mem_append_right _ h))) hown hK hP 0 rfl rfl 4 (by decide) (hts (.fieldLink RX3 37 "KnotHouse$Codes" "size" "I") (by decide +kernel)) (fun _ h9 => h9) rfl dgX3_insert_15 ?_
  refine lv_aload_n hx hb dgX3_insert_18 rfl (lv_at hl 2 rfl) ?_
  refine lv_iload_n hx hb dgX3_insert_19 rfl (lv_at hl 3 rfl) ?_
  have hPc := hP.sub (ws' := [(aX, .inr (6, [.ref (fx 0), .ref (fx 1), .ref (fx 2), .ref (fx 3), .int (nI z)])), ((fx 0), .inl (cB, (30 * n), .inl (ow_nI C))), ((fx 1), .inl (cB, n, .inl (ow_nI L))), ((fx 2), .inl (cB, n, .inl (ow_nI K))), (aY, .inr (6, [.ref (fy 0), .ref (fy 1), .ref (fy 2), .ref (fy 3), .int zy])), ((fy 0), .inl (cB, (30 * k), .inl (ow_nI C2))), ((fy 1), .inl (cB, k, .inl (ow_nI L2))), ((fy 2), .inl (cB, k, .inl (ow_nI K2)))]) [0, 1, 2, 3, 5, 6, 7, 8] rfl
  have hDc := hD.sub (ws' := [(aX, .inr (6, [.ref (fx 0), .ref (fx 1), .ref (fx 2), .ref (fx 3), .int (nI z)])), ((fx 0), .inl (cB, (30 * n), .inl (ow_nI C))), ((fx 1), .inl (cB, n, .inl (ow_nI L))), ((fx 2), .inl (cB, n, .inl (ow_nI K))), (aY, .inr (6, [.ref (fy 0), .ref (fy 1), .ref (fy 2), .ref (fy 3), .int zy])), ((fy 0), .inl (cB, (30 * k), .inl (ow_nI C2))), ((fy 1), .inl (cB, k, .inl (ow_nI L2))), ((fy 2), .inl (cB, k, .inl (ow_nI K2)))]) [0, 1, 2, 3, 5, 6, 7, 8] (by decide) rfl
  have hFc := va_free (wc := [(aX, .inr (6, [.ref (fx 0), .ref (fx 1), .ref (fx 2), .ref (fx 3), .int (nI z)])), ((fx 0), .inl (cB, (30 * n), .inl (ow_nI C))), ((fx 1), .inl (cB, n, .inl (ow_nI L))), ((fx 2), .inl (cB, n, .inl (ow_nI K))), (aY, .inr (6, [.ref (fy 0), .ref (fy 1), .ref (fy 2), .ref (fy 3), .int zy])), ((fy 0), .inl (cB, (30 * k), .inl (ow_nI C2))), ((fy 1), .inl (cB, k, .inl (ow_nI L2))), ((fy 2), .inl (cB, k, .inl (ow_nI K2)))]) hD hS hA [0, 1, 2, 3, 5, 6, 7, 8] rfl
  refine va_callv (va_runV (As := [.int (nI z), .ref aY, .int (nI b)]) (rest := []) ⟨hx, hb, hml, hown, hts⟩ (kg_X3_write l dC dI cI cB cJ cZ aX aY fx fy n k hn hk C L K C2 L2 K2 (nI z) zy z b hz hbk hC2 hL2 hK2 H.size) (cwV 3 hts gg_X3_insert_0 rfl rfl rfl (by decide +kernel) ⟨(Nat.le_of_ble_eq_true rfl), (Nat.le_of_ble_eq_true rfl)⟩) ⟨fun a U g mk q => by obtain ⟨q0, q1, qP, qK, qD⟩ := q; exact ⟨q0, q1, qP, va_K.moved (u := U) (U := U.calling g mk a) (Vm.Alike.refl U.vm) qK, qD⟩, va_recv hK hPc (ci := 6) (q0 := 0) rfl rfl, fun U hU hW => ⟨rfl, by rw [hU], by rw [hU]; exact hPc, va_K.moved hW.alike hK, hDc.weaken (fun _ _ _ _ => trivial)⟩⟩ rfl rfl hl.1 rfl (lv_room (Nat.le_of_ble_eq_true rfl)) dgX3_insert_20 ⟨(Nat.le_of_ble_eq_true rfl), (Nat.le_of_ble_eq_true rfl)⟩) hS (fun q _ h => hFc q h) hFc (fun u9 t H1 locs ht hvm hw hB hz1 hk1 hS => ?_)
  obtain ⟨hP1, hD1⟩ := hB
  rw [ht] at hP1
  obtain ⟨hP, hD⟩ := va_join (wr := [((fx 3), .inl (cI, n, .inl (ow_nI O)))]) (w1 := [(aX, .inr (6, [.ref (fx 0), .ref (fx 1), .ref (fx 2), .ref (fx 3), .int (nI z)])), ((fx 0), .inl (cB, (30 * n), .inl (ow_nI (va_cpy C2 C (30 * b) (30 * z) 30)))), ((fx 1), .inl (cB, n, .inl (ow_nI (nu L z (L2 b))))), ((fx 2), .inl (cB, n, .inl (ow_nI (nu K z (K2 b))))), (aY, .inr (6, [.ref (fy 0), .ref (fy 1), .ref (fy 2), .ref (fy 3), .int zy])), ((fy 0), .inl (cB, (30 * k), .inl (ow_nI C2))), ((fy 1), .inl (cB, k, .inl (ow_nI L2))), ((fy 2), .inl (cB, k, .inl (ow_nI K2)))]) hP hD [0, 1, 2, 3, 5, 6, 7, 8] [4] rfl rfl (by decide) (by decide) hk1 hFc hP1 hD1
  generalize H1 = H at hP hS ⊢
  have hP : va_P (dC, dI) vwCl [((fx 3), .inl (cI, n, .inl (ow_nI O))), (aX, .inr (6, [.ref (fx 0), .ref (fx 1), .ref (fx 2), .ref (fx 3), .int (nI z)])), ((fx 0), .inl (cB, (30 * n), .inl (ow_nI (va_cpy C2 C (30 * b) (30 * z) 30)))), ((fx 1), .inl (cB, n, .inl (ow_nI (nu L z (L2 b))))), ((fx 2), .inl (cB, n, .inl (ow_nI (nu K z (K2 b))))), (aY, .inr (6, [.ref (fy 0), .ref (fy 1), .ref (fy 2), .ref (fy 3), .int zy])), ((fy 0), .inl (cB, (30 * k), .inl (ow_nI C2))), ((fy 1), .inl (cB, k, .inl (ow_nI L2))), ((fy 2), .inl (cB, k, .inl (ow_nI K2)))] H := hP
  have hD : va_D A [((fx 3), .inl (cI, n, .inl (ow_nI O))), (aX, .inr (6, [.ref (fx 0), .ref (fx 1), .ref (fx 2), .ref (fx 3), .int (nI z)])), ((fx 0), .inl (cB, (30 * n), .inl (ow_nI (va_cpy C2 C (30 * b) (30 * z) 30)))), ((fx 1), .inl (cB, n, .inl (ow_nI (nu L z (L2 b))))), ((fx 2), .inl (cB, n, .inl (ow_nI (nu K z (K2 b))))), (aY, .inr (6, [.ref (fy 0), .ref (fy 1), .ref (fy 2), .ref (fy 3), .int zy])), ((fy 0), .inl (cB, (30 * k), .inl (ow_nI C2))), ((fy 1), .inl (cB, k, .inl (ow_nI L2))), ((fy 2), .inl (cB, k, .inl (ow_nI K2)))] := hD
  have hP := hP.sub (ws' := [(aX, .inr (6, [.ref (fx 0), .ref (fx 1), .ref (fx 2), .ref (fx 3), .int (nI z)])), ((fx 0), .inl (cB, (30 * n), .inl (ow_nI (va_cpy C2 C (30 * b) (30 * z) 30)))), ((fx 1), .inl (cB, n, .inl (ow_nI (nu L z (L2 b))))), ((fx 2), .inl (cB, n, .inl (ow_nI (nu K z (K2 b))))), ((fx 3), .inl (cI, n, .inl (ow_nI O))), (aY, .inr (6, [.ref (fy 0), .ref (fy 1), .ref (fy 2), .ref (fy 3), .int zy])), ((fy 0), .inl (cB, (30 * k), .inl (ow_nI C2))), ((fy 1), .inl (cB, k, .inl (ow_nI L2))), ((fy 2), .inl (cB, k, .inl (ow_nI K2)))]) [1, 2, 3, 4, 0, 5, 6, 7, 8] rfl
  have hD := hD.sub (ws' := [(aX, .inr (6, [.ref (fx 0), .ref (fx 1), .ref (fx 2), .ref (fx 3), .int (nI z)])), ((fx 0), .inl (cB, (30 * n), .inl (ow_nI (va_cpy C2 C (30 * b) (30 * z) 30)))), ((fx 1), .inl (cB, n, .inl (ow_nI (nu L z (L2 b))))), ((fx 2), .inl (cB, n, .inl (ow_nI (nu K z (K2 b))))), ((fx 3), .inl (cI, n, .inl (ow_nI O))), (aY, .inr (6, [.ref (fy 0), .ref (fy 1), .ref (fy 2), .ref (fy 3), .int zy])), ((fy 0), .inl (cB, (30 * k), .inl (ow_nI C2))), ((fy 1), .inl (cB, k, .inl (ow_nI L2))), ((fy 2), .inl (cB, k, .inl (ow_nI K2)))]) [1, 2, 3, 4, 0, 5, 6, 7, 8] (by decide) rfl
  refine lv_aload_n hx hb dgX3_insert_23 rfl (lv_at hl 0 rfl) ?_
  refine va_get (D := (dC, dI)) (ci := 6) (v := .ref (fx 3)) (C := RX3) (T := TX3) (N := 5) hx hb hts (fun _ h => List.mem_cons_of_mem _ (List.mem_append_left _ (List.mem_append_right _ h))) hown hK hP 0 rfl rfl 3 (by decide) (hts (.fieldLink RX3 21 "KnotHouse$Codes" "order" "[I") (by decide +kernel)) (fun _ h9 => h9) rfl dgX3_insert_24 ?_
  refine lv_iload_n hx hb dgX3_insert_27 rfl (lv_at hl 1 rfl) ?_
  refine lv_aload_n hx hb dgX3_insert_28 rfl (lv_at hl 0 rfl) ?_
  refine va_get (D := (dC, dI)) (ci := 6) (v := .ref (fx 3)) (C := RX3) (T := TX3) (N := 5) hx hb hts (fun _ h => List.mem_cons_of_mem _ (List.mem_append_left _ (List.mem_append_right _ h))) hown hK hP 0 rfl rfl 3 (by decide) (hts (.fieldLink RX3 21 "KnotHouse$Codes" "order" "[I") (by decide +kernel)) (fun _ h9 => h9) rfl dgX3_insert_29 ?_
  refine lv_iload_n hx hb dgX3_insert_32 rfl (lv_at hl 1 rfl) ?_
  refine lv_iconst (v := 1) hx hb dgX3_insert_33 (by decide) ?_
  refine lv_iadd hx hb dgX3_insert_34 ?_
  refine ow_topi (y := nI (wh + 1)) (nI_1 wh) ?_
  refine lv_aload_n hx hb dgX3_insert_35 rfl (lv_at hl 0 rfl) ?_
  refine va_get (D := (dC, dI)) (ci := 6) (v := .int (nI z)) (C := RX3) (T := TX3) (N := 5) hx hb hts (fun _ h => List.mem_cons_of_mem _ (List.mem_append_left _ (List.mem_append_right _ h))) hown hK hP 0 rfl rfl 4 (by decide) (hts (.fieldLink RX3 37 "KnotHouse$Codes" "size" "I") (by decide +kernel)) (fun _ h9 => h9) rfl dgX3_insert_36 ?_
  refine lv_iload_n hx hb dgX3_insert_39 rfl (lv_at hl 1 rfl) ?_
  refine lv_isub hx hb dgX3_insert_40 ?_
  refine ow_topi (y := nI (z - wh)) (pk_sub hwz) ?_
  refine ow_cpyi (sp := wh) (dp := wh + 1) (n := z - wh) hx hb (by rw [hml]; exact hl.1.symm) hown (hts (.methodLink RX3 25 arraycopyName) (by decide +kernel)) (hts (.native arraycopyName) (by decide +kernel)) (hts (.static arraycopyName) (by decide +kernel)) (hts (.initialized "java/lang/System") (by decide +kernel)) hK hP hD hS 4 4 0 0 rfl rfl rfl rfl (by omega) (by omega) (by omega) (by omega) (Nat.le_of_ble_eq_true rfl) (by decide) dgX3_insert_41 (fun H locs hP hD hS => ?_)
  have hP : va_P (dC, dI) vwCl [(aX, .inr (6, [.ref (fx 0), .ref (fx 1), .ref (fx 2), .ref (fx 3), .int (nI z)])), ((fx 0), .inl (cB, (30 * n), .inl (ow_nI (va_cpy C2 C (30 * b) (30 * z) 30)))), ((fx 1), .inl (cB, n, .inl (ow_nI (nu L z (L2 b))))), ((fx 2), .inl (cB, n, .inl (ow_nI (nu K z (K2 b))))), ((fx 3), .inl (cI, n, .inl (ow_nI (va_cpy O O wh (wh + 1) (z - wh))))), (aY, .inr (6, [.ref (fy 0), .ref (fy 1), .ref (fy 2), .ref (fy 3), .int zy])), ((fy 0), .inl (cB, (30 * k), .inl (ow_nI C2))), ((fy 1), .inl (cB, k, .inl (ow_nI L2))), ((fy 2), .inl (cB, k, .inl (ow_nI K2)))] H := by rw [← np_cpyI O O wh (wh + 1) (z - wh)]; exact hP
  have hD : va_D A [(aX, .inr (6, [.ref (fx 0), .ref (fx 1), .ref (fx 2), .ref (fx 3), .int (nI z)])), ((fx 0), .inl (cB, (30 * n), .inl (ow_nI (va_cpy C2 C (30 * b) (30 * z) 30)))), ((fx 1), .inl (cB, n, .inl (ow_nI (nu L z (L2 b))))), ((fx 2), .inl (cB, n, .inl (ow_nI (nu K z (K2 b))))), ((fx 3), .inl (cI, n, .inl (ow_nI (va_cpy O O wh (wh + 1) (z - wh))))), (aY, .inr (6, [.ref (fy 0), .ref (fy 1), .ref (fy 2), .ref (fy 3), .int zy])), ((fy 0), .inl (cB, (30 * k), .inl (ow_nI C2))), ((fy 1), .inl (cB, k, .inl (ow_nI L2))), ((fy 2), .inl (cB, k, .inl (ow_nI K2)))] := by rw [← np_cpyI O O wh (wh + 1) (z - wh)]; exact hD
  refine lv_aload_n hx hb dgX3_insert_44 rfl (lv_at hl 0 rfl) ?_
  refine va_get (D := (dC, dI)) (ci := 6) (v := .ref (fx 3)) (C := RX3) (T := TX3) (N := 5) hx hb hts (fun _ h => List.mem_cons_of_mem _ (List.mem_append_left _ (List.mem_append_right _ h))) hown hK hP 0 rfl rfl 3 (by decide) (hts (.fieldLink RX3 21 "KnotHouse$Codes" "order" "[I") (by decide +kernel)) (fun _ h9 => h9) rfl dgX3_insert_45 ?_
  refine lv_iload_n hx hb dgX3_insert_48 rfl (lv_at hl 1 rfl) ?_
  refine lv_aload_n hx hb dgX3_insert_49 rfl (lv_at hl 0 rfl) ?_
  refine va_get (D := (dC, dI)) (ci := 6) (v := .int (nI z)) (C := RX3) (T := TX3) (N := 5) hx hb hts (fun _ h => List.mem_cons_of_mem _ (List.mem_append_left _ (List.mem_append_right _ h))) hown hK hP 0 rfl rfl 4 (by decide) (hts (.fieldLink RX3 37 "KnotHouse$Codes" "size" "I") (by decide +kernel)) (fun _ h9 => h9) rfl dgX3_insert_50 ?_
  refine ow_iastN (j := wh) (w := z) hx hb hK hP hD hS 4 0 rfl rfl (by omega) (by omega) dgX3_insert_53 (fun H locs hP hD hS => ?_)
  have hP : va_P (dC, dI) vwCl [(aX, .inr (6, [.ref (fx 0), .ref (fx 1), .ref (fx 2), .ref (fx 3), .int (nI z)])), ((fx 0), .inl (cB, (30 * n), .inl (ow_nI (va_cpy C2 C (30 * b) (30 * z) 30)))), ((fx 1), .inl (cB, n, .inl (ow_nI (nu L z (L2 b))))), ((fx 2), .inl (cB, n, .inl (ow_nI (nu K z (K2 b))))), ((fx 3), .inl (cI, n, .inl (ow_nI (nu (va_cpy O O wh (wh + 1) (z - wh)) wh z)))), (aY, .inr (6, [.ref (fy 0), .ref (fy 1), .ref (fy 2), .ref (fy 3), .int zy])), ((fy 0), .inl (cB, (30 * k), .inl (ow_nI C2))), ((fy 1), .inl (cB, k, .inl (ow_nI L2))), ((fy 2), .inl (cB, k, .inl (ow_nI K2)))] H := hP
  have hD : va_D A [(aX, .inr (6, [.ref (fx 0), .ref (fx 1), .ref (fx 2), .ref (fx 3), .int (nI z)])), ((fx 0), .inl (cB, (30 * n), .inl (ow_nI (va_cpy C2 C (30 * b) (30 * z) 30)))), ((fx 1), .inl (cB, n, .inl (ow_nI (nu L z (L2 b))))), ((fx 2), .inl (cB, n, .inl (ow_nI (nu K z (K2 b))))), ((fx 3), .inl (cI, n, .inl (ow_nI (nu (va_cpy O O wh (wh + 1) (z - wh)) wh z)))), (aY, .inr (6, [.ref (fy 0), .ref (fy 1), .ref (fy 2), .ref (fy 3), .int zy])), ((fy 0), .inl (cB, (30 * k), .inl (ow_nI C2))), ((fy 1), .inl (cB, k, .inl (ow_nI L2))), ((fy 2), .inl (cB, k, .inl (ow_nI K2)))] := hD
  refine lv_aload_n hx hb dgX3_insert_54 rfl (lv_at hl 0 rfl) ?_
  refine lv_dup hx hb dgX3_insert_55 rfl ?_
  refine va_get (D := (dC, dI)) (ci := 6) (v := .int (nI z)) (C := RX3) (T := TX3) (N := 5) hx hb hts (fun _ h => List.mem_cons_of_mem _ (List.mem_append_left _ (List.mem_append_right _ h))) hown hK hP 0 rfl rfl 4 (by decide) (hts (.fieldLink RX3 37 "KnotHouse$Codes" "size" "I") (by decide +kernel)) (fun _ h9 => h9) rfl dgX3_insert_56 ?_
  refine lv_iconst (v := 1) hx hb dgX3_insert_59 (by decide) ?_
  refine lv_iadd hx hb dgX3_insert_60 ?_
  refine ow_topi (y := nI (z + 1)) (nI_1 z) ?_
  refine va_put (D := (dC, dI)) (ci := 6) (v := .int (nI (z + 1))) (ty := .int) (C := RX3) (T := TX3) (N := 5) hx hb hts (fun _ h => List.mem_cons_of_mem _ (List.mem_append_left _ (List.mem_append_right _ h))) tyX3 tyX3_ok nmX3 hown hK hP hD hS 0 rfl rfl 4 (by decide) (hts (.fieldLink RX3 37 "KnotHouse$Codes" "size" "I") (by decide +kernel)) (fun _ h9 => h9) rfl (by decide +kernel) rfl rfl (Nat.le_of_ble_eq_true rfl) dgX3_insert_61 (fun H locs hP hD hS => ?_)
  have hP : va_P (dC, dI) vwCl [(aX, .inr (6, [.ref (fx 0), .ref (fx 1), .ref (fx 2), .ref (fx 3), .int (nI (z + 1))])), ((fx 0), .inl (cB, (30 * n), .inl (ow_nI (va_cpy C2 C (30 * b) (30 * z) 30)))), ((fx 1), .inl (cB, n, .inl (ow_nI (nu L z (L2 b))))), ((fx 2), .inl (cB, n, .inl (ow_nI (nu K z (K2 b))))), ((fx 3), .inl (cI, n, .inl (ow_nI (nu (va_cpy O O wh (wh + 1) (z - wh)) wh z)))), (aY, .inr (6, [.ref (fy 0), .ref (fy 1), .ref (fy 2), .ref (fy 3), .int zy])), ((fy 0), .inl (cB, (30 * k), .inl (ow_nI C2))), ((fy 1), .inl (cB, k, .inl (ow_nI L2))), ((fy 2), .inl (cB, k, .inl (ow_nI K2)))] H := hP
  have hD : va_D A [(aX, .inr (6, [.ref (fx 0), .ref (fx 1), .ref (fx 2), .ref (fx 3), .int (nI (z + 1))])), ((fx 0), .inl (cB, (30 * n), .inl (ow_nI (va_cpy C2 C (30 * b) (30 * z) 30)))), ((fx 1), .inl (cB, n, .inl (ow_nI (nu L z (L2 b))))), ((fx 2), .inl (cB, n, .inl (ow_nI (nu K z (K2 b))))), ((fx 3), .inl (cI, n, .inl (ow_nI (nu (va_cpy O O wh (wh + 1) (z - wh)) wh z)))), (aY, .inr (6, [.ref (fy 0), .ref (fy 1), .ref (fy 2), .ref (fy 3), .int zy])), ((fy 0), .inl (cB, (30 * k), .inl (ow_nI C2))), ((fy 1), .inl (cB, k, .inl (ow_nI L2))), ((fy 2), .inl (cB, k, .inl (ow_nI K2)))] := hD
  rw [hQQ]
  exact W.vret hx hb hr (fun t ht hW => ⟨⟨(), rfl, trivial, by rw [ht]; exact hP, hD⟩, hS.F ht⟩) hS.2.2 dgX3_insert_64
set_option maxHeartbeats 4000000 in
set_option maxRecDepth 100000 in
theorem kg_X3_insertF (l : Launch) (dC : Nat → ClassId) (dI : Nat → Nat → Nat) (cI cB cJ cZ : ClassId) (aX aY : Nat) (fx : Nat → Nat) (n z : Nat) (hz : z < 2 ^ 31) (hnz : n ≤ z) (F : Nat → Int32) (wh b : Int32) (sz : Nat) : Met l yX3_insert wg_X3_insert (({ frames := 0, cells := 0, slots := 0, locals := 0 } : Room)) (va_Pc [.ref aX, .int wh, .ref aY, .int b] (fun U => U.heap.size = sz ∧ va_P (dC, dI) vwCl [(aX, .inr (6, [.ref (fx 0), .ref (fx 1), .ref (fx 2), .ref (fx 3), .int (nI z)])), ((fx 3), .inl (cI, n, .inl F))] U.heap ∧ va_K (dC, dI) vwCl [(cI, .int), (cB, .byte), (cJ, .long), (cZ, .boolean)] U ∧ va_D (fun _ => True) [(aX, .inr (6, [.ref (fx 0), .ref (fx 1), .ref (fx 2), .ref (fx 3), .int (nI z)])), ((fx 3), .inl (cI, n, .inl F))])) (va_Qv (fun (g : Unit) => True) (fun g t => va_P (dC, dI) vwCl [(aX, .inr (6, [.ref (fx 0), .ref (fx 1), .ref (fx 2), .ref (fx 3), .int (nI z)])), ((fx 3), .inl (cI, n, .inl F))] t.heap ∧ va_D (va_A [(aX, .inr (6, [.ref (fx 0), .ref (fx 1), .ref (fx 2), .ref (fx 3), .int (nI z)])), ((fx 3), .inl (cI, n, .inl F))] sz) [(aX, .inr (6, [.ref (fx 0), .ref (fx 1), .ref (fx 2), .ref (fx 3), .int (nI z)])), ((fx 3), .inl (cI, n, .inl F))]) (va_A [(aX, .inr (6, [.ref (fx 0), .ref (fx 1), .ref (fx 2), .ref (fx 3), .int (nI z)])), ((fx 3), .inl (cI, n, .inl F))] sz)) 0 0 (va_A [(aX, .inr (6, [.ref (fx 0), .ref (fx 1), .ref (fx 2), .ref (fx 3), .int (nI z)])), ((fx 3), .inl (cI, n, .inl F))] sz) := by
  refine Met.ofW (cc := cX3_insert) (maxL := 4) (ret := none) (by decide) rfl ?_
  intro p e s m args below meth c s₁ B hml hv
  obtain ⟨rfl, hsz, hP, hK, hD0⟩ := hv
  have hx := B.exec
  have hb := B.bytes
  have hr := B.returns
  have hts := atoms_spec (ws := wg_X3_insert) B.pre
  have hown : s.vm.findClass RX3 = some m.cls := findClass_of_methodNamed B.named
  have hlocks := B.notSynchronized
  subst hsz
  have hD := hD0.self (sz := s.heap.size)
  generalize hAe : va_A [(aX, .inr (6, [.ref (fx 0), .ref (fx 1), .ref (fx 2), .ref (fx 3), .int (nI z)])), ((fx 3), .inl (cI, n, .inl F))] s.heap.size = A at hD ⊢
  have hA : ∀ q : Nat, s.heap.size ≤ q → A q := fun q h => by rw [← hAe]; exact Or.inr h
  have hS : va_S A s.heap s.heap [] := va_S.rf
  have hP : va_P (dC, dI) vwCl [(aX, .inr (6, [.ref (fx 0), .ref (fx 1), .ref (fx 2), .ref (fx 3), .int (nI z)])), ((fx 3), .inl (cI, n, .inl F))] s.heap := hP
  have hl := lv_entry ([.ref aX, .int wh, .ref aY, .int b]) (n := 4) (Nat.le_of_ble_eq_true rfl)
  rw [lg_entry_eq]
  generalize (lg_sl ([.ref aX, .int wh, .ref aY, .int b]) ++ List.replicate (4 - (lg_sl ([.ref aX, .int wh, .ref aY, .int b])).length) Slot.unset).toArray = ls at hl ⊢
  have hl : lv_has ls 4 [(0, .ref aX), (1, .int wh), (2, .ref aY), (3, .int b)] := hl
  refine ow_named (fun QQ hQQ => ?_)
  suffices key9 : ∀ (H : Heap) (locs : List Loc), va_P (dC, dI) vwCl [(aX, .inr (6, [.ref (fx 0), .ref (fx 1), .ref (fx 2), .ref (fx 3), .int (nI z)])), ((fx 3), .inl (cI, n, .inl F))] H → va_S A s.heap H locs → W p l e ({ frames := 0, cells := 0, slots := 0, locals := 0 } : Room) s m ([.ref aX, .int wh, .ref aY, .int b] : List Value).toArray below meth c H locs 0 0 QQ (F0 m 0 ls []) from key9 s.heap [] hP hS
  intro H locs hP hS
  refine lv_aload_n hx hb dgX3_insert_0 rfl (lv_at hl 0 rfl) ?_
  refine va_get (D := (dC, dI)) (ci := 6) (v := .int (nI z)) (C := RX3) (T := TX3) (N := 5) hx hb hts (fun _ h => List.mem_cons_of_mem _ (List.mem_append_left _ (List.mem_append_right _ h))) hown hK hP 0 rfl rfl 4 (by decide) (hts (.fieldLink RX3 37 "KnotHouse$Codes" "size" "I") (by decide +kernel)) (fun _ h9 => h9) rfl dgX3_insert_1 ?_
  refine lv_aload_n hx hb dgX3_insert_4 rfl (lv_at hl 0 rfl) ?_
  refine va_get (D := (dC, dI)) (ci := 6) (v := .ref (fx 3)) (C := RX3) (T := TX3) (N := 5) hx hb hts (fun _ h => List.mem_cons_of_mem _ (List.mem_append_left _ (List.mem_append_right _ h))) hown hK hP 0 rfl rfl 3 (by decide) (hts (.fieldLink RX3 21 "KnotHouse$Codes" "order" "[I") (by decide +kernel)) (fun _ h9 => h9) rfl dgX3_insert_5 ?_
  refine va_alen (v := (nI n)) hx hb hK hP 1 0 rfl rfl rfl dgX3_insert_8 ?_
  refine lv_icmp_lt (tgt := 13) hx hb dgX3_insert_9 (by decide) (fun c9 => absurd c9 (nI_nlt (a := z) (b := n) hnz hz)) (fun _ => ?_)
  rw [hQQ]
  exact W.vret hx hb hr (fun t ht hW => ⟨⟨(), rfl, trivial, by rw [ht]; exact hP, hD⟩, hS.F ht⟩) hS.2.2 dgX3_insert_12
