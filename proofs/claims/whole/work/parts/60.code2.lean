theorem nu_nu (N : Nat → Nat) (j a b : Nat) : nu (nu N j a) j b = nu N j b := by
  funext k
  show (if k = j then b else if k = j then a else N k) = if k = j then b else N k
  split <;> rfl
theorem cd_lt_tr {X Y Z : Nat → Nat} {n : Nat} (h1 : cd_lt X Y n) (h2 : cd_lt Y Z n) : cd_lt X Z n := by
  obtain ⟨j, hj, hl, hb⟩ := h1
  obtain ⟨k, hk, hm, hd⟩ := h2
  rcases Nat.lt_trichotomy j k with q | q | q
  · exact ⟨j, hj, by rw [← hd j q]; exact hl, fun i hi => (hb i hi).trans (hd i (Nat.lt_trans hi q))⟩
  · rw [← q] at hm hd
    exact ⟨j, hj, Nat.lt_trans hl hm, fun i hi => (hb i hi).trans (hd i hi)⟩
  · exact ⟨k, hk, by rw [hb k q]; exact hm, fun i hi => (hb i (Nat.lt_trans hi q)).trans (hd i hi)⟩
theorem cd_lt_ir {X Y : Nat → Nat} {n : Nat} (h : ag n X Y) : ¬ cd_lt X Y n := fun ⟨j, hj, hl, _⟩ => by
  have := h j hj
  omega
theorem cd_lt_ag {X Y Z : Nat → Nat} {n : Nat} (h : cd_lt X Y n) (hz : ag n Y Z) : cd_lt X Z n := by
  obtain ⟨j, hj, hl, hb⟩ := h
  exact ⟨j, hj, by rw [← hz j hj]; exact hl, fun i hi => (hb i hi).trans (hz i (Nat.lt_trans hi hj))⟩
theorem tf_code_pos (G : Nat → Int32) (N : Nat → Nat) (v : Nat) : 0 < (tf_code G N v).len := Nat.lt_of_lt_of_le (Nat.succ_pos _) (tf_rest_ext G N 23 0 (tf_ring G N v 24 v tf_0)).1
/-- the least code so far of a part, over the visits below i -/
def ep_inv (G : Nat → Int32) (N : Nat → Nat) (F : Nat → Int32) (k : Int32) (LS n0 i : Nat) (B : Nat → Nat) (q : Nat) : Prop := (q = 0 ∧ ∀ w, w < i → F w = k → ¬ cd_first G w = LS) ∨ (q = n0 ∧ ∃ v, v < i ∧ F v = k ∧ cd_first G v = LS ∧ ag n0 B (tf_code G N v).T ∧ ∀ w, w < i → F w = k → cd_first G w = LS → ¬ cd_lt (tf_code G N w).T B n0)
theorem ep_skip {G : Nat → Int32} {N : Nat → Nat} {F : Nat → Int32} {k : Int32} {LS n0 i : Nat} {B : Nat → Nat} {q : Nat} (h : ep_inv G N F k LS n0 i B q) (hn : F i = k → ¬ cd_first G i = LS) : ep_inv G N F k LS n0 (i + 1) B q := by
  have key : ∀ w, w < i + 1 → F w = k → cd_first G w = LS → w < i := by
    intro w hw h1 h2
    rcases Nat.lt_or_ge w i with r | r
    · exact r
    · have e : w = i := by omega
      rw [e] at h1 h2
      exact absurd h2 (hn h1)
  rcases h with ⟨hq, hno⟩ | ⟨hq, v, hv, h1, h2, h3, h4⟩
  · exact Or.inl ⟨hq, fun w hw h1 h2 => hno w (key w hw h1 h2) h1 h2⟩
  · exact Or.inr ⟨hq, v, Nat.lt_succ_of_lt hv, h1, h2, h3, fun w hw h5 h6 => h4 w (key w hw h5 h6) h5 h6⟩
theorem ep_new {G : Nat → Int32} {N : Nat → Nat} {F : Nat → Int32} {k : Int32} {LS n0 i : Nat} {B t : Nat → Nat} {q : Nat} (h : ep_inv G N F k LS n0 i B q) (h1 : F i = k) (h2 : cd_first G i = LS) (hl : q = 0 ∨ cd_lt (tf_code G N i).T B n0) (ht : ag n0 t (tf_code G N i).T) (hp : 0 < n0) : ep_inv G N F k LS n0 (i + 1) (va_cpy t B 0 0 n0) n0 := by
  have ha : ag n0 (va_cpy t B 0 0 n0) (tf_code G N i).T := fun j hj => by
    rw [pk_cpy_in (Nat.zero_le j) (by omega), Nat.zero_add, Nat.sub_zero]
    exact ht j hj
  refine Or.inr ⟨rfl, i, Nat.lt_succ_self i, h1, h2, ha, fun w hw h5 h6 h7 => ?_⟩
  have h8 := cd_lt_ag h7 ha
  rcases Nat.lt_or_ge w i with r | r
  · rcases h with ⟨hq, hno⟩ | ⟨hq, v, hv, h9, h10, h3, h4⟩
    · exact hno w r h5 h6
    · rcases hl with hl | hl
      · omega
      · exact h4 w r h5 h6 (cd_lt_tr h8 hl)
  · have e : w = i := by omega
    rw [e] at h8
    exact cd_lt_ir (fun _ _ => rfl) h8
theorem ep_old {G : Nat → Int32} {N : Nat → Nat} {F : Nat → Int32} {k : Int32} {LS n0 i : Nat} {B : Nat → Nat} {q : Nat} (h : ep_inv G N F k LS n0 i B q) (h0 : 0 < q) (hn : ¬ cd_lt (tf_code G N i).T B n0) : ep_inv G N F k LS n0 (i + 1) B q := by
  rcases h with ⟨hq, _⟩ | ⟨hq, v, hv, h1, h2, h3, h4⟩
  · omega
  · refine Or.inr ⟨hq, v, Nat.lt_succ_of_lt hv, h1, h2, h3, fun w hw h5 h6 => ?_⟩
    rcases Nat.lt_or_ge w i with r | r
    · exact h4 w r h5 h6
    · have e : w = i := by omega
      rw [e]
      exact hn
theorem ep_le {G : Nat → Int32} {N : Nat → Nat} {F : Nat → Int32} {k : Int32} {LS n0 i : Nat} {B : Nat → Nat} {q : Nat} (h : ep_inv G N F k LS n0 i B q) : q ≤ n0 := by
  rcases h with ⟨hq, _⟩ | ⟨hq, _⟩ <;> omega
/-- visits of a part -/
def cntV (F : Nat → Int32) (k : Int32) : Nat → Nat
  | 0 => 0
  | n + 1 => if F n = k then cntV F k n + 1 else cntV F k n
theorem cntV_le (F : Nat → Int32) (k : Int32) : ∀ n, cntV F k n ≤ n := by
  intro n
  induction n with
  | zero => exact Nat.le_refl 0
  | succ n ih =>
    show (if F n = k then cntV F k n + 1 else cntV F k n) ≤ n + 1
    split <;> omega
theorem dgX2_encodePart_0 : decode cX2_encodePart 0 = .ok (.aload_n 1, 1) := by decide +kernel
theorem dgX2_encodePart_1 : decode cX2_encodePart 1 = .ok (.iload_n 2, 1) := by decide +kernel
theorem dgX2_encodePart_2 : decode cX2_encodePart 2 = .ok (.invokestatic 84, 3) := by decide +kernel
theorem dgX2_encodePart_5 : decode cX2_encodePart 5 = .ok (.istore_n 3, 1) := by decide +kernel
theorem dgX2_encodePart_6 : decode cX2_encodePart 6 = .ok (.iconst 0, 1) := by decide +kernel
theorem dgX2_encodePart_7 : decode cX2_encodePart 7 = .ok (.istore 4, 2) := by decide +kernel
theorem dgX2_encodePart_9 : decode cX2_encodePart 9 = .ok (.aload_n 0, 1) := by decide +kernel
theorem dgX2_encodePart_10 : decode cX2_encodePart 10 = .ok (.getfield 20, 3) := by decide +kernel
theorem dgX2_encodePart_13 : decode cX2_encodePart 13 = .ok (.getfield 48, 3) := by decide +kernel
theorem dgX2_encodePart_16 : decode cX2_encodePart 16 = .ok (.iconst 0, 1) := by decide +kernel
theorem dgX2_encodePart_17 : decode cX2_encodePart 17 = .ok (.iconst 0, 1) := by decide +kernel
theorem dgX2_encodePart_18 : decode cX2_encodePart 18 = .ok (.bastore, 1) := by decide +kernel
theorem dgX2_encodePart_19 : decode cX2_encodePart 19 = .ok (.iconst 0, 1) := by decide +kernel
theorem dgX2_encodePart_20 : decode cX2_encodePart 20 = .ok (.istore 5, 2) := by decide +kernel
theorem dgX2_encodePart_22 : decode cX2_encodePart 22 = .ok (.iload 5, 2) := by decide +kernel
theorem dgX2_encodePart_24 : decode cX2_encodePart 24 = .ok (.iconst 2, 1) := by decide +kernel
theorem dgX2_encodePart_25 : decode cX2_encodePart 25 = .ok (.aload_n 1, 1) := by decide +kernel
theorem dgX2_encodePart_26 : decode cX2_encodePart 26 = .ok (.getfield 68, 3) := by decide +kernel
theorem dgX2_encodePart_29 : decode cX2_encodePart 29 = .ok (.imul, 1) := by decide +kernel
theorem dgX2_encodePart_30 : decode cX2_encodePart 30 = .ok (.if_icmp .ge 87, 3) := by decide +kernel
theorem dgX2_encodePart_33 : decode cX2_encodePart 33 = .ok (.aload_n 1, 1) := by decide +kernel
theorem dgX2_encodePart_34 : decode cX2_encodePart 34 = .ok (.getfield 88, 3) := by decide +kernel
theorem dgX2_encodePart_37 : decode cX2_encodePart 37 = .ok (.iload 5, 2) := by decide +kernel
theorem dgX2_encodePart_39 : decode cX2_encodePart 39 = .ok (.iaload, 1) := by decide +kernel
theorem dgX2_encodePart_40 : decode cX2_encodePart 40 = .ok (.iload_n 2, 1) := by decide +kernel
theorem dgX2_encodePart_41 : decode cX2_encodePart 41 = .ok (.if_icmp .eq 6, 3) := by decide +kernel
theorem dgX2_encodePart_44 : decode cX2_encodePart 44 = .ok (.goto 67, 3) := by decide +kernel
theorem dgX2_encodePart_47 : decode cX2_encodePart 47 = .ok (.iinc 4 1, 3) := by decide +kernel
theorem dgX2_encodePart_50 : decode cX2_encodePart 50 = .ok (.aload_n 1, 1) := by decide +kernel
theorem dgX2_encodePart_51 : decode cX2_encodePart 51 = .ok (.iload 5, 2) := by decide +kernel
theorem dgX2_encodePart_53 : decode cX2_encodePart 53 = .ok (.invokestatic 91, 3) := by decide +kernel
theorem dgX2_encodePart_56 : decode cX2_encodePart 56 = .ok (.iload_n 3, 1) := by decide +kernel
theorem dgX2_encodePart_57 : decode cX2_encodePart 57 = .ok (.if_icmp .ne 54, 3) := by decide +kernel
theorem dgX2_encodePart_60 : decode cX2_encodePart 60 = .ok (.aload_n 0, 1) := by decide +kernel
theorem dgX2_encodePart_61 : decode cX2_encodePart 61 = .ok (.aload_n 1, 1) := by decide +kernel
theorem dgX2_encodePart_62 : decode cX2_encodePart 62 = .ok (.iload 5, 2) := by decide +kernel
theorem dgX2_encodePart_64 : decode cX2_encodePart 64 = .ok (.invokevirtual 94, 3) := by decide +kernel
theorem dgX2_encodePart_67 : decode cX2_encodePart 67 = .ok (.istore 6, 2) := by decide +kernel
theorem dgX2_encodePart_69 : decode cX2_encodePart 69 = .ok (.iload 6, 2) := by decide +kernel
theorem dgX2_encodePart_71 : decode cX2_encodePart 71 = .ok (.ifCond .le 40, 3) := by decide +kernel
theorem dgX2_encodePart_74 : decode cX2_encodePart 74 = .ok (.iload 6, 2) := by decide +kernel
theorem dgX2_encodePart_76 : decode cX2_encodePart 76 = .ok (.bipush 30, 2) := by decide +kernel
theorem dgX2_encodePart_78 : decode cX2_encodePart 78 = .ok (.if_icmp .gt 33, 3) := by decide +kernel
theorem dgX2_encodePart_81 : decode cX2_encodePart 81 = .ok (.aload_n 0, 1) := by decide +kernel
theorem dgX2_encodePart_82 : decode cX2_encodePart 82 = .ok (.getfield 26, 3) := by decide +kernel
theorem dgX2_encodePart_85 : decode cX2_encodePart 85 = .ok (.iconst 0, 1) := by decide +kernel
theorem dgX2_encodePart_86 : decode cX2_encodePart 86 = .ok (.aload_n 0, 1) := by decide +kernel
theorem dgX2_encodePart_87 : decode cX2_encodePart 87 = .ok (.getfield 20, 3) := by decide +kernel
theorem dgX2_encodePart_90 : decode cX2_encodePart 90 = .ok (.getfield 51, 3) := by decide +kernel
theorem dgX2_encodePart_93 : decode cX2_encodePart 93 = .ok (.iconst 0, 1) := by decide +kernel
theorem dgX2_encodePart_94 : decode cX2_encodePart 94 = .ok (.iload 6, 2) := by decide +kernel
theorem dgX2_encodePart_96 : decode cX2_encodePart 96 = .ok (.invokestatic 54, 3) := by decide +kernel
theorem dgX2_encodePart_99 : decode cX2_encodePart 99 = .ok (.aload_n 0, 1) := by decide +kernel
theorem dgX2_encodePart_100 : decode cX2_encodePart 100 = .ok (.getfield 20, 3) := by decide +kernel
theorem dgX2_encodePart_103 : decode cX2_encodePart 103 = .ok (.getfield 48, 3) := by decide +kernel
theorem dgX2_encodePart_106 : decode cX2_encodePart 106 = .ok (.iconst 0, 1) := by decide +kernel
theorem dgX2_encodePart_107 : decode cX2_encodePart 107 = .ok (.iload 6, 2) := by decide +kernel
theorem dgX2_encodePart_109 : decode cX2_encodePart 109 = .ok (.i2b, 1) := by decide +kernel
theorem dgX2_encodePart_110 : decode cX2_encodePart 110 = .ok (.bastore, 1) := by decide +kernel
theorem dgX2_encodePart_111 : decode cX2_encodePart 111 = .ok (.iinc 5 1, 3) := by decide +kernel
theorem dgX2_encodePart_114 : decode cX2_encodePart 114 = .ok (.goto (-92), 3) := by decide +kernel
theorem dgX2_encodePart_117 : decode cX2_encodePart 117 = .ok (.aload_n 0, 1) := by decide +kernel
theorem dgX2_encodePart_118 : decode cX2_encodePart 118 = .ok (.getfield 20, 3) := by decide +kernel
theorem dgX2_encodePart_121 : decode cX2_encodePart 121 = .ok (.getfield 65, 3) := by decide +kernel
theorem dgX2_encodePart_124 : decode cX2_encodePart 124 = .ok (.iconst 0, 1) := by decide +kernel
theorem dgX2_encodePart_125 : decode cX2_encodePart 125 = .ok (.iload 4, 2) := by decide +kernel
theorem dgX2_encodePart_127 : decode cX2_encodePart 127 = .ok (.iconst 2, 1) := by decide +kernel
theorem dgX2_encodePart_128 : decode cX2_encodePart 128 = .ok (.idiv, 1) := by decide +kernel
theorem dgX2_encodePart_129 : decode cX2_encodePart 129 = .ok (.i2b, 1) := by decide +kernel
theorem dgX2_encodePart_130 : decode cX2_encodePart 130 = .ok (.bastore, 1) := by decide +kernel
theorem dgX2_encodePart_131 : decode cX2_encodePart 131 = .ok (.return_, 1) := by decide +kernel
def wg_X2_encodePart : List Cond := .code yX2_encodePart cX2_encodePart 7 none :: (([.fieldLink RX2 20 "KnotHouse$Coder" "one" "LKnotHouse$Codes;", .fieldLink RX2 48 "KnotHouse$Codes" "lengths" "[B", .fieldLink RX2 68 "KnotHouse$Net" "crossings" "I", .fieldLink RX2 88 "KnotHouse$Net" "part" "[I", .fieldLink RX2 26 "KnotHouse$Coder" "trial" "[B", .fieldLink RX2 51 "KnotHouse$Codes" "cells" "[B", .fieldLink RX2 65 "KnotHouse$Codes" "crossings" "[B", .methodLink RX2 54 arraycopyName, .native arraycopyName, .static arraycopyName, .initialized "java/lang/System"] ++ wsX20 ++ wsX30 ++ wsX70) ++ (va_wsS RX2 84 yX2_leastFirstCell wg_X2_leastFirstCell ++ (va_wsS RX2 91 yX2_firstCell wg_X2_firstCell ++ (wsV RX2 94 RX2 yX2_tryFrom wg_X2_tryFrom ++ []))))
theorem gg_X2_encodePart_0 : GoodIn wg_X2_encodePart (va_wsS RX2 84 yX2_leastFirstCell wg_X2_leastFirstCell) := goodIn_sub (fun _ h => List.mem_cons_of_mem _ (List.mem_append_right _ (List.mem_append_left _ h))) (by decide +kernel)
theorem gg_X2_encodePart_1 : GoodIn wg_X2_encodePart (va_wsS RX2 91 yX2_firstCell wg_X2_firstCell) := goodIn_sub (fun _ h => List.mem_cons_of_mem _ (List.mem_append_right _ (List.mem_append_right _ (List.mem_append_left _ h)))) (by decide +kernel)
theorem gg_X2_encodePart_2 : GoodIn wg_X2_encodePart (wsV RX2 94 RX2 yX2_tryFrom wg_X2_tryFrom) := goodIn_sub (fun _ h => List.mem_cons_of_mem _ (List.mem_append_right _ (List.mem_append_right _ (List.mem_append_right _ (List.mem_append_left _ h))))) (by decide +kernel)
set_option maxHeartbeats 4000000 in
set_option maxRecDepth 100000 in
theorem kg_X2_encodePart (l : Launch) (dC : Nat → ClassId) (dI : Nat → Nat → Nat) (cI cB cJ cZ : ClassId) (aK : Nat) (kx fo : Nat → Nat) (B0 L0 K0 : Nat → Nat) (z0 : Int32) (t0 M0 N0 : Nat → Nat) (aX : Nat) (nx : Nat → Nat) (x8 x9 x10 : Int32) (S : ow_NP) (hS0 : ow_b24 S) (G F : Nat → Int32) (k : Int32) (cn n0 : Nat) (hc : cn ≤ 12) (hB0 : ow_b128 B0) (ht0 : ow_b128 t0) (h30 : n0 ≤ 30) (hln : ∀ v, v < 2 * cn → F v = k → (tf_code G S.1 v).len = n0) (sz : Nat) : Met l yX2_encodePart wg_X2_encodePart (({ frames := 2, cells := 0, slots := 0, locals := 120 } : Room)) (va_Pc [.ref aK, .ref aX, .int k] (fun U => U.heap.size = sz ∧ va_P (dC, dI) vwCl [(aK, .inr (5, [.ref (kx 0), .ref (kx 1), .ref (kx 2), .ref (kx 3), .ref (kx 4), .ref (kx 5)])), ((kx 1), .inr (6, [.ref (fo 0), .ref (fo 1), .ref (fo 2), .ref (fo 3), .int z0])), ((fo 0), .inl (cB, (30 * 1), .inl (ow_nI B0))), ((fo 1), .inl (cB, 1, .inl (ow_nI L0))), ((fo 2), .inl (cB, 1, .inl (ow_nI K0))), ((kx 3), .inl (cB, 48, .inl (ow_nI t0))), ((kx 4), .inl (cI, 12, .inl (ow_nI M0))), ((kx 5), .inl (cI, 12, .inl (ow_nI N0))), (aX, .inr (10, [.ref (nx 0), .ref (nx 1), .ref (nx 2), .ref (nx 3), .ref (nx 4), .ref (nx 5), .ref (nx 6), .int (nI cn), .int x8, .int x9, .int x10])), ((nx 0), .inl (cI, 24, .inl (ow_nI S.1))), ((nx 2), .inl (cI, 12, .inl G)), ((nx 5), .inl (cI, 24, .inl F))] U.heap ∧ va_K (dC, dI) vwCl [(cI, .int), (cB, .byte), (cJ, .long), (cZ, .boolean)] U ∧ va_D (fun _ => True) [(aK, .inr (5, [.ref (kx 0), .ref (kx 1), .ref (kx 2), .ref (kx 3), .ref (kx 4), .ref (kx 5)])), ((kx 1), .inr (6, [.ref (fo 0), .ref (fo 1), .ref (fo 2), .ref (fo 3), .int z0])), ((fo 0), .inl (cB, (30 * 1), .inl (ow_nI B0))), ((fo 1), .inl (cB, 1, .inl (ow_nI L0))), ((fo 2), .inl (cB, 1, .inl (ow_nI K0))), ((kx 3), .inl (cB, 48, .inl (ow_nI t0))), ((kx 4), .inl (cI, 12, .inl (ow_nI M0))), ((kx 5), .inl (cI, 12, .inl (ow_nI N0))), (aX, .inr (10, [.ref (nx 0), .ref (nx 1), .ref (nx 2), .ref (nx 3), .ref (nx 4), .ref (nx 5), .ref (nx 6), .int (nI cn), .int x8, .int x9, .int x10])), ((nx 0), .inl (cI, 24, .inl (ow_nI S.1))), ((nx 2), .inl (cI, 12, .inl G)), ((nx 5), .inl (cI, 24, .inl F))])) (va_Qv (fun (g : (Nat → Nat) × Nat × (Nat → Nat) × (Nat → Nat) × (Nat → Nat)) => ep_inv G S.1 F k (cd_least G F k (2 * cn)) n0 (2 * cn) g.1 g.2.1 ∧ ow_b128 g.1 ∧ ow_b128 g.2.2.1) (fun g t => va_P (dC, dI) vwCl [(aK, .inr (5, [.ref (kx 0), .ref (kx 1), .ref (kx 2), .ref (kx 3), .ref (kx 4), .ref (kx 5)])), ((kx 1), .inr (6, [.ref (fo 0), .ref (fo 1), .ref (fo 2), .ref (fo 3), .int z0])), ((fo 0), .inl (cB, (30 * 1), .inl (ow_nI g.1))), ((fo 1), .inl (cB, 1, .inl (ow_nI (nu L0 0 g.2.1)))), ((fo 2), .inl (cB, 1, .inl (ow_nI (nu K0 0 ((cntV F k (2 * cn)) / 2))))), ((kx 3), .inl (cB, 48, .inl (ow_nI g.2.2.1))), ((kx 4), .inl (cI, 12, .inl (ow_nI g.2.2.2.1))), ((kx 5), .inl (cI, 12, .inl (ow_nI g.2.2.2.2))), (aX, .inr (10, [.ref (nx 0), .ref (nx 1), .ref (nx 2), .ref (nx 3), .ref (nx 4), .ref (nx 5), .ref (nx 6), .int (nI cn), .int x8, .int x9, .int x10])), ((nx 0), .inl (cI, 24, .inl (ow_nI S.1))), ((nx 2), .inl (cI, 12, .inl G)), ((nx 5), .inl (cI, 24, .inl F))] t.heap ∧ va_D (va_A [(aK, .inr (5, [.ref (kx 0), .ref (kx 1), .ref (kx 2), .ref (kx 3), .ref (kx 4), .ref (kx 5)])), ((kx 1), .inr (6, [.ref (fo 0), .ref (fo 1), .ref (fo 2), .ref (fo 3), .int z0])), ((fo 0), .inl (cB, (30 * 1), .inl (ow_nI B0))), ((fo 1), .inl (cB, 1, .inl (ow_nI L0))), ((fo 2), .inl (cB, 1, .inl (ow_nI K0))), ((kx 3), .inl (cB, 48, .inl (ow_nI t0))), ((kx 4), .inl (cI, 12, .inl (ow_nI M0))), ((kx 5), .inl (cI, 12, .inl (ow_nI N0))), (aX, .inr (10, [.ref (nx 0), .ref (nx 1), .ref (nx 2), .ref (nx 3), .ref (nx 4), .ref (nx 5), .ref (nx 6), .int (nI cn), .int x8, .int x9, .int x10])), ((nx 0), .inl (cI, 24, .inl (ow_nI S.1))), ((nx 2), .inl (cI, 12, .inl G)), ((nx 5), .inl (cI, 24, .inl F))] sz) [(aK, .inr (5, [.ref (kx 0), .ref (kx 1), .ref (kx 2), .ref (kx 3), .ref (kx 4), .ref (kx 5)])), ((kx 1), .inr (6, [.ref (fo 0), .ref (fo 1), .ref (fo 2), .ref (fo 3), .int z0])), ((fo 0), .inl (cB, (30 * 1), .inl (ow_nI g.1))), ((fo 1), .inl (cB, 1, .inl (ow_nI (nu L0 0 g.2.1)))), ((fo 2), .inl (cB, 1, .inl (ow_nI (nu K0 0 ((cntV F k (2 * cn)) / 2))))), ((kx 3), .inl (cB, 48, .inl (ow_nI g.2.2.1))), ((kx 4), .inl (cI, 12, .inl (ow_nI g.2.2.2.1))), ((kx 5), .inl (cI, 12, .inl (ow_nI g.2.2.2.2))), (aX, .inr (10, [.ref (nx 0), .ref (nx 1), .ref (nx 2), .ref (nx 3), .ref (nx 4), .ref (nx 5), .ref (nx 6), .int (nI cn), .int x8, .int x9, .int x10])), ((nx 0), .inl (cI, 24, .inl (ow_nI S.1))), ((nx 2), .inl (cI, 12, .inl G)), ((nx 5), .inl (cI, 24, .inl F))]) (va_A [(aK, .inr (5, [.ref (kx 0), .ref (kx 1), .ref (kx 2), .ref (kx 3), .ref (kx 4), .ref (kx 5)])), ((kx 1), .inr (6, [.ref (fo 0), .ref (fo 1), .ref (fo 2), .ref (fo 3), .int z0])), ((fo 0), .inl (cB, (30 * 1), .inl (ow_nI B0))), ((fo 1), .inl (cB, 1, .inl (ow_nI L0))), ((fo 2), .inl (cB, 1, .inl (ow_nI K0))), ((kx 3), .inl (cB, 48, .inl (ow_nI t0))), ((kx 4), .inl (cI, 12, .inl (ow_nI M0))), ((kx 5), .inl (cI, 12, .inl (ow_nI N0))), (aX, .inr (10, [.ref (nx 0), .ref (nx 1), .ref (nx 2), .ref (nx 3), .ref (nx 4), .ref (nx 5), .ref (nx 6), .int (nI cn), .int x8, .int x9, .int x10])), ((nx 0), .inl (cI, 24, .inl (ow_nI S.1))), ((nx 2), .inl (cI, 12, .inl G)), ((nx 5), .inl (cI, 24, .inl F))] sz)) 0 0 (va_A [(aK, .inr (5, [.ref (kx 0), .ref (kx 1), .ref (kx 2), .ref (kx 3), .ref (kx 4), .ref (kx 5)])), ((kx 1), .inr (6, [.ref (fo 0), .ref (fo 1), .ref (fo 2), .ref (fo 3), .int z0])), ((fo 0), .inl (cB, (30 * 1), .inl (ow_nI B0))), ((fo 1), .inl (cB, 1, .inl (ow_nI L0))), ((fo 2), .inl (cB, 1, .inl (ow_nI K0))), ((kx 3), .inl (cB, 48, .inl (ow_nI t0))), ((kx 4), .inl (cI, 12, .inl (ow_nI M0))), ((kx 5), .inl (cI, 12, .inl (ow_nI N0))), (aX, .inr (10, [.ref (nx 0), .ref (nx 1), .ref (nx 2), .ref (nx 3), .ref (nx 4), .ref (nx 5), .ref (nx 6), .int (nI cn), .int x8, .int x9, .int x10])), ((nx 0), .inl (cI, 24, .inl (ow_nI S.1))), ((nx 2), .inl (cI, 12, .inl G)), ((nx 5), .inl (cI, 24, .inl F))] sz) := by
  refine Met.ofW (cc := cX2_encodePart) (maxL := 7) (ret := none) (by decide) rfl ?_
  intro p e s m args below meth c s₁ B hml hv
  obtain ⟨rfl, hsz, hP, hK, hD0⟩ := hv
  have hx := B.exec
  have hb := B.bytes
  have hr := B.returns
  have hts := atoms_spec (ws := wg_X2_encodePart) B.pre
  have hown : s.vm.findClass RX2 = some m.cls := findClass_of_methodNamed B.named
  have hlocks := B.notSynchronized
  subst hsz
  have hD := hD0.self (sz := s.heap.size)
  generalize hAe : va_A [(aK, .inr (5, [.ref (kx 0), .ref (kx 1), .ref (kx 2), .ref (kx 3), .ref (kx 4), .ref (kx 5)])), ((kx 1), .inr (6, [.ref (fo 0), .ref (fo 1), .ref (fo 2), .ref (fo 3), .int z0])), ((fo 0), .inl (cB, (30 * 1), .inl (ow_nI B0))), ((fo 1), .inl (cB, 1, .inl (ow_nI L0))), ((fo 2), .inl (cB, 1, .inl (ow_nI K0))), ((kx 3), .inl (cB, 48, .inl (ow_nI t0))), ((kx 4), .inl (cI, 12, .inl (ow_nI M0))), ((kx 5), .inl (cI, 12, .inl (ow_nI N0))), (aX, .inr (10, [.ref (nx 0), .ref (nx 1), .ref (nx 2), .ref (nx 3), .ref (nx 4), .ref (nx 5), .ref (nx 6), .int (nI cn), .int x8, .int x9, .int x10])), ((nx 0), .inl (cI, 24, .inl (ow_nI S.1))), ((nx 2), .inl (cI, 12, .inl G)), ((nx 5), .inl (cI, 24, .inl F))] s.heap.size = A at hD ⊢
  have hA : ∀ q : Nat, s.heap.size ≤ q → A q := fun q h => by rw [← hAe]; exact Or.inr h
  have hS : va_S A s.heap s.heap [] := va_S.rf
  have hP : va_P (dC, dI) vwCl [(aK, .inr (5, [.ref (kx 0), .ref (kx 1), .ref (kx 2), .ref (kx 3), .ref (kx 4), .ref (kx 5)])), ((kx 1), .inr (6, [.ref (fo 0), .ref (fo 1), .ref (fo 2), .ref (fo 3), .int z0])), ((fo 0), .inl (cB, (30 * 1), .inl (ow_nI B0))), ((fo 1), .inl (cB, 1, .inl (ow_nI L0))), ((fo 2), .inl (cB, 1, .inl (ow_nI K0))), ((kx 3), .inl (cB, 48, .inl (ow_nI t0))), ((kx 4), .inl (cI, 12, .inl (ow_nI M0))), ((kx 5), .inl (cI, 12, .inl (ow_nI N0))), (aX, .inr (10, [.ref (nx 0), .ref (nx 1), .ref (nx 2), .ref (nx 3), .ref (nx 4), .ref (nx 5), .ref (nx 6), .int (nI cn), .int x8, .int x9, .int x10])), ((nx 0), .inl (cI, 24, .inl (ow_nI S.1))), ((nx 2), .inl (cI, 12, .inl G)), ((nx 5), .inl (cI, 24, .inl F))] s.heap := hP
  have hl := lv_entry ([.ref aK, .ref aX, .int k]) (n := 7) (Nat.le_of_ble_eq_true rfl)
  rw [lg_entry_eq]
  generalize (lg_sl ([.ref aK, .ref aX, .int k]) ++ List.replicate (7 - (lg_sl ([.ref aK, .ref aX, .int k])).length) Slot.unset).toArray = ls at hl ⊢
  have hl : lv_has ls 7 [(0, .ref aK), (1, .ref aX), (2, .int k)] := hl
  refine ow_named (fun QQ hQQ => ?_)
  suffices key9 : ∀ (H : Heap) (locs : List Loc), va_P (dC, dI) vwCl [(aK, .inr (5, [.ref (kx 0), .ref (kx 1), .ref (kx 2), .ref (kx 3), .ref (kx 4), .ref (kx 5)])), ((kx 1), .inr (6, [.ref (fo 0), .ref (fo 1), .ref (fo 2), .ref (fo 3), .int z0])), ((fo 0), .inl (cB, (30 * 1), .inl (ow_nI B0))), ((fo 1), .inl (cB, 1, .inl (ow_nI L0))), ((fo 2), .inl (cB, 1, .inl (ow_nI K0))), ((kx 3), .inl (cB, 48, .inl (ow_nI t0))), ((kx 4), .inl (cI, 12, .inl (ow_nI M0))), ((kx 5), .inl (cI, 12, .inl (ow_nI N0))), (aX, .inr (10, [.ref (nx 0), .ref (nx 1), .ref (nx 2), .ref (nx 3), .ref (nx 4), .ref (nx 5), .ref (nx 6), .int (nI cn), .int x8, .int x9, .int x10])), ((nx 0), .inl (cI, 24, .inl (ow_nI S.1))), ((nx 2), .inl (cI, 12, .inl G)), ((nx 5), .inl (cI, 24, .inl F))] H → va_S A s.heap H locs → W p l e ({ frames := 2, cells := 0, slots := 0, locals := 120 } : Room) s m ([.ref aK, .ref aX, .int k] : List Value).toArray below meth c H locs 0 0 QQ (F0 m 0 ls []) from key9 s.heap [] hP hS
  intro H locs hP hS
  have hlsl := cd_least_le G F k (2 * cn)
  have L22 : ∀ (d i q : Nat) (B tr M N : Nat → Nat), i + d = 2 * cn → ep_inv G S.1 F k (cd_least G F k (2 * cn)) n0 i B q → ow_b128 B → ow_b128 tr → ∀ (H : Heap) (locs : List Loc) (ls : Array Slot), va_P (dC, dI) vwCl [(aK, .inr (5, [.ref (kx 0), .ref (kx 1), .ref (kx 2), .ref (kx 3), .ref (kx 4), .ref (kx 5)])), ((kx 1), .inr (6, [.ref (fo 0), .ref (fo 1), .ref (fo 2), .ref (fo 3), .int z0])), ((fo 0), .inl (cB, (30 * 1), .inl (ow_nI B))), ((fo 1), .inl (cB, 1, .inl (ow_nI (nu L0 0 q)))), ((fo 2), .inl (cB, 1, .inl (ow_nI K0))), ((kx 3), .inl (cB, 48, .inl (ow_nI tr))), ((kx 4), .inl (cI, 12, .inl (ow_nI M))), ((kx 5), .inl (cI, 12, .inl (ow_nI N))), (aX, .inr (10, [.ref (nx 0), .ref (nx 1), .ref (nx 2), .ref (nx 3), .ref (nx 4), .ref (nx 5), .ref (nx 6), .int (nI cn), .int x8, .int x9, .int x10])), ((nx 0), .inl (cI, 24, .inl (ow_nI S.1))), ((nx 2), .inl (cI, 12, .inl G)), ((nx 5), .inl (cI, 24, .inl F))] H → va_D A [(aK, .inr (5, [.ref (kx 0), .ref (kx 1), .ref (kx 2), .ref (kx 3), .ref (kx 4), .ref (kx 5)])), ((kx 1), .inr (6, [.ref (fo 0), .ref (fo 1), .ref (fo 2), .ref (fo 3), .int z0])), ((fo 0), .inl (cB, (30 * 1), .inl (ow_nI B))), ((fo 1), .inl (cB, 1, .inl (ow_nI (nu L0 0 q)))), ((fo 2), .inl (cB, 1, .inl (ow_nI K0))), ((kx 3), .inl (cB, 48, .inl (ow_nI tr))), ((kx 4), .inl (cI, 12, .inl (ow_nI M))), ((kx 5), .inl (cI, 12, .inl (ow_nI N))), (aX, .inr (10, [.ref (nx 0), .ref (nx 1), .ref (nx 2), .ref (nx 3), .ref (nx 4), .ref (nx 5), .ref (nx 6), .int (nI cn), .int x8, .int x9, .int x10])), ((nx 0), .inl (cI, 24, .inl (ow_nI S.1))), ((nx 2), .inl (cI, 12, .inl G)), ((nx 5), .inl (cI, 24, .inl F))] → va_S A s.heap H locs → lv_has ls 7 [(0, .ref aK), (1, .ref aX), (2, .int k), (3, .int (nI (cd_least G F k (2 * cn)))), (4, .int (nI (cntV F k i))), (5, .int (nI i))] → W p l e ({ frames := 2, cells := 0, slots := 0, locals := 120 } : Room) s m ([.ref aK, .ref aX, .int k] : List Value).toArray below meth c H locs 0 0 QQ (F0 m 22 ls []) := by
    intro d
    induction d with
    | zero =>
      intro i q B tr M N hi hep hBb htr H locs ls hP hD hS hl
      have hie : i = 2 * cn := by omega
      rw [hie] at hep hl
      have hcl := cntV_le F k (2 * cn)
      refine lv_iload hx hb dgX2_encodePart_22 (lv_at hl 5 rfl) ?_
      refine lv_iconst (v := 2) hx hb dgX2_encodePart_24 (by decide) ?_
      refine lv_aload_n hx hb dgX2_encodePart_25 rfl (lv_at hl 1 rfl) ?_
      refine va_get (D := (dC, dI)) (ci := 10) (v := .int (nI cn)) (C := RX7) (T := TX7) (N := 11) hx hb hts (fun _ h => List.mem_cons_of_mem _ (List.mem_append_left _ (List.mem_append_right _ h))) hown hK hP 8 rfl rfl 7 (by decide) (hts (.fieldLink RX2 68 "KnotHouse$Net" "crossings" "I") (by decide +kernel)) (fun _ h9 => h9) rfl dgX2_encodePart_26 ?_
      refine lv_imul hx hb dgX2_encodePart_29 ?_
      refine ow_topi (y := nI (2 * cn)) (pk_mul 2 cn) ?_
      refine lv_icmp_ge (tgt := 117) hx hb dgX2_encodePart_30 (by decide) (fun _ => ?_) (fun c9 => absurd (nI_le (a := 2 * cn) (b := 2 * cn) (by omega) (by omega)) c9)
      refine lv_aload_n hx hb dgX2_encodePart_117 rfl (lv_at hl 0 rfl) ?_
      refine va_get (D := (dC, dI)) (ci := 5) (v := .ref (kx 1)) (C := RX2) (T := TX2) (N := 6) hx hb hts (fun _ h => List.mem_cons_of_mem _ (List.mem_append_left _ (List.mem_append_left _ (List.mem_append_left _ (List.mem_append_right _ h))))) hown hK hP 0 rfl rfl 1 (by decide) (hts (.fieldLink RX2 20 "KnotHouse$Coder" "one" "LKnotHouse$Codes;") (by decide +kernel)) (fun _ h9 => h9) rfl dgX2_encodePart_118 ?_
      refine va_get (D := (dC, dI)) (ci := 6) (v := .ref (fo 2)) (C := RX3) (T := TX3) (N := 5) hx hb hts (fun _ h => List.mem_cons_of_mem _ (List.mem_append_left _ (List.mem_append_left _ (List.mem_append_right _ h)))) hown hK hP 1 rfl rfl 2 (by decide) (hts (.fieldLink RX2 65 "KnotHouse$Codes" "crossings" "[B") (by decide +kernel)) (fun _ h9 => h9) rfl dgX2_encodePart_121 ?_
      refine lv_iconst (v := 0) hx hb dgX2_encodePart_124 (by decide) ?_
      refine ow_topi (y := nI 0) (by decide) ?_
      refine lv_iload hx hb dgX2_encodePart_125 (lv_at hl 4 rfl) ?_
      refine lv_iconst (v := 2) hx hb dgX2_encodePart_127 (by decide) ?_
      refine lv_idiv hx hb dgX2_encodePart_128 (by decide) ?_
      refine ow_topi (y := nI ((cntV F k (2 * cn)) / 2)) (pk_div (by omega) (by decide) (by decide)) ?_
      refine lv_i2b hx hb dgX2_encodePart_129 rfl ?_
      refine ow_topi (y := nI ((cntV F k (2 * cn)) / 2)) (ow_i2b (by omega)) ?_
      refine ow_bastN (j := 0) (w := (cntV F k (2 * cn)) / 2) hx hb hK hP hD hS 4 1 rfl rfl (by decide) (by decide) (by omega) dgX2_encodePart_130 (fun H locs hP hD hS => ?_)
      have hP : va_P (dC, dI) vwCl [(aK, .inr (5, [.ref (kx 0), .ref (kx 1), .ref (kx 2), .ref (kx 3), .ref (kx 4), .ref (kx 5)])), ((kx 1), .inr (6, [.ref (fo 0), .ref (fo 1), .ref (fo 2), .ref (fo 3), .int z0])), ((fo 0), .inl (cB, (30 * 1), .inl (ow_nI B))), ((fo 1), .inl (cB, 1, .inl (ow_nI (nu L0 0 q)))), ((fo 2), .inl (cB, 1, .inl (ow_nI (nu K0 0 ((cntV F k (2 * cn)) / 2))))), ((kx 3), .inl (cB, 48, .inl (ow_nI tr))), ((kx 4), .inl (cI, 12, .inl (ow_nI M))), ((kx 5), .inl (cI, 12, .inl (ow_nI N))), (aX, .inr (10, [.ref (nx 0), .ref (nx 1), .ref (nx 2), .ref (nx 3), .ref (nx 4), .ref (nx 5), .ref (nx 6), .int (nI cn), .int x8, .int x9, .int x10])), ((nx 0), .inl (cI, 24, .inl (ow_nI S.1))), ((nx 2), .inl (cI, 12, .inl G)), ((nx 5), .inl (cI, 24, .inl F))] H := hP
      have hD : va_D A [(aK, .inr (5, [.ref (kx 0), .ref (kx 1), .ref (kx 2), .ref (kx 3), .ref (kx 4), .ref (kx 5)])), ((kx 1), .inr (6, [.ref (fo 0), .ref (fo 1), .ref (fo 2), .ref (fo 3), .int z0])), ((fo 0), .inl (cB, (30 * 1), .inl (ow_nI B))), ((fo 1), .inl (cB, 1, .inl (ow_nI (nu L0 0 q)))), ((fo 2), .inl (cB, 1, .inl (ow_nI (nu K0 0 ((cntV F k (2 * cn)) / 2))))), ((kx 3), .inl (cB, 48, .inl (ow_nI tr))), ((kx 4), .inl (cI, 12, .inl (ow_nI M))), ((kx 5), .inl (cI, 12, .inl (ow_nI N))), (aX, .inr (10, [.ref (nx 0), .ref (nx 1), .ref (nx 2), .ref (nx 3), .ref (nx 4), .ref (nx 5), .ref (nx 6), .int (nI cn), .int x8, .int x9, .int x10])), ((nx 0), .inl (cI, 24, .inl (ow_nI S.1))), ((nx 2), .inl (cI, 12, .inl G)), ((nx 5), .inl (cI, 24, .inl F))] := hD
      rw [hQQ]
      exact W.vret hx hb hr (fun t ht hW => ⟨⟨(B, q, tr, M, N), rfl, ⟨hep, hBb, htr⟩, by rw [ht]; exact hP, hD⟩, hS.F ht⟩) hS.2.2 dgX2_encodePart_131
    | succ d ih =>
      intro i q B tr M N hi hep hBb htr H locs ls hP hD hS hl
      have hcl := cntV_le F k i
      have hql := ep_le hep
      refine lv_iload hx hb dgX2_encodePart_22 (lv_at hl 5 rfl) ?_
      refine lv_iconst (v := 2) hx hb dgX2_encodePart_24 (by decide) ?_
      refine lv_aload_n hx hb dgX2_encodePart_25 rfl (lv_at hl 1 rfl) ?_
      refine va_get (D := (dC, dI)) (ci := 10) (v := .int (nI cn)) (C := RX7) (T := TX7) (N := 11) hx hb hts (fun _ h => List.mem_cons_of_mem _ (List.mem_append_left _ (List.mem_append_right _ h))) hown hK hP 8 rfl rfl 7 (by decide) (hts (.fieldLink RX2 68 "KnotHouse$Net" "crossings" "I") (by decide +kernel)) (fun _ h9 => h9) rfl dgX2_encodePart_26 ?_
      refine lv_imul hx hb dgX2_encodePart_29 ?_
      refine ow_topi (y := nI (2 * cn)) (pk_mul 2 cn) ?_
      refine lv_icmp_ge (tgt := 117) hx hb dgX2_encodePart_30 (by decide) (fun c9 => absurd c9 (nI_ge (a := i) (b := 2 * cn) (by omega) (by omega))) (fun _ => ?_)
      refine lv_aload_n hx hb dgX2_encodePart_33 rfl (lv_at hl 1 rfl) ?_
      refine va_get (D := (dC, dI)) (ci := 10) (v := .ref (nx 5)) (C := RX7) (T := TX7) (N := 11) hx hb hts (fun _ h => List.mem_cons_of_mem _ (List.mem_append_left _ (List.mem_append_right _ h))) hown hK hP 8 rfl rfl 5 (by decide) (hts (.fieldLink RX2 88 "KnotHouse$Net" "part" "[I") (by decide +kernel)) (fun _ h9 => h9) rfl dgX2_encodePart_34 ?_
      refine lv_iload hx hb dgX2_encodePart_37 (lv_at hl 5 rfl) ?_
      refine va_iald hx hb hK hP 11 0 rfl rfl (vp_in_nI (n := i) (N := 24) (by omega) (by decide)) dgX2_encodePart_39 ?_
      refine ow_topi (y := F i) (congrArg F (nI_clamp (n := i) (Nat.lt_trans (m := 24) (by omega) (by decide)))) ?_
      refine lv_iload_n hx hb dgX2_encodePart_40 rfl (lv_at hl 2 rfl) ?_
      refine lv_icmp_eq (tgt := 47) hx hb dgX2_encodePart_41 (by decide) (fun c1 => ?_) (fun c1 => ?_)
      · have hst : cntV F k (i + 1) = cntV F k i + 1 := if_pos c1
        refine lv_iinc (v := nI ((cntV F k i) + 1)) (lv' := [(4, .int (nI ((cntV F k i) + 1))), (0, .ref aK), (1, .ref aX), (2, .int k), (3, .int (nI (cd_least G F k (2 * cn)))), (5, .int (nI i))]) hx hb dgX2_encodePart_47 hl (k := 4) rfl (nI_1 (cntV F k i)) (by decide) rfl (fun ls hl => ?_)
        refine lv_aload_n hx hb dgX2_encodePart_50 rfl (lv_at hl 2 rfl) ?_
        refine lv_iload hx hb dgX2_encodePart_51 (lv_at hl 5 rfl) ?_
        have hPc := hP.sub (ws' := [(aX, .inr (10, [.ref (nx 0), .ref (nx 1), .ref (nx 2), .ref (nx 3), .ref (nx 4), .ref (nx 5), .ref (nx 6), .int (nI cn), .int x8, .int x9, .int x10])), ((nx 2), .inl (cI, 12, .inl G))]) [8, 10] rfl
        refine va_calli (va_runS (As := [.ref aX, .int (nI i)]) (rest := []) ⟨hx, hb, hml, hown, hts⟩ (kg_X2_firstCell l dC dI cI cB cJ cZ aX nx (nI cn) x8 x9 x10 G i (by omega)) (va_cwS 2 hts gg_X2_encodePart_1 rfl rfl rfl (by decide +kernel) ⟨(Nat.le_of_ble_eq_true rfl), (Nat.le_of_ble_eq_true rfl)⟩) ⟨fun a U g mk q => by obtain ⟨q0, qP, qK⟩ := q; exact ⟨q0, qP, va_K.moved (u := U) (U := U.calling g mk a) (Vm.Alike.refl U.vm) qK⟩, fun U hU hW => ⟨rfl, by rw [hU]; exact hPc, va_K.moved hW.alike hK⟩⟩ rfl rfl hl.1 rfl (lv_room (Nat.le_of_ble_eq_true rfl)) dgX2_encodePart_53 ⟨(Nat.le_of_ble_eq_true rfl), (Nat.le_of_ble_eq_true rfl)⟩) hS (fun q _ h => h.elim) (fun q h => h.elim) (fun r9 un t H1 locs ht hvm hw9 hB hz1 hk1 hS => ?_)
        have hP := hP.kept (fun k9 x9 h9 => hk1 x9.1 ((hP k9 x9 h9).lt) id)
        generalize H1 = H at hP hS ⊢
        obtain rfl : r9 = nI (cd_first G i) := hw9
        have hfl := cd_first_lt G i
        refine lv_iload_n hx hb dgX2_encodePart_56 rfl (lv_at hl 4 rfl) ?_
        refine lv_icmp_ne (tgt := 111) hx hb dgX2_encodePart_57 (by decide) (fun c2 => ?_) (fun c2 => ?_)
        · have hne : ¬ cd_first G i = (cd_least G F k (2 * cn)) := fun h9 => c2 (congrArg nI h9)
          refine lv_iinc (v := nI (i + 1)) (lv' := [(5, .int (nI (i + 1))), (4, .int (nI ((cntV F k i) + 1))), (0, .ref aK), (1, .ref aX), (2, .int k), (3, .int (nI (cd_least G F k (2 * cn))))]) hx hb dgX2_encodePart_111 hl (k := 5) rfl (nI_1 i) (by decide) rfl (fun ls hl => ?_)
          refine lv_goto (tgt := 22) hx hb dgX2_encodePart_114 (by decide) ?_
          refine ih (i + 1) q B tr M N (by omega) (ep_skip hep (fun _ => hne)) hBb htr H locs ls hP hD hS ?_
          rw [hst]
          exact (lv_sub hl [2, 3, 4, 5, 1, 0] rfl)
        · have heq : cd_first G i = (cd_least G F k (2 * cn)) := ow_nI_inj (by omega) (by omega) c2
          have hln1 := hln i (by omega) c1
          have hp0 := tf_code_pos G S.1 i
          refine lv_aload_n hx hb dgX2_encodePart_60 rfl (lv_at hl 1 rfl) ?_
          refine lv_aload_n hx hb dgX2_encodePart_61 rfl (lv_at hl 2 rfl) ?_
          refine lv_iload hx hb dgX2_encodePart_62 (lv_at hl 5 rfl) ?_
          have hPc := hP.sub (ws' := [(aK, .inr (5, [.ref (kx 0), .ref (kx 1), .ref (kx 2), .ref (kx 3), .ref (kx 4), .ref (kx 5)])), ((kx 1), .inr (6, [.ref (fo 0), .ref (fo 1), .ref (fo 2), .ref (fo 3), .int z0])), ((fo 0), .inl (cB, (30 * 1), .inl (ow_nI B))), ((fo 1), .inl (cB, 1, .inl (ow_nI (nu L0 0 q)))), ((kx 3), .inl (cB, 48, .inl (ow_nI tr))), ((kx 4), .inl (cI, 12, .inl (ow_nI M))), ((kx 5), .inl (cI, 12, .inl (ow_nI N))), (aX, .inr (10, [.ref (nx 0), .ref (nx 1), .ref (nx 2), .ref (nx 3), .ref (nx 4), .ref (nx 5), .ref (nx 6), .int (nI cn), .int x8, .int x9, .int x10])), ((nx 0), .inl (cI, 24, .inl (ow_nI S.1))), ((nx 2), .inl (cI, 12, .inl G))]) [0, 1, 2, 3, 5, 6, 7, 8, 9, 10] rfl
          have hDc := hD.sub (ws' := [(aK, .inr (5, [.ref (kx 0), .ref (kx 1), .ref (kx 2), .ref (kx 3), .ref (kx 4), .ref (kx 5)])), ((kx 1), .inr (6, [.ref (fo 0), .ref (fo 1), .ref (fo 2), .ref (fo 3), .int z0])), ((fo 0), .inl (cB, (30 * 1), .inl (ow_nI B))), ((fo 1), .inl (cB, 1, .inl (ow_nI (nu L0 0 q)))), ((kx 3), .inl (cB, 48, .inl (ow_nI tr))), ((kx 4), .inl (cI, 12, .inl (ow_nI M))), ((kx 5), .inl (cI, 12, .inl (ow_nI N))), (aX, .inr (10, [.ref (nx 0), .ref (nx 1), .ref (nx 2), .ref (nx 3), .ref (nx 4), .ref (nx 5), .ref (nx 6), .int (nI cn), .int x8, .int x9, .int x10])), ((nx 0), .inl (cI, 24, .inl (ow_nI S.1))), ((nx 2), .inl (cI, 12, .inl G))]) [0, 1, 2, 3, 5, 6, 7, 8, 9, 10] (by decide) rfl
          have hFc := va_free (wc := [(aK, .inr (5, [.ref (kx 0), .ref (kx 1), .ref (kx 2), .ref (kx 3), .ref (kx 4), .ref (kx 5)])), ((kx 1), .inr (6, [.ref (fo 0), .ref (fo 1), .ref (fo 2), .ref (fo 3), .int z0])), ((fo 0), .inl (cB, (30 * 1), .inl (ow_nI B))), ((fo 1), .inl (cB, 1, .inl (ow_nI (nu L0 0 q)))), ((kx 3), .inl (cB, 48, .inl (ow_nI tr))), ((kx 4), .inl (cI, 12, .inl (ow_nI M))), ((kx 5), .inl (cI, 12, .inl (ow_nI N))), (aX, .inr (10, [.ref (nx 0), .ref (nx 1), .ref (nx 2), .ref (nx 3), .ref (nx 4), .ref (nx 5), .ref (nx 6), .int (nI cn), .int x8, .int x9, .int x10])), ((nx 0), .inl (cI, 24, .inl (ow_nI S.1))), ((nx 2), .inl (cI, 12, .inl G))]) hD hS hA [0, 1, 2, 3, 5, 6, 7, 8, 9, 10] rfl
          refine va_calli (va_runV (As := [.ref aX, .int (nI i)]) (rest := []) ⟨hx, hb, hml, hown, hts⟩ (kg_X2_tryFrom l dC dI cI cB cJ cZ aK kx fo B (nu L0 0 q) z0 tr M N aX nx (nI cn) x8 x9 x10 S hS0 G i (by omega) hBb (by rw [nu_same]; omega) htr (by omega) H.size) (cwV 2 hts gg_X2_encodePart_2 rfl rfl rfl (by decide +kernel) ⟨(Nat.le_of_ble_eq_true rfl), (Nat.le_of_ble_eq_true rfl)⟩) ⟨fun a U g mk q => by obtain ⟨q0, q1, qP, qK, qD⟩ := q; exact ⟨q0, q1, qP, va_K.moved (u := U) (U := U.calling g mk a) (Vm.Alike.refl U.vm) qK, qD⟩, va_recv hK hPc (ci := 5) (q0 := 0) rfl rfl, fun U hU hW => ⟨rfl, by rw [hU], by rw [hU]; exact hPc, va_K.moved hW.alike hK, hDc.weaken (fun _ _ _ _ => trivial)⟩⟩ rfl rfl hl.1 rfl (lv_room (Nat.le_of_ble_eq_true rfl)) dgX2_encodePart_64 ⟨(Nat.le_of_ble_eq_true rfl), (Nat.le_of_ble_eq_true rfl)⟩) hS (fun q _ h => hFc q h) hFc (fun r9 g9 t H1 locs ht hvm hw hB hz1 hk1 hS => ?_)
          obtain ⟨hP1, hD1⟩ := hB
          rw [ht] at hP1
          obtain ⟨hP, hD⟩ := va_join (wr := [((fo 2), .inl (cB, 1, .inl (ow_nI K0))), ((nx 5), .inl (cI, 24, .inl F))]) (w1 := [(aK, .inr (5, [.ref (kx 0), .ref (kx 1), .ref (kx 2), .ref (kx 3), .ref (kx 4), .ref (kx 5)])), ((kx 1), .inr (6, [.ref (fo 0), .ref (fo 1), .ref (fo 2), .ref (fo 3), .int z0])), ((fo 0), .inl (cB, (30 * 1), .inl (ow_nI B))), ((fo 1), .inl (cB, 1, .inl (ow_nI (nu L0 0 q)))), ((kx 3), .inl (cB, 48, .inl (ow_nI g9.1))), ((kx 4), .inl (cI, 12, .inl (ow_nI g9.2.1))), ((kx 5), .inl (cI, 12, .inl (ow_nI g9.2.2))), (aX, .inr (10, [.ref (nx 0), .ref (nx 1), .ref (nx 2), .ref (nx 3), .ref (nx 4), .ref (nx 5), .ref (nx 6), .int (nI cn), .int x8, .int x9, .int x10])), ((nx 0), .inl (cI, 24, .inl (ow_nI S.1))), ((nx 2), .inl (cI, 12, .inl G))]) hP hD [0, 1, 2, 3, 5, 6, 7, 8, 9, 10] [4, 11] rfl rfl (by decide) (by decide) hk1 hFc hP1 hD1
          generalize H1 = H at hP hS ⊢
          have hP : va_P (dC, dI) vwCl [((fo 2), .inl (cB, 1, .inl (ow_nI K0))), ((nx 5), .inl (cI, 24, .inl F)), (aK, .inr (5, [.ref (kx 0), .ref (kx 1), .ref (kx 2), .ref (kx 3), .ref (kx 4), .ref (kx 5)])), ((kx 1), .inr (6, [.ref (fo 0), .ref (fo 1), .ref (fo 2), .ref (fo 3), .int z0])), ((fo 0), .inl (cB, (30 * 1), .inl (ow_nI B))), ((fo 1), .inl (cB, 1, .inl (ow_nI (nu L0 0 q)))), ((kx 3), .inl (cB, 48, .inl (ow_nI g9.1))), ((kx 4), .inl (cI, 12, .inl (ow_nI g9.2.1))), ((kx 5), .inl (cI, 12, .inl (ow_nI g9.2.2))), (aX, .inr (10, [.ref (nx 0), .ref (nx 1), .ref (nx 2), .ref (nx 3), .ref (nx 4), .ref (nx 5), .ref (nx 6), .int (nI cn), .int x8, .int x9, .int x10])), ((nx 0), .inl (cI, 24, .inl (ow_nI S.1))), ((nx 2), .inl (cI, 12, .inl G))] H := hP
          have hD : va_D A [((fo 2), .inl (cB, 1, .inl (ow_nI K0))), ((nx 5), .inl (cI, 24, .inl F)), (aK, .inr (5, [.ref (kx 0), .ref (kx 1), .ref (kx 2), .ref (kx 3), .ref (kx 4), .ref (kx 5)])), ((kx 1), .inr (6, [.ref (fo 0), .ref (fo 1), .ref (fo 2), .ref (fo 3), .int z0])), ((fo 0), .inl (cB, (30 * 1), .inl (ow_nI B))), ((fo 1), .inl (cB, 1, .inl (ow_nI (nu L0 0 q)))), ((kx 3), .inl (cB, 48, .inl (ow_nI g9.1))), ((kx 4), .inl (cI, 12, .inl (ow_nI g9.2.1))), ((kx 5), .inl (cI, 12, .inl (ow_nI g9.2.2))), (aX, .inr (10, [.ref (nx 0), .ref (nx 1), .ref (nx 2), .ref (nx 3), .ref (nx 4), .ref (nx 5), .ref (nx 6), .int (nI cn), .int x8, .int x9, .int x10])), ((nx 0), .inl (cI, 24, .inl (ow_nI S.1))), ((nx 2), .inl (cI, 12, .inl G))] := hD
          have hP := hP.sub (ws' := [(aK, .inr (5, [.ref (kx 0), .ref (kx 1), .ref (kx 2), .ref (kx 3), .ref (kx 4), .ref (kx 5)])), ((kx 1), .inr (6, [.ref (fo 0), .ref (fo 1), .ref (fo 2), .ref (fo 3), .int z0])), ((fo 0), .inl (cB, (30 * 1), .inl (ow_nI B))), ((fo 1), .inl (cB, 1, .inl (ow_nI (nu L0 0 q)))), ((fo 2), .inl (cB, 1, .inl (ow_nI K0))), ((kx 3), .inl (cB, 48, .inl (ow_nI g9.1))), ((kx 4), .inl (cI, 12, .inl (ow_nI g9.2.1))), ((kx 5), .inl (cI, 12, .inl (ow_nI g9.2.2))), (aX, .inr (10, [.ref (nx 0), .ref (nx 1), .ref (nx 2), .ref (nx 3), .ref (nx 4), .ref (nx 5), .ref (nx 6), .int (nI cn), .int x8, .int x9, .int x10])), ((nx 0), .inl (cI, 24, .inl (ow_nI S.1))), ((nx 2), .inl (cI, 12, .inl G)), ((nx 5), .inl (cI, 24, .inl F))]) [2, 3, 4, 5, 0, 6, 7, 8, 9, 10, 11, 1] rfl
          have hD := hD.sub (ws' := [(aK, .inr (5, [.ref (kx 0), .ref (kx 1), .ref (kx 2), .ref (kx 3), .ref (kx 4), .ref (kx 5)])), ((kx 1), .inr (6, [.ref (fo 0), .ref (fo 1), .ref (fo 2), .ref (fo 3), .int z0])), ((fo 0), .inl (cB, (30 * 1), .inl (ow_nI B))), ((fo 1), .inl (cB, 1, .inl (ow_nI (nu L0 0 q)))), ((fo 2), .inl (cB, 1, .inl (ow_nI K0))), ((kx 3), .inl (cB, 48, .inl (ow_nI g9.1))), ((kx 4), .inl (cI, 12, .inl (ow_nI g9.2.1))), ((kx 5), .inl (cI, 12, .inl (ow_nI g9.2.2))), (aX, .inr (10, [.ref (nx 0), .ref (nx 1), .ref (nx 2), .ref (nx 3), .ref (nx 4), .ref (nx 5), .ref (nx 6), .int (nI cn), .int x8, .int x9, .int x10])), ((nx 0), .inl (cI, 24, .inl (ow_nI S.1))), ((nx 2), .inl (cI, 12, .inl G)), ((nx 5), .inl (cI, 24, .inl F))]) [2, 3, 4, 5, 0, 6, 7, 8, 9, 10, 11, 1] (by decide) rfl
          rw [nu_same, hln1] at hw
          obtain ⟨hw, hgb⟩ := hw
          refine lv_istore (lv' := [(6, .int r9), (4, .int (nI ((cntV F k i) + 1))), (0, .ref aK), (1, .ref aX), (2, .int k), (3, .int (nI (cd_least G F k (2 * cn)))), (5, .int (nI i))]) hx hb dgX2_encodePart_67 hl (by decide) rfl (fun ls hl => ?_)
          rcases hw with ⟨hr, hlt, ha⟩ | ⟨hr, hlt, hno⟩
          · rw [hr] at hl
            refine lv_iload hx hb dgX2_encodePart_69 (lv_at hl 0 rfl) ?_
            refine lv_if_le (tgt := 111) hx hb dgX2_encodePart_71 (by decide) (fun c9 => absurd c9 (Int32.not_le.mpr (nI_lt (a := 0) (b := n0) (by omega) (by omega)))) (fun _ => ?_)
            refine lv_iload hx hb dgX2_encodePart_74 (lv_at hl 0 rfl) ?_
            refine lv_bipush (v := 30) hx hb dgX2_encodePart_76 (by decide) ?_
            refine lv_icmp_gt (tgt := 111) hx hb dgX2_encodePart_78 (by decide) (fun c9 => absurd c9 (Int32.not_lt.mpr (nI_le (a := n0) (b := 30) (by omega) (by omega)))) (fun _ => ?_)
            refine lv_aload_n hx hb dgX2_encodePart_81 rfl (lv_at hl 2 rfl) ?_
            refine va_get (D := (dC, dI)) (ci := 5) (v := .ref (kx 3)) (C := RX2) (T := TX2) (N := 6) hx hb hts (fun _ h => List.mem_cons_of_mem _ (List.mem_append_left _ (List.mem_append_left _ (List.mem_append_left _ (List.mem_append_right _ h))))) hown hK hP 0 rfl rfl 3 (by decide) (hts (.fieldLink RX2 26 "KnotHouse$Coder" "trial" "[B") (by decide +kernel)) (fun _ h9 => h9) rfl dgX2_encodePart_82 ?_
            refine lv_iconst (v := 0) hx hb dgX2_encodePart_85 (by decide) ?_
            refine ow_topi (y := nI 0) (by decide) ?_
            refine lv_aload_n hx hb dgX2_encodePart_86 rfl (lv_at hl 2 rfl) ?_
            refine va_get (D := (dC, dI)) (ci := 5) (v := .ref (kx 1)) (C := RX2) (T := TX2) (N := 6) hx hb hts (fun _ h => List.mem_cons_of_mem _ (List.mem_append_left _ (List.mem_append_left _ (List.mem_append_left _ (List.mem_append_right _ h))))) hown hK hP 0 rfl rfl 1 (by decide) (hts (.fieldLink RX2 20 "KnotHouse$Coder" "one" "LKnotHouse$Codes;") (by decide +kernel)) (fun _ h9 => h9) rfl dgX2_encodePart_87 ?_
            refine va_get (D := (dC, dI)) (ci := 6) (v := .ref (fo 0)) (C := RX3) (T := TX3) (N := 5) hx hb hts (fun _ h => List.mem_cons_of_mem _ (List.mem_append_left _ (List.mem_append_left _ (List.mem_append_right _ h)))) hown hK hP 1 rfl rfl 0 (by decide) (hts (.fieldLink RX2 51 "KnotHouse$Codes" "cells" "[B") (by decide +kernel)) (fun _ h9 => h9) rfl dgX2_encodePart_90 ?_
            refine lv_iconst (v := 0) hx hb dgX2_encodePart_93 (by decide) ?_
            refine ow_topi (y := nI 0) (by decide) ?_
            refine lv_iload hx hb dgX2_encodePart_94 (lv_at hl 0 rfl) ?_
            refine ow_cpyb (sp := 0) (dp := 0) (n := n0) hx hb (by rw [hml]; exact hl.1.symm) hown (hts (.methodLink RX2 54 arraycopyName) (by decide +kernel)) (hts (.native arraycopyName) (by decide +kernel)) (hts (.static arraycopyName) (by decide +kernel)) (hts (.initialized "java/lang/System") (by decide +kernel)) hK hP hD hS 5 2 1 1 rfl rfl rfl rfl hgb (by omega) (by omega) (by omega) (by omega) (Nat.le_of_ble_eq_true rfl) (by decide) dgX2_encodePart_96 (fun H locs hP hD hS => ?_)
            have hP : va_P (dC, dI) vwCl [(aK, .inr (5, [.ref (kx 0), .ref (kx 1), .ref (kx 2), .ref (kx 3), .ref (kx 4), .ref (kx 5)])), ((kx 1), .inr (6, [.ref (fo 0), .ref (fo 1), .ref (fo 2), .ref (fo 3), .int z0])), ((fo 0), .inl (cB, (30 * 1), .inl (ow_nI (va_cpy g9.1 B 0 0 n0)))), ((fo 1), .inl (cB, 1, .inl (ow_nI (nu L0 0 q)))), ((fo 2), .inl (cB, 1, .inl (ow_nI K0))), ((kx 3), .inl (cB, 48, .inl (ow_nI g9.1))), ((kx 4), .inl (cI, 12, .inl (ow_nI g9.2.1))), ((kx 5), .inl (cI, 12, .inl (ow_nI g9.2.2))), (aX, .inr (10, [.ref (nx 0), .ref (nx 1), .ref (nx 2), .ref (nx 3), .ref (nx 4), .ref (nx 5), .ref (nx 6), .int (nI cn), .int x8, .int x9, .int x10])), ((nx 0), .inl (cI, 24, .inl (ow_nI S.1))), ((nx 2), .inl (cI, 12, .inl G)), ((nx 5), .inl (cI, 24, .inl F))] H := hP
            have hD : va_D A [(aK, .inr (5, [.ref (kx 0), .ref (kx 1), .ref (kx 2), .ref (kx 3), .ref (kx 4), .ref (kx 5)])), ((kx 1), .inr (6, [.ref (fo 0), .ref (fo 1), .ref (fo 2), .ref (fo 3), .int z0])), ((fo 0), .inl (cB, (30 * 1), .inl (ow_nI (va_cpy g9.1 B 0 0 n0)))), ((fo 1), .inl (cB, 1, .inl (ow_nI (nu L0 0 q)))), ((fo 2), .inl (cB, 1, .inl (ow_nI K0))), ((kx 3), .inl (cB, 48, .inl (ow_nI g9.1))), ((kx 4), .inl (cI, 12, .inl (ow_nI g9.2.1))), ((kx 5), .inl (cI, 12, .inl (ow_nI g9.2.2))), (aX, .inr (10, [.ref (nx 0), .ref (nx 1), .ref (nx 2), .ref (nx 3), .ref (nx 4), .ref (nx 5), .ref (nx 6), .int (nI cn), .int x8, .int x9, .int x10])), ((nx 0), .inl (cI, 24, .inl (ow_nI S.1))), ((nx 2), .inl (cI, 12, .inl G)), ((nx 5), .inl (cI, 24, .inl F))] := hD
            refine lv_aload_n hx hb dgX2_encodePart_99 rfl (lv_at hl 2 rfl) ?_
            refine va_get (D := (dC, dI)) (ci := 5) (v := .ref (kx 1)) (C := RX2) (T := TX2) (N := 6) hx hb hts (fun _ h => List.mem_cons_of_mem _ (List.mem_append_left _ (List.mem_append_left _ (List.mem_append_left _ (List.mem_append_right _ h))))) hown hK hP 0 rfl rfl 1 (by decide) (hts (.fieldLink RX2 20 "KnotHouse$Coder" "one" "LKnotHouse$Codes;") (by decide +kernel)) (fun _ h9 => h9) rfl dgX2_encodePart_100 ?_
            refine va_get (D := (dC, dI)) (ci := 6) (v := .ref (fo 1)) (C := RX3) (T := TX3) (N := 5) hx hb hts (fun _ h => List.mem_cons_of_mem _ (List.mem_append_left _ (List.mem_append_left _ (List.mem_append_right _ h)))) hown hK hP 1 rfl rfl 1 (by decide) (hts (.fieldLink RX2 48 "KnotHouse$Codes" "lengths" "[B") (by decide +kernel)) (fun _ h9 => h9) rfl dgX2_encodePart_103 ?_
            refine lv_iconst (v := 0) hx hb dgX2_encodePart_106 (by decide) ?_
            refine ow_topi (y := nI 0) (by decide) ?_
            refine lv_iload hx hb dgX2_encodePart_107 (lv_at hl 0 rfl) ?_
            refine lv_i2b hx hb dgX2_encodePart_109 rfl ?_
            refine ow_topi (y := nI n0) (ow_i2b (by omega)) ?_
            refine ow_bastN (j := 0) (w := n0) hx hb hK hP hD hS 3 1 rfl rfl (by decide) (by decide) (by omega) dgX2_encodePart_110 (fun H locs hP hD hS => ?_)
            have hP : va_P (dC, dI) vwCl [(aK, .inr (5, [.ref (kx 0), .ref (kx 1), .ref (kx 2), .ref (kx 3), .ref (kx 4), .ref (kx 5)])), ((kx 1), .inr (6, [.ref (fo 0), .ref (fo 1), .ref (fo 2), .ref (fo 3), .int z0])), ((fo 0), .inl (cB, (30 * 1), .inl (ow_nI (va_cpy g9.1 B 0 0 n0)))), ((fo 1), .inl (cB, 1, .inl (ow_nI (nu (nu L0 0 q) 0 n0)))), ((fo 2), .inl (cB, 1, .inl (ow_nI K0))), ((kx 3), .inl (cB, 48, .inl (ow_nI g9.1))), ((kx 4), .inl (cI, 12, .inl (ow_nI g9.2.1))), ((kx 5), .inl (cI, 12, .inl (ow_nI g9.2.2))), (aX, .inr (10, [.ref (nx 0), .ref (nx 1), .ref (nx 2), .ref (nx 3), .ref (nx 4), .ref (nx 5), .ref (nx 6), .int (nI cn), .int x8, .int x9, .int x10])), ((nx 0), .inl (cI, 24, .inl (ow_nI S.1))), ((nx 2), .inl (cI, 12, .inl G)), ((nx 5), .inl (cI, 24, .inl F))] H := hP
            have hD : va_D A [(aK, .inr (5, [.ref (kx 0), .ref (kx 1), .ref (kx 2), .ref (kx 3), .ref (kx 4), .ref (kx 5)])), ((kx 1), .inr (6, [.ref (fo 0), .ref (fo 1), .ref (fo 2), .ref (fo 3), .int z0])), ((fo 0), .inl (cB, (30 * 1), .inl (ow_nI (va_cpy g9.1 B 0 0 n0)))), ((fo 1), .inl (cB, 1, .inl (ow_nI (nu (nu L0 0 q) 0 n0)))), ((fo 2), .inl (cB, 1, .inl (ow_nI K0))), ((kx 3), .inl (cB, 48, .inl (ow_nI g9.1))), ((kx 4), .inl (cI, 12, .inl (ow_nI g9.2.1))), ((kx 5), .inl (cI, 12, .inl (ow_nI g9.2.2))), (aX, .inr (10, [.ref (nx 0), .ref (nx 1), .ref (nx 2), .ref (nx 3), .ref (nx 4), .ref (nx 5), .ref (nx 6), .int (nI cn), .int x8, .int x9, .int x10])), ((nx 0), .inl (cI, 24, .inl (ow_nI S.1))), ((nx 2), .inl (cI, 12, .inl G)), ((nx 5), .inl (cI, 24, .inl F))] := hD
            have hP : va_P (dC, dI) vwCl [(aK, .inr (5, [.ref (kx 0), .ref (kx 1), .ref (kx 2), .ref (kx 3), .ref (kx 4), .ref (kx 5)])), ((kx 1), .inr (6, [.ref (fo 0), .ref (fo 1), .ref (fo 2), .ref (fo 3), .int z0])), ((fo 0), .inl (cB, (30 * 1), .inl (ow_nI (va_cpy g9.1 B 0 0 n0)))), ((fo 1), .inl (cB, 1, .inl (ow_nI (nu L0 0 n0)))), ((fo 2), .inl (cB, 1, .inl (ow_nI K0))), ((kx 3), .inl (cB, 48, .inl (ow_nI g9.1))), ((kx 4), .inl (cI, 12, .inl (ow_nI g9.2.1))), ((kx 5), .inl (cI, 12, .inl (ow_nI g9.2.2))), (aX, .inr (10, [.ref (nx 0), .ref (nx 1), .ref (nx 2), .ref (nx 3), .ref (nx 4), .ref (nx 5), .ref (nx 6), .int (nI cn), .int x8, .int x9, .int x10])), ((nx 0), .inl (cI, 24, .inl (ow_nI S.1))), ((nx 2), .inl (cI, 12, .inl G)), ((nx 5), .inl (cI, 24, .inl F))] H := by rw [nu_nu] at hP; exact hP
            have hD : va_D A [(aK, .inr (5, [.ref (kx 0), .ref (kx 1), .ref (kx 2), .ref (kx 3), .ref (kx 4), .ref (kx 5)])), ((kx 1), .inr (6, [.ref (fo 0), .ref (fo 1), .ref (fo 2), .ref (fo 3), .int z0])), ((fo 0), .inl (cB, (30 * 1), .inl (ow_nI (va_cpy g9.1 B 0 0 n0)))), ((fo 1), .inl (cB, 1, .inl (ow_nI (nu L0 0 n0)))), ((fo 2), .inl (cB, 1, .inl (ow_nI K0))), ((kx 3), .inl (cB, 48, .inl (ow_nI g9.1))), ((kx 4), .inl (cI, 12, .inl (ow_nI g9.2.1))), ((kx 5), .inl (cI, 12, .inl (ow_nI g9.2.2))), (aX, .inr (10, [.ref (nx 0), .ref (nx 1), .ref (nx 2), .ref (nx 3), .ref (nx 4), .ref (nx 5), .ref (nx 6), .int (nI cn), .int x8, .int x9, .int x10])), ((nx 0), .inl (cI, 24, .inl (ow_nI S.1))), ((nx 2), .inl (cI, 12, .inl G)), ((nx 5), .inl (cI, 24, .inl F))] := by rw [nu_nu] at hD; exact hD
            refine lv_iinc (v := nI (i + 1)) (lv' := [(5, .int (nI (i + 1))), (6, .int (nI n0)), (4, .int (nI ((cntV F k i) + 1))), (0, .ref aK), (1, .ref aX), (2, .int k), (3, .int (nI (cd_least G F k (2 * cn))))]) hx hb dgX2_encodePart_111 hl (k := 6) rfl (nI_1 i) (by decide) rfl (fun ls hl => ?_)
            refine lv_goto (tgt := 22) hx hb dgX2_encodePart_114 (by decide) ?_
            refine ih (i + 1) n0 (va_cpy g9.1 B 0 0 n0) g9.1 g9.2.1 g9.2.2 (by omega) (ep_new hep c1 heq hlt ha (by omega)) (cpy_b128 hgb hBb) hgb H locs ls hP hD hS ?_
            rw [hst]
            exact (lv_sub hl [3, 4, 5, 6, 2, 0] rfl)
          · rw [hr] at hl
            refine lv_iload hx hb dgX2_encodePart_69 (lv_at hl 0 rfl) ?_
            refine lv_if_le (tgt := 111) hx hb dgX2_encodePart_71 (by decide) (fun _ => ?_) (fun c9 => absurd (by decide) c9)
            refine lv_iinc (v := nI (i + 1)) (lv' := [(5, .int (nI (i + 1))), (6, .int 0), (4, .int (nI ((cntV F k i) + 1))), (0, .ref aK), (1, .ref aX), (2, .int k), (3, .int (nI (cd_least G F k (2 * cn))))]) hx hb dgX2_encodePart_111 hl (k := 6) rfl (nI_1 i) (by decide) rfl (fun ls hl => ?_)
            refine lv_goto (tgt := 22) hx hb dgX2_encodePart_114 (by decide) ?_
            refine ih (i + 1) q B g9.1 g9.2.1 g9.2.2 (by omega) (ep_old hep hlt hno) hBb hgb H locs ls hP hD hS ?_
            rw [hst]
            exact (lv_sub hl [3, 4, 5, 6, 2, 0] rfl)
      · have hst : cntV F k (i + 1) = cntV F k i := if_neg c1
        refine lv_goto (tgt := 111) hx hb dgX2_encodePart_44 (by decide) ?_
        refine lv_iinc (v := nI (i + 1)) (lv' := [(5, .int (nI (i + 1))), (0, .ref aK), (1, .ref aX), (2, .int k), (3, .int (nI (cd_least G F k (2 * cn)))), (4, .int (nI (cntV F k i)))]) hx hb dgX2_encodePart_111 hl (k := 5) rfl (nI_1 i) (by decide) rfl (fun ls hl => ?_)
        refine lv_goto (tgt := 22) hx hb dgX2_encodePart_114 (by decide) ?_
        refine ih (i + 1) q B tr M N (by omega) (ep_skip hep (fun h9 => absurd h9 c1)) hBb htr H locs ls hP hD hS ?_
        rw [hst]
        exact (lv_sub hl [1, 2, 3, 4, 5, 0] rfl)
  refine lv_aload_n hx hb dgX2_encodePart_0 rfl (lv_at hl 1 rfl) ?_
  refine lv_iload_n hx hb dgX2_encodePart_1 rfl (lv_at hl 2 rfl) ?_
  have hPc := hP.sub (ws' := [(aX, .inr (10, [.ref (nx 0), .ref (nx 1), .ref (nx 2), .ref (nx 3), .ref (nx 4), .ref (nx 5), .ref (nx 6), .int (nI cn), .int x8, .int x9, .int x10])), ((nx 2), .inl (cI, 12, .inl G)), ((nx 5), .inl (cI, 24, .inl F))]) [8, 10, 11] rfl
  refine va_calli (va_runS (As := [.ref aX, .int k]) (rest := []) ⟨hx, hb, hml, hown, hts⟩ (kg_X2_leastFirstCell l dC dI cI cB cJ cZ aX nx x8 x9 x10 G F k cn hc) (va_cwS 2 hts gg_X2_encodePart_0 rfl rfl rfl (by decide +kernel) ⟨(Nat.le_of_ble_eq_true rfl), (Nat.le_of_ble_eq_true rfl)⟩) ⟨fun a U g mk q => by obtain ⟨q0, qP, qK⟩ := q; exact ⟨q0, qP, va_K.moved (u := U) (U := U.calling g mk a) (Vm.Alike.refl U.vm) qK⟩, fun U hU hW => ⟨rfl, by rw [hU]; exact hPc, va_K.moved hW.alike hK⟩⟩ rfl rfl hl.1 rfl (lv_room (Nat.le_of_ble_eq_true rfl)) dgX2_encodePart_2 ⟨(Nat.le_of_ble_eq_true rfl), (Nat.le_of_ble_eq_true rfl)⟩) hS (fun q _ h => h.elim) (fun q h => h.elim) (fun r9 un t H1 locs ht hvm hw9 hB hz1 hk1 hS => ?_)
  have hP := hP.kept (fun k9 x9 h9 => hk1 x9.1 ((hP k9 x9 h9).lt) id)
  generalize H1 = H at hP hS ⊢
  obtain rfl : r9 = nI (cd_least G F k (2 * cn)) := hw9
  refine lv_istore_n (lv' := [(3, .int (nI (cd_least G F k (2 * cn)))), (0, .ref aK), (1, .ref aX), (2, .int k)]) hx hb dgX2_encodePart_5 rfl hl (by decide) rfl (fun ls hl => ?_)
  refine lv_iconst (v := 0) hx hb dgX2_encodePart_6 (by decide) ?_
  refine ow_topi (y := nI 0) (by decide) ?_
  refine lv_istore (lv' := [(4, .int (nI 0)), (3, .int (nI (cd_least G F k (2 * cn)))), (0, .ref aK), (1, .ref aX), (2, .int k)]) hx hb dgX2_encodePart_7 hl (by decide) rfl (fun ls hl => ?_)
  refine lv_aload_n hx hb dgX2_encodePart_9 rfl (lv_at hl 2 rfl) ?_
  refine va_get (D := (dC, dI)) (ci := 5) (v := .ref (kx 1)) (C := RX2) (T := TX2) (N := 6) hx hb hts (fun _ h => List.mem_cons_of_mem _ (List.mem_append_left _ (List.mem_append_left _ (List.mem_append_left _ (List.mem_append_right _ h))))) hown hK hP 0 rfl rfl 1 (by decide) (hts (.fieldLink RX2 20 "KnotHouse$Coder" "one" "LKnotHouse$Codes;") (by decide +kernel)) (fun _ h9 => h9) rfl dgX2_encodePart_10 ?_
  refine va_get (D := (dC, dI)) (ci := 6) (v := .ref (fo 1)) (C := RX3) (T := TX3) (N := 5) hx hb hts (fun _ h => List.mem_cons_of_mem _ (List.mem_append_left _ (List.mem_append_left _ (List.mem_append_right _ h)))) hown hK hP 1 rfl rfl 1 (by decide) (hts (.fieldLink RX2 48 "KnotHouse$Codes" "lengths" "[B") (by decide +kernel)) (fun _ h9 => h9) rfl dgX2_encodePart_13 ?_
  refine lv_iconst (v := 0) hx hb dgX2_encodePart_16 (by decide) ?_
  refine ow_topi (y := nI 0) (by decide) ?_
  refine lv_iconst (v := 0) hx hb dgX2_encodePart_17 (by decide) ?_
  refine ow_topi (y := nI 0) (by decide) ?_
  refine ow_bastN (j := 0) (w := 0) hx hb hK hP hD hS 3 1 rfl rfl (by decide) (by decide) (by decide) dgX2_encodePart_18 (fun H locs hP hD hS => ?_)
  have hP : va_P (dC, dI) vwCl [(aK, .inr (5, [.ref (kx 0), .ref (kx 1), .ref (kx 2), .ref (kx 3), .ref (kx 4), .ref (kx 5)])), ((kx 1), .inr (6, [.ref (fo 0), .ref (fo 1), .ref (fo 2), .ref (fo 3), .int z0])), ((fo 0), .inl (cB, (30 * 1), .inl (ow_nI B0))), ((fo 1), .inl (cB, 1, .inl (ow_nI (nu L0 0 0)))), ((fo 2), .inl (cB, 1, .inl (ow_nI K0))), ((kx 3), .inl (cB, 48, .inl (ow_nI t0))), ((kx 4), .inl (cI, 12, .inl (ow_nI M0))), ((kx 5), .inl (cI, 12, .inl (ow_nI N0))), (aX, .inr (10, [.ref (nx 0), .ref (nx 1), .ref (nx 2), .ref (nx 3), .ref (nx 4), .ref (nx 5), .ref (nx 6), .int (nI cn), .int x8, .int x9, .int x10])), ((nx 0), .inl (cI, 24, .inl (ow_nI S.1))), ((nx 2), .inl (cI, 12, .inl G)), ((nx 5), .inl (cI, 24, .inl F))] H := hP
  have hD : va_D A [(aK, .inr (5, [.ref (kx 0), .ref (kx 1), .ref (kx 2), .ref (kx 3), .ref (kx 4), .ref (kx 5)])), ((kx 1), .inr (6, [.ref (fo 0), .ref (fo 1), .ref (fo 2), .ref (fo 3), .int z0])), ((fo 0), .inl (cB, (30 * 1), .inl (ow_nI B0))), ((fo 1), .inl (cB, 1, .inl (ow_nI (nu L0 0 0)))), ((fo 2), .inl (cB, 1, .inl (ow_nI K0))), ((kx 3), .inl (cB, 48, .inl (ow_nI t0))), ((kx 4), .inl (cI, 12, .inl (ow_nI M0))), ((kx 5), .inl (cI, 12, .inl (ow_nI N0))), (aX, .inr (10, [.ref (nx 0), .ref (nx 1), .ref (nx 2), .ref (nx 3), .ref (nx 4), .ref (nx 5), .ref (nx 6), .int (nI cn), .int x8, .int x9, .int x10])), ((nx 0), .inl (cI, 24, .inl (ow_nI S.1))), ((nx 2), .inl (cI, 12, .inl G)), ((nx 5), .inl (cI, 24, .inl F))] := hD
  refine lv_iconst (v := 0) hx hb dgX2_encodePart_19 (by decide) ?_
  refine ow_topi (y := nI 0) (by decide) ?_
  refine lv_istore (lv' := [(5, .int (nI 0)), (4, .int (nI 0)), (3, .int (nI (cd_least G F k (2 * cn)))), (0, .ref aK), (1, .ref aX), (2, .int k)]) hx hb dgX2_encodePart_20 hl (by decide) rfl (fun ls hl => ?_)
  exact L22 (2 * cn) 0 0 B0 t0 M0 N0 (by omega) (Or.inl ⟨rfl, fun w hw => absurd hw (Nat.not_lt_zero w)⟩) hB0 ht0 H locs ls hP hD hS (lv_sub hl [3, 4, 5, 2, 1, 0] rfl)
