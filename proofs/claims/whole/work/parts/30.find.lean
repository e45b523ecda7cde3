/-! stores whose content is kept -/
section KEEPS
variable {p : Program} {l : Launch} {e : Env} {R : Room} {s : State} {m : MethodId} {args : Array Value} {below : List Frame} {meth : Method} {c : Code} {H : Heap} {locs : List Loc} {cells slots : Nat} {Q : State → Prop}
variable {cc : ByteArray} {pc : Nat} {ls : Array Slot} {rest : List Value} {D : va_G} {cl : List vw_C} {A : Nat → Prop} {a : Nat} {tys : List (ClassId × FieldType)} {ws : va_W} {H0 : Heap}
theorem ow_iastU (hexec : p.tables.exec = Jvm.exec) (hb : c.code = cc) (hK : va_K D cl tys s) (hP : va_P D cl ws H) (hD : va_D A ws) (hS : va_S A H0 H locs) (q0 t0 : Nat) {cA : ClassId} {n j : Nat} {f : Nat → Int32} (ha : ws[q0]? = some (a, .inl (cA, n, .inl f))) (ht : tys[t0]? = some (cA, .int)) {i : Int32} {x : Int32} (hj : i = nI j) (hjn : j < n) (hn : n < 2 ^ 31) (hdg : decode cc pc = .ok (.iastore, 1))
    (kk : ∀ (f1 : Nat → Int32) (H1 : Heap) (locs1 : List Loc), f1 j = x → (∀ k, k ≠ j → f1 k = f k) → va_P D cl (ws.set q0 (a, .inl (cA, n, .inl f1))) H1 → va_D A (ws.set q0 (a, .inl (cA, n, .inl f1))) → va_S A H0 H1 locs1 → W p l e R s m args below meth c H1 locs1 cells slots Q (F0 m (pc + 1) ls rest)) : W p l e R s m args below meth c H locs cells slots Q (F0 m pc ls (.int x :: .int i :: .ref a :: rest)) := by
  subst hj
  refine va_iast hexec hb hK hP hD hS q0 t0 ha ht (vp_in_nI hjn hn) hdg (fun H1 locs1 h1 h2 h3 => ?_)
  rw [nI_clamp (by omega)] at h1 h2
  exact kk _ H1 locs1 (if_pos rfl) (fun k hk => if_neg hk) h1 h2 h3
end KEEPS
/-- rows of ends: the first a places of simple k are those of the row -/
def ow_eqr (fE fR : Nat → Int32) (n k a : Nat) : Prop := ∀ b, b < a → fE (5 * (120 * n + k) + b) = fR b
theorem ow_eqr_s {fE fR : Nat → Int32} {n k a : Nat} (h : ow_eqr fE fR n k a) (h1 : fE (5 * (120 * n + k) + a) = fR a) : ow_eqr fE fR n k (a + 1) := fun b hb => by
  rcases Nat.lt_or_ge b a with q | q
  · exact h b q
  · have e : b = a := by omega
    rw [e]
    exact h1
theorem dX13_find_0 : decode cX13_find 0 = .ok (.iconst 0, 1) := by decide +kernel
theorem dX13_find_1 : decode cX13_find 1 = .ok (.istore_n 3, 1) := by decide +kernel
theorem dX13_find_2 : decode cX13_find 2 = .ok (.iload_n 3, 1) := by decide +kernel
theorem dX13_find_3 : decode cX13_find 3 = .ok (.aload_n 0, 1) := by decide +kernel
theorem dX13_find_4 : decode cX13_find 4 = .ok (.getfield 329, 3) := by decide +kernel
theorem dX13_find_7 : decode cX13_find 7 = .ok (.iload_n 1, 1) := by decide +kernel
theorem dX13_find_8 : decode cX13_find 8 = .ok (.iaload, 1) := by decide +kernel
theorem dX13_find_9 : decode cX13_find 9 = .ok (.if_icmp .ge 67, 3) := by decide +kernel
theorem dX13_find_12 : decode cX13_find 12 = .ok (.iconst 1, 1) := by decide +kernel
theorem dX13_find_13 : decode cX13_find 13 = .ok (.istore 4, 2) := by decide +kernel
theorem dX13_find_15 : decode cX13_find 15 = .ok (.iconst 0, 1) := by decide +kernel
theorem dX13_find_16 : decode cX13_find 16 = .ok (.istore 5, 2) := by decide +kernel
theorem dX13_find_18 : decode cX13_find 18 = .ok (.iload 5, 2) := by decide +kernel
theorem dX13_find_20 : decode cX13_find 20 = .ok (.iload_n 1, 1) := by decide +kernel
theorem dX13_find_21 : decode cX13_find 21 = .ok (.if_icmp .ge 42, 3) := by decide +kernel
theorem dX13_find_24 : decode cX13_find 24 = .ok (.iload 4, 2) := by decide +kernel
theorem dX13_find_26 : decode cX13_find 26 = .ok (.aload_n 0, 1) := by decide +kernel
theorem dX13_find_27 : decode cX13_find 27 = .ok (.getfield 332, 3) := by decide +kernel
theorem dX13_find_30 : decode cX13_find 30 = .ok (.iconst 5, 1) := by decide +kernel
theorem dX13_find_31 : decode cX13_find 31 = .ok (.bipush 120, 2) := by decide +kernel
theorem dX13_find_33 : decode cX13_find 33 = .ok (.iload_n 1, 1) := by decide +kernel
theorem dX13_find_34 : decode cX13_find 34 = .ok (.imul, 1) := by decide +kernel
theorem dX13_find_35 : decode cX13_find 35 = .ok (.iload_n 3, 1) := by decide +kernel
theorem dX13_find_36 : decode cX13_find 36 = .ok (.iadd, 1) := by decide +kernel
theorem dX13_find_37 : decode cX13_find 37 = .ok (.imul, 1) := by decide +kernel
theorem dX13_find_38 : decode cX13_find 38 = .ok (.iload 5, 2) := by decide +kernel
theorem dX13_find_40 : decode cX13_find 40 = .ok (.iadd, 1) := by decide +kernel
theorem dX13_find_41 : decode cX13_find 41 = .ok (.iaload, 1) := by decide +kernel
theorem dX13_find_42 : decode cX13_find 42 = .ok (.aload_n 2, 1) := by decide +kernel
theorem dX13_find_43 : decode cX13_find 43 = .ok (.iload 5, 2) := by decide +kernel
theorem dX13_find_45 : decode cX13_find 45 = .ok (.iaload, 1) := by decide +kernel
theorem dX13_find_46 : decode cX13_find 46 = .ok (.if_icmp .ne 7, 3) := by decide +kernel
theorem dX13_find_49 : decode cX13_find 49 = .ok (.iconst 1, 1) := by decide +kernel
theorem dX13_find_50 : decode cX13_find 50 = .ok (.goto 4, 3) := by decide +kernel
theorem dX13_find_53 : decode cX13_find 53 = .ok (.iconst 0, 1) := by decide +kernel
theorem dX13_find_54 : decode cX13_find 54 = .ok (.iand, 1) := by decide +kernel
theorem dX13_find_55 : decode cX13_find 55 = .ok (.istore 4, 2) := by decide +kernel
theorem dX13_find_57 : decode cX13_find 57 = .ok (.iinc 5 1, 3) := by decide +kernel
theorem dX13_find_60 : decode cX13_find 60 = .ok (.goto (-42), 3) := by decide +kernel
theorem dX13_find_63 : decode cX13_find 63 = .ok (.iload 4, 2) := by decide +kernel
theorem dX13_find_65 : decode cX13_find 65 = .ok (.ifCond .eq 5, 3) := by decide +kernel
theorem dX13_find_68 : decode cX13_find 68 = .ok (.iload_n 3, 1) := by decide +kernel
theorem dX13_find_69 : decode cX13_find 69 = .ok (.ireturn, 1) := by decide +kernel
theorem dX13_find_70 : decode cX13_find 70 = .ok (.iinc 3 1, 3) := by decide +kernel
theorem dX13_find_73 : decode cX13_find 73 = .ok (.goto (-71), 3) := by decide +kernel
theorem dX13_find_76 : decode cX13_find 76 = .ok (.iconst (-1), 1) := by decide +kernel
theorem dX13_find_77 : decode cX13_find 77 = .ok (.ireturn, 1) := by decide +kernel
def wf_Mfind : List Cond := .code yX13_find cX13_find 6 (some .int) :: ([.fieldLink RX13 329 "KnotHouseModel" "simples" "[I", .fieldLink RX13 332 "KnotHouseModel" "ends" "[I"] ++ wsX130)
set_option maxHeartbeats 4000000 in
set_option maxRecDepth 100000 in
theorem kf_X13_find (l : Launch) (dC : Nat → ClassId) (dI : Nat → Nat → Nat) (cI cB cJ cZ : ClassId) (h0 aS aE aR : Nat) (fs : List Value) (hfs : fs.length = 120) (hkaS : fs[96]? = some (.ref aS)) (hkaE : fs[97]? = some (.ref aE)) (fS fE fR : Nat → Int32) (n ct : Nat) (h2 : 2 ≤ n) (h5 : n ≤ 5) (hct : ct ≤ 120) (hfS : fS n = nI ct) : Met l yX13_find wf_Mfind (({ frames := 0, cells := 0, slots := 0, locals := 0 } : Room)) (va_Pc [.ref h0, .int (nI n), .ref aR] (fun U => va_P (dC, dI) vwCl [(h0, .inr (16, fs)), (aS, .inl (cI, 6, .inl fS)), (aE, .inl (cI, 3600, .inl fE)), (aR, .inl (cI, 5, .inl fR))] U.heap ∧ va_K (dC, dI) vwCl [(cI, .int), (cB, .byte), (cJ, .long), (cZ, .boolean)] U)) (va_Qi (fun r (_ : Unit) => (∃ t, t < ct ∧ r = nI t ∧ ow_eqr fE fR n t n) ∨ (r = -1 ∧ ∀ t, t < ct → ¬ ow_eqr fE fR n t n)) (fun _ _ => True) (fun _ => False)) 0 0 (fun _ => False) := by
  refine Met.ofW (cc := cX13_find) (maxL := 6) (ret := (some .int)) (by decide) rfl ?_
  intro p e s m args below meth c s₁ B hml hv
  obtain ⟨rfl, hP, hK⟩ := hv
  have hx := B.exec
  have hb := B.bytes
  have hr := B.returns
  have hts := atoms_spec (ws := wf_Mfind) B.pre
  have hown : s.vm.findClass RX13 = some m.cls := findClass_of_methodNamed B.named
  have hlocks := B.notSynchronized
  have hS : va_S (fun _ => False) s.heap s.heap [] := va_S.rf
  have hP : va_P (dC, dI) vwCl [(h0, .inr (16, fs)), (aS, .inl (cI, 6, .inl fS)), (aE, .inl (cI, 3600, .inl fE)), (aR, .inl (cI, 5, .inl fR))] s.heap := hP
  have hl := lv_entry ([.ref h0, .int (nI n), .ref aR]) (n := 6) (Nat.le_of_ble_eq_true rfl)
  rw [lg_entry_eq]
  generalize (lg_sl ([.ref h0, .int (nI n), .ref aR]) ++ List.replicate (6 - (lg_sl ([.ref h0, .int (nI n), .ref aR])).length) Slot.unset).toArray = ls at hl ⊢
  have hl : lv_has ls 6 [(0, .ref h0), (1, .int (nI n)), (2, .ref aR)] := hl
  refine ow_named (fun QQ hQQ => ?_)
  have L2 : ∀ (d k : Nat), k + d = ct → ∀ (ls : Array Slot), lv_has ls 6 [(0, .ref h0), (1, .int (nI n)), (2, .ref aR), (3, .int (nI k))] → (∀ t, t < k → ¬ ow_eqr fE fR n t n) → W p l e ({ frames := 0, cells := 0, slots := 0, locals := 0 } : Room) s m ([.ref h0, .int (nI n), .ref aR] : List Value).toArray below meth c s.heap [] 0 0 QQ (F0 m 2 ls []) := by
    intro d
    induction d with
    | zero =>
      intro k hk ls hl hno
      refine lv_iload_n hx hb dX13_find_2 rfl (lv_at hl 3 rfl) ?_
      refine lv_aload_n hx hb dX13_find_3 rfl (lv_at hl 0 rfl) ?_
      refine va_get (D := (dC, dI)) (ci := 16) (v := .ref aS) (C := RX13) (T := TX13) (N := 120) hx hb hts (fun _ h => List.mem_cons_of_mem _ (List.mem_append_right _ h)) hown hK hP 0 rfl rfl 96 (by decide) (hts (.fieldLink RX13 329 "KnotHouseModel" "simples" "[I") (by decide +kernel)) (fun _ h9 => h9) hkaS dX13_find_4 ?_
      refine lv_iload_n hx hb dX13_find_7 rfl (lv_at hl 1 rfl) ?_
      refine va_iald hx hb hK hP 1 0 rfl rfl (vp_in_nI (n := n) (N := 6) (by omega) (by decide)) dX13_find_8 ?_
      refine ow_topi (y := nI ct) ((congrArg fS (nI_clamp (n := n) (by omega))).trans (hfS)) ?_
      refine lv_icmp_ge (tgt := 76) hx hb dX13_find_9 (by decide) (fun _ => ?_) (fun c9 => absurd (nI_le (a := ct) (b := k) (by omega) (by omega)) c9)
      refine lv_iconst (v := (-1)) hx hb dX13_find_76 (by decide) ?_
      rw [hQQ]
      exact W.iret (v := (-1)) hx hb hr (fun t ht hW => ⟨⟨(-1), (), rfl, Or.inr ⟨rfl, fun t9 h9 => hno t9 (by omega)⟩, trivial⟩, hS.F ht⟩) hS.2.2 dX13_find_77
    | succ d ih =>
      intro k hk ls hl hno
      have L18 : ∀ (d a : Nat), a + d = n → ∀ (ls : Array Slot) (x : Int32), lv_has ls 6 [(0, .ref h0), (1, .int (nI n)), (2, .ref aR), (3, .int (nI k)), (4, .int x), (5, .int (nI a))] → (x = 1 ∨ x = 0) → (x = 1 → ow_eqr fE fR n k a) → (x = 0 → ¬ ow_eqr fE fR n k n) → W p l e ({ frames := 0, cells := 0, slots := 0, locals := 0 } : Room) s m ([.ref h0, .int (nI n), .ref aR] : List Value).toArray below meth c s.heap [] 0 0 QQ (F0 m 18 ls []) := by
        intro d
        induction d with
        | zero =>
          intro a ha ls x hl h01 hx1 hx0
          have ha9 : a = n := by omega
          refine lv_iload hx hb dX13_find_18 (lv_at hl 5 rfl) ?_
          refine lv_iload_n hx hb dX13_find_20 rfl (lv_at hl 1 rfl) ?_
          refine lv_icmp_ge (tgt := 63) hx hb dX13_find_21 (by decide) (fun _ => ?_) (fun c9 => absurd (nI_le (a := n) (b := a) (by omega) (by omega)) c9)
          refine lv_iload hx hb dX13_find_63 (lv_at hl 4 rfl) ?_
          refine lv_if_eq (tgt := 70) hx hb dX13_find_65 (by decide) (fun c2 => ?_) (fun c2 => ?_)
          · refine lv_iinc (v := nI (k + 1)) (lv' := [(3, .int (nI (k + 1))), (0, .ref h0), (1, .int (nI n)), (2, .ref aR), (4, .int x), (5, .int (nI a))]) hx hb dX13_find_70 hl (k := 3) rfl (nI_1 k) (by decide) rfl (fun ls hl => ?_)
            refine lv_goto (tgt := 2) hx hb dX13_find_73 (by decide) ?_
            refine ih (k + 1) (by omega) ls (lv_sub hl [1, 2, 3, 0] rfl) (fun t9 h9 => ?_)
            rcases Nat.lt_or_ge t9 k with q | q
            · exact hno t9 q
            · have e9 : t9 = k := by omega
              rw [e9]
              exact hx0 c2
          · refine lv_iload_n hx hb dX13_find_68 rfl (lv_at hl 3 rfl) ?_
            rw [hQQ]
            exact W.iret (v := (nI k)) hx hb hr (fun t ht hW => ⟨⟨(nI k), (), rfl, Or.inl ⟨k, by omega, rfl, by rw [ha9] at hx1; exact hx1 (h01.resolve_right c2)⟩, trivial⟩, hS.F ht⟩) hS.2.2 dX13_find_69
        | succ d iha =>
          intro a ha ls x hl h01 hx1 hx0
          refine lv_iload hx hb dX13_find_18 (lv_at hl 5 rfl) ?_
          refine lv_iload_n hx hb dX13_find_20 rfl (lv_at hl 1 rfl) ?_
          refine lv_icmp_ge (tgt := 63) hx hb dX13_find_21 (by decide) (fun c9 => absurd c9 (nI_ge (a := a) (b := n) (by omega) (by omega))) (fun _ => ?_)
          refine lv_iload hx hb dX13_find_24 (lv_at hl 4 rfl) ?_
          refine lv_aload_n hx hb dX13_find_26 rfl (lv_at hl 0 rfl) ?_
          refine va_get (D := (dC, dI)) (ci := 16) (v := .ref aE) (C := RX13) (T := TX13) (N := 120) hx hb hts (fun _ h => List.mem_cons_of_mem _ (List.mem_append_right _ h)) hown hK hP 0 rfl rfl 97 (by decide) (hts (.fieldLink RX13 332 "KnotHouseModel" "ends" "[I") (by decide +kernel)) (fun _ h9 => h9) hkaE dX13_find_27 ?_
          refine lv_iconst (v := 5) hx hb dX13_find_30 (by decide) ?_
          refine lv_bipush (v := 120) hx hb dX13_find_31 (by decide) ?_
          refine lv_iload_n hx hb dX13_find_33 rfl (lv_at hl 1 rfl) ?_
          refine lv_imul hx hb dX13_find_34 ?_
          refine ow_topi (y := nI (120 * n)) (pk_mul 120 n) ?_
          refine lv_iload_n hx hb dX13_find_35 rfl (lv_at hl 3 rfl) ?_
          refine lv_iadd hx hb dX13_find_36 ?_
          refine ow_topi (y := nI (120 * n + k)) (nI_add (120 * n) k) ?_
          refine lv_imul hx hb dX13_find_37 ?_
          refine ow_topi (y := nI (5 * (120 * n + k))) (pk_mul 5 (120 * n + k)) ?_
          refine lv_iload hx hb dX13_find_38 (lv_at hl 5 rfl) ?_
          refine lv_iadd hx hb dX13_find_40 ?_
          refine ow_topi (y := nI (5 * (120 * n + k) + a)) (nI_add (5 * (120 * n + k)) a) ?_
          refine va_iald hx hb hK hP 2 0 rfl rfl (vp_in_nI (n := 5 * (120 * n + k) + a) (N := 3600) (by omega) (by decide)) dX13_find_41 ?_
          refine ow_topi (y := fE (5 * (120 * n + k) + a)) ((congrArg fE (nI_clamp (n := 5 * (120 * n + k) + a) (by omega)))) ?_
          refine lv_aload_n hx hb dX13_find_42 rfl (lv_at hl 2 rfl) ?_
          refine lv_iload hx hb dX13_find_43 (lv_at hl 5 rfl) ?_
          refine va_iald hx hb hK hP 3 0 rfl rfl (vp_in_nI (n := a) (N := 5) (by omega) (by decide)) dX13_find_45 ?_
          refine ow_topi (y := fR a) ((congrArg fR (nI_clamp (n := a) (by omega)))) ?_
          refine lv_icmp_ne (tgt := 53) hx hb dX13_find_46 (by decide) (fun c5 => ?_) (fun c5 => ?_)
          · refine lv_iconst (v := 0) hx hb dX13_find_53 (by decide) ?_
            refine lv_iand hx hb dX13_find_54 ?_
            refine ow_topi (y := 0) (by rcases h01 with h9 | h9 <;> rw [h9] <;> decide) ?_
            refine lv_istore (lv' := [(4, .int (0)), (0, .ref h0), (1, .int (nI n)), (2, .ref aR), (3, .int (nI k)), (5, .int (nI a))]) hx hb dX13_find_55 hl (by decide) rfl (fun ls hl => ?_)
            refine lv_iinc (v := nI (a + 1)) (lv' := [(5, .int (nI (a + 1))), (4, .int (0)), (0, .ref h0), (1, .int (nI n)), (2, .ref aR), (3, .int (nI k))]) hx hb dX13_find_57 hl (k := 5) rfl (nI_1 a) (by decide) rfl (fun ls hl => ?_)
            refine lv_goto (tgt := 18) hx hb dX13_find_60 (by decide) ?_
            exact iha (a + 1) (by omega) ls 0 (lv_sub hl [2, 3, 4, 5, 1, 0] rfl) (Or.inr rfl) (fun h9 => absurd h9 (by decide)) (fun _ h9 => c5 (h9 a (by omega)))
          · refine lv_iconst (v := 1) hx hb dX13_find_49 (by decide) ?_
            refine lv_goto (tgt := 54) hx hb dX13_find_50 (by decide) ?_
            refine lv_iand hx hb dX13_find_54 ?_
            refine ow_topi (y := x) (by rcases h01 with h9 | h9 <;> rw [h9] <;> decide) ?_
            refine lv_istore (lv' := [(4, .int (x)), (0, .ref h0), (1, .int (nI n)), (2, .ref aR), (3, .int (nI k)), (5, .int (nI a))]) hx hb dX13_find_55 hl (by decide) rfl (fun ls hl => ?_)
            refine lv_iinc (v := nI (a + 1)) (lv' := [(5, .int (nI (a + 1))), (4, .int (x)), (0, .ref h0), (1, .int (nI n)), (2, .ref aR), (3, .int (nI k))]) hx hb dX13_find_57 hl (k := 5) rfl (nI_1 a) (by decide) rfl (fun ls hl => ?_)
            refine lv_goto (tgt := 18) hx hb dX13_find_60 (by decide) ?_
            exact iha (a + 1) (by omega) ls x (lv_sub hl [2, 3, 4, 5, 1, 0] rfl) h01 (fun h9 => ow_eqr_s (hx1 h9) c5) hx0
      refine lv_iload_n hx hb dX13_find_2 rfl (lv_at hl 3 rfl) ?_
      refine lv_aload_n hx hb dX13_find_3 rfl (lv_at hl 0 rfl) ?_
      refine va_get (D := (dC, dI)) (ci := 16) (v := .ref aS) (C := RX13) (T := TX13) (N := 120) hx hb hts (fun _ h => List.mem_cons_of_mem _ (List.mem_append_right _ h)) hown hK hP 0 rfl rfl 96 (by decide) (hts (.fieldLink RX13 329 "KnotHouseModel" "simples" "[I") (by decide +kernel)) (fun _ h9 => h9) hkaS dX13_find_4 ?_
      refine lv_iload_n hx hb dX13_find_7 rfl (lv_at hl 1 rfl) ?_
      refine va_iald hx hb hK hP 1 0 rfl rfl (vp_in_nI (n := n) (N := 6) (by omega) (by decide)) dX13_find_8 ?_
      refine ow_topi (y := nI ct) ((congrArg fS (nI_clamp (n := n) (by omega))).trans (hfS)) ?_
      refine lv_icmp_ge (tgt := 76) hx hb dX13_find_9 (by decide) (fun c9 => absurd c9 (nI_ge (a := k) (b := ct) (by omega) (by omega))) (fun _ => ?_)
      refine lv_iconst (v := 1) hx hb dX13_find_12 (by decide) ?_
      refine lv_istore (lv' := [(4, .int 1), (0, .ref h0), (1, .int (nI n)), (2, .ref aR), (3, .int (nI k))]) hx hb dX13_find_13 hl (by decide) rfl (fun ls hl => ?_)
      refine lv_iconst (v := 0) hx hb dX13_find_15 (by decide) ?_
      refine lv_istore (lv' := [(5, .int 0), (4, .int 1), (0, .ref h0), (1, .int (nI n)), (2, .ref aR), (3, .int (nI k))]) hx hb dX13_find_16 hl (by decide) rfl (fun ls hl => ?_)
      exact L18 n 0 (by omega) ls 1 (lv_sub hl [2, 3, 4, 5, 1, 0] rfl) (Or.inl rfl) (fun _ b9 h9 => absurd h9 (Nat.not_lt_zero b9)) (fun h9 => absurd h9 (by decide))
  refine lv_iconst (v := 0) hx hb dX13_find_0 (by decide) ?_
  refine lv_istore_n (lv' := [(3, .int 0), (0, .ref h0), (1, .int (nI n)), (2, .ref aR)]) hx hb dX13_find_1 rfl hl (by decide) rfl (fun ls hl => ?_)
  exact L2 ct 0 (by omega) ls (lv_sub hl [1, 2, 3, 0] rfl) (fun t9 h9 => absurd h9 (Nat.not_lt_zero t9))
theorem dX13_makeTurned_0 : decode cX13_makeTurned 0 = .ok (.iconst 0, 1) := by decide +kernel
theorem dX13_makeTurned_1 : decode cX13_makeTurned 1 = .ok (.istore_n 2, 1) := by decide +kernel
theorem dX13_makeTurned_2 : decode cX13_makeTurned 2 = .ok (.iload_n 2, 1) := by decide +kernel
theorem dX13_makeTurned_3 : decode cX13_makeTurned 3 = .ok (.aload_n 0, 1) := by decide +kernel
theorem dX13_makeTurned_4 : decode cX13_makeTurned 4 = .ok (.getfield 329, 3) := by decide +kernel
theorem dX13_makeTurned_7 : decode cX13_makeTurned 7 = .ok (.iload_n 1, 1) := by decide +kernel
theorem dX13_makeTurned_8 : decode cX13_makeTurned 8 = .ok (.iaload, 1) := by decide +kernel
theorem dX13_makeTurned_9 : decode cX13_makeTurned 9 = .ok (.if_icmp .ge 146, 3) := by decide +kernel
theorem dX13_makeTurned_12 : decode cX13_makeTurned 12 = .ok (.bipush 120, 2) := by decide +kernel
theorem dX13_makeTurned_14 : decode cX13_makeTurned 14 = .ok (.iload_n 1, 1) := by decide +kernel
theorem dX13_makeTurned_15 : decode cX13_makeTurned 15 = .ok (.imul, 1) := by decide +kernel
theorem dX13_makeTurned_16 : decode cX13_makeTurned 16 = .ok (.iload_n 2, 1) := by decide +kernel
theorem dX13_makeTurned_17 : decode cX13_makeTurned 17 = .ok (.iadd, 1) := by decide +kernel
theorem dX13_makeTurned_18 : decode cX13_makeTurned 18 = .ok (.istore_n 3, 1) := by decide +kernel
theorem dX13_makeTurned_19 : decode cX13_makeTurned 19 = .ok (.iconst 0, 1) := by decide +kernel
theorem dX13_makeTurned_20 : decode cX13_makeTurned 20 = .ok (.istore 4, 2) := by decide +kernel
theorem dX13_makeTurned_22 : decode cX13_makeTurned 22 = .ok (.iload 4, 2) := by decide +kernel
theorem dX13_makeTurned_24 : decode cX13_makeTurned 24 = .ok (.iload_n 1, 1) := by decide +kernel
theorem dX13_makeTurned_25 : decode cX13_makeTurned 25 = .ok (.if_icmp .ge 53, 3) := by decide +kernel
theorem dX13_makeTurned_28 : decode cX13_makeTurned 28 = .ok (.iconst 0, 1) := by decide +kernel
theorem dX13_makeTurned_29 : decode cX13_makeTurned 29 = .ok (.istore 5, 2) := by decide +kernel
theorem dX13_makeTurned_31 : decode cX13_makeTurned 31 = .ok (.iload 5, 2) := by decide +kernel
theorem dX13_makeTurned_33 : decode cX13_makeTurned 33 = .ok (.iload_n 1, 1) := by decide +kernel
theorem dX13_makeTurned_34 : decode cX13_makeTurned 34 = .ok (.if_icmp .ge 38, 3) := by decide +kernel
theorem dX13_makeTurned_37 : decode cX13_makeTurned 37 = .ok (.aload_n 0, 1) := by decide +kernel
theorem dX13_makeTurned_38 : decode cX13_makeTurned 38 = .ok (.getfield 332, 3) := by decide +kernel
theorem dX13_makeTurned_41 : decode cX13_makeTurned 41 = .ok (.iconst 5, 1) := by decide +kernel
theorem dX13_makeTurned_42 : decode cX13_makeTurned 42 = .ok (.iload_n 3, 1) := by decide +kernel
theorem dX13_makeTurned_43 : decode cX13_makeTurned 43 = .ok (.imul, 1) := by decide +kernel
theorem dX13_makeTurned_44 : decode cX13_makeTurned 44 = .ok (.iload 5, 2) := by decide +kernel
theorem dX13_makeTurned_46 : decode cX13_makeTurned 46 = .ok (.iadd, 1) := by decide +kernel
theorem dX13_makeTurned_47 : decode cX13_makeTurned 47 = .ok (.iaload, 1) := by decide +kernel
theorem dX13_makeTurned_48 : decode cX13_makeTurned 48 = .ok (.iload_n 1, 1) := by decide +kernel
theorem dX13_makeTurned_49 : decode cX13_makeTurned 49 = .ok (.iconst 1, 1) := by decide +kernel
theorem dX13_makeTurned_50 : decode cX13_makeTurned 50 = .ok (.isub, 1) := by decide +kernel
theorem dX13_makeTurned_51 : decode cX13_makeTurned 51 = .ok (.iload 4, 2) := by decide +kernel
theorem dX13_makeTurned_53 : decode cX13_makeTurned 53 = .ok (.isub, 1) := by decide +kernel
theorem dX13_makeTurned_54 : decode cX13_makeTurned 54 = .ok (.if_icmp .ne 12, 3) := by decide +kernel
theorem dX13_makeTurned_57 : decode cX13_makeTurned 57 = .ok (.aload_n 0, 1) := by decide +kernel
theorem dX13_makeTurned_58 : decode cX13_makeTurned 58 = .ok (.getfield 356, 3) := by decide +kernel
theorem dX13_makeTurned_61 : decode cX13_makeTurned 61 = .ok (.iload 4, 2) := by decide +kernel
theorem dX13_makeTurned_63 : decode cX13_makeTurned 63 = .ok (.iload 5, 2) := by decide +kernel
theorem dX13_makeTurned_65 : decode cX13_makeTurned 65 = .ok (.iastore, 1) := by decide +kernel
theorem dX13_makeTurned_66 : decode cX13_makeTurned 66 = .ok (.iinc 5 1, 3) := by decide +kernel
theorem dX13_makeTurned_69 : decode cX13_makeTurned 69 = .ok (.goto (-38), 3) := by decide +kernel
theorem dX13_makeTurned_72 : decode cX13_makeTurned 72 = .ok (.iinc 4 1, 3) := by decide +kernel
theorem dX13_makeTurned_75 : decode cX13_makeTurned 75 = .ok (.goto (-53), 3) := by decide +kernel
theorem dX13_makeTurned_78 : decode cX13_makeTurned 78 = .ok (.aload_n 0, 1) := by decide +kernel
theorem dX13_makeTurned_79 : decode cX13_makeTurned 79 = .ok (.getfield 344, 3) := by decide +kernel
theorem dX13_makeTurned_82 : decode cX13_makeTurned 82 = .ok (.iload_n 3, 1) := by decide +kernel
theorem dX13_makeTurned_83 : decode cX13_makeTurned 83 = .ok (.aload_n 0, 1) := by decide +kernel
theorem dX13_makeTurned_84 : decode cX13_makeTurned 84 = .ok (.iload_n 1, 1) := by decide +kernel
theorem dX13_makeTurned_85 : decode cX13_makeTurned 85 = .ok (.aload_n 0, 1) := by decide +kernel
theorem dX13_makeTurned_86 : decode cX13_makeTurned 86 = .ok (.getfield 356, 3) := by decide +kernel
theorem dX13_makeTurned_89 : decode cX13_makeTurned 89 = .ok (.invokevirtual 724, 3) := by decide +kernel
theorem dX13_makeTurned_92 : decode cX13_makeTurned 92 = .ok (.iastore, 1) := by decide +kernel
theorem dX13_makeTurned_93 : decode cX13_makeTurned 93 = .ok (.iconst 0, 1) := by decide +kernel
theorem dX13_makeTurned_94 : decode cX13_makeTurned 94 = .ok (.istore 4, 2) := by decide +kernel
theorem dX13_makeTurned_96 : decode cX13_makeTurned 96 = .ok (.iload 4, 2) := by decide +kernel
theorem dX13_makeTurned_98 : decode cX13_makeTurned 98 = .ok (.iload_n 1, 1) := by decide +kernel
theorem dX13_makeTurned_99 : decode cX13_makeTurned 99 = .ok (.if_icmp .ge 35, 3) := by decide +kernel
theorem dX13_makeTurned_102 : decode cX13_makeTurned 102 = .ok (.aload_n 0, 1) := by decide +kernel
theorem dX13_makeTurned_103 : decode cX13_makeTurned 103 = .ok (.getfield 356, 3) := by decide +kernel
theorem dX13_makeTurned_106 : decode cX13_makeTurned 106 = .ok (.iload 4, 2) := by decide +kernel
theorem dX13_makeTurned_108 : decode cX13_makeTurned 108 = .ok (.iload_n 1, 1) := by decide +kernel
theorem dX13_makeTurned_109 : decode cX13_makeTurned 109 = .ok (.iconst 1, 1) := by decide +kernel
theorem dX13_makeTurned_110 : decode cX13_makeTurned 110 = .ok (.isub, 1) := by decide +kernel
theorem dX13_makeTurned_111 : decode cX13_makeTurned 111 = .ok (.aload_n 0, 1) := by decide +kernel
theorem dX13_makeTurned_112 : decode cX13_makeTurned 112 = .ok (.getfield 332, 3) := by decide +kernel
theorem dX13_makeTurned_115 : decode cX13_makeTurned 115 = .ok (.iconst 5, 1) := by decide +kernel
theorem dX13_makeTurned_116 : decode cX13_makeTurned 116 = .ok (.iload_n 3, 1) := by decide +kernel
theorem dX13_makeTurned_117 : decode cX13_makeTurned 117 = .ok (.imul, 1) := by decide +kernel
theorem dX13_makeTurned_118 : decode cX13_makeTurned 118 = .ok (.iload_n 1, 1) := by decide +kernel
theorem dX13_makeTurned_119 : decode cX13_makeTurned 119 = .ok (.iadd, 1) := by decide +kernel
theorem dX13_makeTurned_120 : decode cX13_makeTurned 120 = .ok (.iconst 1, 1) := by decide +kernel
theorem dX13_makeTurned_121 : decode cX13_makeTurned 121 = .ok (.isub, 1) := by decide +kernel
theorem dX13_makeTurned_122 : decode cX13_makeTurned 122 = .ok (.iload 4, 2) := by decide +kernel
theorem dX13_makeTurned_124 : decode cX13_makeTurned 124 = .ok (.isub, 1) := by decide +kernel
theorem dX13_makeTurned_125 : decode cX13_makeTurned 125 = .ok (.iaload, 1) := by decide +kernel
theorem dX13_makeTurned_126 : decode cX13_makeTurned 126 = .ok (.isub, 1) := by decide +kernel
theorem dX13_makeTurned_127 : decode cX13_makeTurned 127 = .ok (.iastore, 1) := by decide +kernel
theorem dX13_makeTurned_128 : decode cX13_makeTurned 128 = .ok (.iinc 4 1, 3) := by decide +kernel
theorem dX13_makeTurned_131 : decode cX13_makeTurned 131 = .ok (.goto (-35), 3) := by decide +kernel
theorem dX13_makeTurned_134 : decode cX13_makeTurned 134 = .ok (.aload_n 0, 1) := by decide +kernel
theorem dX13_makeTurned_135 : decode cX13_makeTurned 135 = .ok (.getfield 347, 3) := by decide +kernel
theorem dX13_makeTurned_138 : decode cX13_makeTurned 138 = .ok (.iload_n 3, 1) := by decide +kernel
theorem dX13_makeTurned_139 : decode cX13_makeTurned 139 = .ok (.aload_n 0, 1) := by decide +kernel
theorem dX13_makeTurned_140 : decode cX13_makeTurned 140 = .ok (.iload_n 1, 1) := by decide +kernel
theorem dX13_makeTurned_141 : decode cX13_makeTurned 141 = .ok (.aload_n 0, 1) := by decide +kernel
theorem dX13_makeTurned_142 : decode cX13_makeTurned 142 = .ok (.getfield 356, 3) := by decide +kernel
theorem dX13_makeTurned_145 : decode cX13_makeTurned 145 = .ok (.invokevirtual 724, 3) := by decide +kernel
theorem dX13_makeTurned_148 : decode cX13_makeTurned 148 = .ok (.iastore, 1) := by decide +kernel
theorem dX13_makeTurned_149 : decode cX13_makeTurned 149 = .ok (.iinc 2 1, 3) := by decide +kernel
theorem dX13_makeTurned_152 : decode cX13_makeTurned 152 = .ok (.goto (-150), 3) := by decide +kernel
theorem dX13_makeTurned_155 : decode cX13_makeTurned 155 = .ok (.return_, 1) := by decide +kernel
def wf_MmakeTurned : List Cond := .code yX13_makeTurned cX13_makeTurned 6 none :: ([.fieldLink RX13 329 "KnotHouseModel" "simples" "[I", .fieldLink RX13 332 "KnotHouseModel" "ends" "[I", .fieldLink RX13 344 "KnotHouseModel" "ahead" "[I", .fieldLink RX13 347 "KnotHouseModel" "over2" "[I", .fieldLink RX13 356 "KnotHouseModel" "endRow" "[I"] ++ wsX130 ++ wsV RX13 724 RX13 yX13_find wf_Mfind)
theorem gf_X13_makeTurned_a : GoodIn wf_MmakeTurned (wsV RX13 724 RX13 yX13_find wf_Mfind) := goodIn_sub (fun _ h => List.mem_cons_of_mem _ (List.mem_append_right _ h)) (by decide +kernel)
set_option maxHeartbeats 4000000 in
set_option maxRecDepth 100000 in
theorem kf_X13_makeTurned (l : Launch) (dC : Nat → ClassId) (dI : Nat → Nat → Nat) (cI cB cJ cZ : ClassId) (h0 aS aE aA aO aR : Nat) (fs : List Value) (hfs : fs.length = 120) (hkaS : fs[96]? = some (.ref aS)) (hkaE : fs[97]? = some (.ref aE)) (hkaA : fs[101]? = some (.ref aA)) (hkaO : fs[102]? = some (.ref aO)) (hkaR : fs[105]? = some (.ref aR)) (fS fE fA fO fR : Nat → Int32) (n ct : Nat) (h2 : 2 ≤ n) (h5 : n ≤ 5) (hct : ct ≤ 120) (hfS : fS n = nI ct) (sz : Nat) : Met l yX13_makeTurned wf_MmakeTurned (({ frames := 1, cells := 0, slots := 0, locals := 30 } : Room)) (va_Pc [.ref h0, .int (nI n)] (fun U => U.heap.size = sz ∧ va_P (dC, dI) vwCl [(h0, .inr (16, fs)), (aS, .inl (cI, 6, .inl fS)), (aE, .inl (cI, 3600, .inl fE)), (aA, .inl (cI, 720, .inl fA)), (aO, .inl (cI, 720, .inl fO)), (aR, .inl (cI, 5, .inl fR))] U.heap ∧ va_K (dC, dI) vwCl [(cI, .int), (cB, .byte), (cJ, .long), (cZ, .boolean)] U ∧ va_D (fun _ => True) [(h0, .inr (16, fs)), (aS, .inl (cI, 6, .inl fS)), (aE, .inl (cI, 3600, .inl fE)), (aA, .inl (cI, 720, .inl fA)), (aO, .inl (cI, 720, .inl fO)), (aR, .inl (cI, 5, .inl fR))])) (va_Qv (fun g : (Nat → Int32) × (Nat → Int32) × (Nat → Int32) => True) (fun g t => va_P (dC, dI) vwCl [(h0, .inr (16, fs)), (aS, .inl (cI, 6, .inl fS)), (aE, .inl (cI, 3600, .inl fE)), (aA, .inl (cI, 720, .inl g.1)), (aO, .inl (cI, 720, .inl g.2.1)), (aR, .inl (cI, 5, .inl g.2.2))] t.heap ∧ va_D (va_A [(h0, .inr (16, fs)), (aS, .inl (cI, 6, .inl fS)), (aE, .inl (cI, 3600, .inl fE)), (aA, .inl (cI, 720, .inl fA)), (aO, .inl (cI, 720, .inl fO)), (aR, .inl (cI, 5, .inl fR))] sz) [(h0, .inr (16, fs)), (aS, .inl (cI, 6, .inl fS)), (aE, .inl (cI, 3600, .inl fE)), (aA, .inl (cI, 720, .inl g.1)), (aO, .inl (cI, 720, .inl g.2.1)), (aR, .inl (cI, 5, .inl g.2.2))]) (va_A [(h0, .inr (16, fs)), (aS, .inl (cI, 6, .inl fS)), (aE, .inl (cI, 3600, .inl fE)), (aA, .inl (cI, 720, .inl fA)), (aO, .inl (cI, 720, .inl fO)), (aR, .inl (cI, 5, .inl fR))] sz)) 0 0 (va_A [(h0, .inr (16, fs)), (aS, .inl (cI, 6, .inl fS)), (aE, .inl (cI, 3600, .inl fE)), (aA, .inl (cI, 720, .inl fA)), (aO, .inl (cI, 720, .inl fO)), (aR, .inl (cI, 5, .inl fR))] sz) := by
  refine Met.ofW (cc := cX13_makeTurned) (maxL := 6) (ret := none) (by decide) rfl ?_
  intro p e s m args below meth c s₁ B hml hv
  obtain ⟨rfl, hsz, hP, hK, hD0⟩ := hv
  have hx := B.exec
  have hb := B.bytes
  have hr := B.returns
  have hts := atoms_spec (ws := wf_MmakeTurned) B.pre
  have hown : s.vm.findClass RX13 = some m.cls := findClass_of_methodNamed B.named
  have hlocks := B.notSynchronized
  subst hsz
  have hD := hD0.self (sz := s.heap.size)
  generalize hAe : va_A [(h0, .inr (16, fs)), (aS, .inl (cI, 6, .inl fS)), (aE, .inl (cI, 3600, .inl fE)), (aA, .inl (cI, 720, .inl fA)), (aO, .inl (cI, 720, .inl fO)), (aR, .inl (cI, 5, .inl fR))] s.heap.size = A at hD ⊢
  have hA : ∀ q : Nat, s.heap.size ≤ q → A q := fun q h => by rw [← hAe]; exact Or.inr h
  have hS : va_S A s.heap s.heap [] := va_S.rf
  have hP : va_P (dC, dI) vwCl [(h0, .inr (16, fs)), (aS, .inl (cI, 6, .inl fS)), (aE, .inl (cI, 3600, .inl fE)), (aA, .inl (cI, 720, .inl fA)), (aO, .inl (cI, 720, .inl fO)), (aR, .inl (cI, 5, .inl fR))] s.heap := hP
  have hl := lv_entry ([.ref h0, .int (nI n)]) (n := 6) (Nat.le_of_ble_eq_true rfl)
  rw [lg_entry_eq]
  generalize (lg_sl ([.ref h0, .int (nI n)]) ++ List.replicate (6 - (lg_sl ([.ref h0, .int (nI n)])).length) Slot.unset).toArray = ls at hl ⊢
  have hl : lv_has ls 6 [(0, .ref h0), (1, .int (nI n))] := hl
  refine ow_named (fun QQ hQQ => ?_)
  have L2 : ∀ (d k : Nat), k + d = ct → ∀ (H : Heap) (locs : List Loc) (ls : Array Slot) (fA fO fR : Nat → Int32), va_P (dC, dI) vwCl [(h0, .inr (16, fs)), (aS, .inl (cI, 6, .inl fS)), (aE, .inl (cI, 3600, .inl fE)), (aA, .inl (cI, 720, .inl fA)), (aO, .inl (cI, 720, .inl fO)), (aR, .inl (cI, 5, .inl fR))] H → va_D A [(h0, .inr (16, fs)), (aS, .inl (cI, 6, .inl fS)), (aE, .inl (cI, 3600, .inl fE)), (aA, .inl (cI, 720, .inl fA)), (aO, .inl (cI, 720, .inl fO)), (aR, .inl (cI, 5, .inl fR))] → va_S A s.heap H locs → lv_has ls 6 [(0, .ref h0), (1, .int (nI n)), (2, .int (nI k))] → W p l e ({ frames := 1, cells := 0, slots := 0, locals := 30 } : Room) s m ([.ref h0, .int (nI n)] : List Value).toArray below meth c H locs 0 0 QQ (F0 m 2 ls []) := by
    intro d
    induction d with
    | zero =>
      intro k hv_k H locs ls fA fO fR hP hD hS hl
      refine lv_iload_n hx hb dX13_makeTurned_2 rfl (lv_at hl 2 rfl) ?_
      refine lv_aload_n hx hb dX13_makeTurned_3 rfl (lv_at hl 0 rfl) ?_
      refine va_get (D := (dC, dI)) (ci := 16) (v := .ref aS) (C := RX13) (T := TX13) (N := 120) hx hb hts (fun _ h => List.mem_cons_of_mem _ (List.mem_append_left _ (List.mem_append_right _ h))) hown hK hP 0 rfl rfl 96 (by decide) (hts (.fieldLink RX13 329 "KnotHouseModel" "simples" "[I") (by decide +kernel)) (fun _ h9 => h9) hkaS dX13_makeTurned_4 ?_
      refine lv_iload_n hx hb dX13_makeTurned_7 rfl (lv_at hl 1 rfl) ?_
      refine va_iald hx hb hK hP 1 0 rfl rfl (vp_in_nI (n := n) (N := 6) (by omega) (by decide)) dX13_makeTurned_8 ?_
      refine ow_topi (y := nI ct) ((congrArg fS (nI_clamp (n := n) (by omega))).trans (hfS)) ?_
      refine lv_icmp_ge (tgt := 155) hx hb dX13_makeTurned_9 (by decide) (fun _ => ?_) (fun c9 => absurd (nI_le (a := ct) (b := k) (by omega) (by omega)) c9)
      rw [hQQ]
      exact W.vret hx hb hr (fun t ht hW => ⟨⟨(fA, fO, fR), rfl, trivial, by rw [ht]; exact hP, hD⟩, hS.F ht⟩) hS.2.2 dX13_makeTurned_155
    | succ d ih_L2 =>
      intro k hv_k H locs ls fA fO fR hP hD hS hl
      have L96 : ∀ (d a : Nat), a + d = n → ∀ (H : Heap) (locs : List Loc) (ls : Array Slot) (fA fO fR : Nat → Int32), va_P (dC, dI) vwCl [(h0, .inr (16, fs)), (aS, .inl (cI, 6, .inl fS)), (aE, .inl (cI, 3600, .inl fE)), (aA, .inl (cI, 720, .inl fA)), (aO, .inl (cI, 720, .inl fO)), (aR, .inl (cI, 5, .inl fR))] H → va_D A [(h0, .inr (16, fs)), (aS, .inl (cI, 6, .inl fS)), (aE, .inl (cI, 3600, .inl fE)), (aA, .inl (cI, 720, .inl fA)), (aO, .inl (cI, 720, .inl fO)), (aR, .inl (cI, 5, .inl fR))] → va_S A s.heap H locs → lv_has ls 6 [(0, .ref h0), (1, .int (nI n)), (2, .int (nI k)), (3, .int (nI (120 * n + k))), (4, .int (nI a))] → W p l e ({ frames := 1, cells := 0, slots := 0, locals := 30 } : Room) s m ([.ref h0, .int (nI n)] : List Value).toArray below meth c H locs 0 0 QQ (F0 m 96 ls []) := by
        intro d
        induction d with
        | zero =>
          intro a hv_a H locs ls fA fO fR hP hD hS hl
          refine lv_iload hx hb dX13_makeTurned_96 (lv_at hl 4 rfl) ?_
          refine lv_iload_n hx hb dX13_makeTurned_98 rfl (lv_at hl 1 rfl) ?_
          refine lv_icmp_ge (tgt := 134) hx hb dX13_makeTurned_99 (by decide) (fun _ => ?_) (fun c9 => absurd (nI_le (a := n) (b := a) (by omega) (by omega)) c9)
          refine lv_aload_n hx hb dX13_makeTurned_134 rfl (lv_at hl 0 rfl) ?_
          refine va_get (D := (dC, dI)) (ci := 16) (v := .ref aO) (C := RX13) (T := TX13) (N := 120) hx hb hts (fun _ h => List.mem_cons_of_mem _ (List.mem_append_left _ (List.mem_append_right _ h))) hown hK hP 0 rfl rfl 102 (by decide) (hts (.fieldLink RX13 347 "KnotHouseModel" "over2" "[I") (by decide +kernel)) (fun _ h9 => h9) hkaO dX13_makeTurned_135 ?_
          refine lv_iload_n hx hb dX13_makeTurned_138 rfl (lv_at hl 3 rfl) ?_
          refine lv_aload_n hx hb dX13_makeTurned_139 rfl (lv_at hl 0 rfl) ?_
          refine lv_iload_n hx hb dX13_makeTurned_140 rfl (lv_at hl 1 rfl) ?_
          refine lv_aload_n hx hb dX13_makeTurned_141 rfl (lv_at hl 0 rfl) ?_
          refine va_get (D := (dC, dI)) (ci := 16) (v := .ref aR) (C := RX13) (T := TX13) (N := 120) hx hb hts (fun _ h => List.mem_cons_of_mem _ (List.mem_append_left _ (List.mem_append_right _ h))) hown hK hP 0 rfl rfl 105 (by decide) (hts (.fieldLink RX13 356 "KnotHouseModel" "endRow" "[I") (by decide +kernel)) (fun _ h9 => h9) hkaR dX13_makeTurned_142 ?_
          have hPc := hP.sub (ws' := [(h0, .inr (16, fs)), (aS, .inl (cI, 6, .inl fS)), (aE, .inl (cI, 3600, .inl fE)), (aR, .inl (cI, 5, .inl fR))]) [0, 1, 2, 5] rfl
          refine va_calli (va_runV (As := [.int (nI n), .ref aR]) (rest := [.int (nI (120 * n + k)), .ref aO]) ⟨hx, hb, hml, hown, hts⟩ (kf_X13_find l dC dI cI cB cJ cZ h0 aS aE aR fs hfs hkaS hkaE fS fE fR n ct h2 h5 (by omega) hfS) (cwV 2 hts gf_X13_makeTurned_a rfl rfl rfl (by decide +kernel) ⟨(Nat.le_of_ble_eq_true rfl), (Nat.le_of_ble_eq_true rfl)⟩) ⟨fun a U g mk q => by obtain ⟨q0, qP, qK⟩ := q; exact ⟨q0, qP, va_K.moved (u := U) (U := U.calling g mk a) (Vm.Alike.refl U.vm) qK⟩, va_recv hK hPc (ci := 16) (q0 := 0) rfl rfl, fun U hU hW => ⟨rfl, by rw [hU]; exact hPc, va_K.moved hW.alike hK⟩⟩ rfl rfl hl.1 rfl (lv_room (Nat.le_of_ble_eq_true rfl)) dX13_makeTurned_145 ⟨(Nat.le_of_ble_eq_true rfl), (Nat.le_of_ble_eq_true rfl)⟩) hS (fun q _ h => h.elim) (fun q h => h.elim) (fun xr2 un t H1 locs ht hvm hwxr2 hB hz1 hk1 hS => ?_)
          have hP := hP.kept (fun k9 x9 h9 => hk1 x9.1 ((hP k9 x9 h9).lt) id)
          generalize H1 = H at hP hS ⊢
          refine ow_iast hx hb hK hP hD hS 4 0 rfl rfl (vp_in_nI (n := 120 * n + k) (N := 720) (by omega) (by decide)) dX13_makeTurned_148 (fun f3 H locs hP hD hS => ?_)
          have hP : va_P (dC, dI) vwCl [(h0, .inr (16, fs)), (aS, .inl (cI, 6, .inl fS)), (aE, .inl (cI, 3600, .inl fE)), (aA, .inl (cI, 720, .inl fA)), (aO, .inl (cI, 720, .inl f3)), (aR, .inl (cI, 5, .inl fR))] H := hP
          have hD : va_D A [(h0, .inr (16, fs)), (aS, .inl (cI, 6, .inl fS)), (aE, .inl (cI, 3600, .inl fE)), (aA, .inl (cI, 720, .inl fA)), (aO, .inl (cI, 720, .inl f3)), (aR, .inl (cI, 5, .inl fR))] := hD
          refine lv_iinc (v := nI (k + 1)) (lv' := [(2, .int (nI (k + 1))), (0, .ref h0), (1, .int (nI n)), (3, .int (nI (120 * n + k))), (4, .int (nI a))]) hx hb dX13_makeTurned_149 hl (k := 2) rfl (nI_1 k) (by decide) rfl (fun ls hl => ?_)
          refine lv_goto (tgt := 2) hx hb dX13_makeTurned_152 (by decide) ?_
          exact ih_L2 (k + 1) (by omega) H locs ls _ _ _ hP hD hS (lv_sub hl [1, 2, 0] rfl)
        | succ d ih_L96 =>
          intro a hv_a H locs ls fA fO fR hP hD hS hl
          refine lv_iload hx hb dX13_makeTurned_96 (lv_at hl 4 rfl) ?_
          refine lv_iload_n hx hb dX13_makeTurned_98 rfl (lv_at hl 1 rfl) ?_
          refine lv_icmp_ge (tgt := 134) hx hb dX13_makeTurned_99 (by decide) (fun c9 => absurd c9 (nI_ge (a := a) (b := n) (by omega) (by omega))) (fun _ => ?_)
          refine lv_aload_n hx hb dX13_makeTurned_102 rfl (lv_at hl 0 rfl) ?_
          refine va_get (D := (dC, dI)) (ci := 16) (v := .ref aR) (C := RX13) (T := TX13) (N := 120) hx hb hts (fun _ h => List.mem_cons_of_mem _ (List.mem_append_left _ (List.mem_append_right _ h))) hown hK hP 0 rfl rfl 105 (by decide) (hts (.fieldLink RX13 356 "KnotHouseModel" "endRow" "[I") (by decide +kernel)) (fun _ h9 => h9) hkaR dX13_makeTurned_103 ?_
          refine lv_iload hx hb dX13_makeTurned_106 (lv_at hl 4 rfl) ?_
          refine lv_iload_n hx hb dX13_makeTurned_108 rfl (lv_at hl 1 rfl) ?_
          refine lv_iconst (v := 1) hx hb dX13_makeTurned_109 (by decide) ?_
          refine lv_isub hx hb dX13_makeTurned_110 ?_
          refine lv_topi (fun x4 _ => ?_)
          refine lv_aload_n hx hb dX13_makeTurned_111 rfl (lv_at hl 0 rfl) ?_
          refine va_get (D := (dC, dI)) (ci := 16) (v := .ref aE) (C := RX13) (T := TX13) (N := 120) hx hb hts (fun _ h => List.mem_cons_of_mem _ (List.mem_append_left _ (List.mem_append_right _ h))) hown hK hP 0 rfl rfl 97 (by decide) (hts (.fieldLink RX13 332 "KnotHouseModel" "ends" "[I") (by decide +kernel)) (fun _ h9 => h9) hkaE dX13_makeTurned_112 ?_
          refine lv_iconst (v := 5) hx hb dX13_makeTurned_115 (by decide) ?_
          refine lv_iload_n hx hb dX13_makeTurned_116 rfl (lv_at hl 3 rfl) ?_
          refine lv_imul hx hb dX13_makeTurned_117 ?_
          refine ow_topi (y := nI (5 * (120 * n + k))) (pk_mul 5 (120 * n + k)) ?_
          refine lv_iload_n hx hb dX13_makeTurned_118 rfl (lv_at hl 1 rfl) ?_
          refine lv_iadd hx hb dX13_makeTurned_119 ?_
          refine ow_topi (y := nI (5 * (120 * n + k) + n)) (nI_add (5 * (120 * n + k)) n) ?_
          refine lv_iconst (v := 1) hx hb dX13_makeTurned_120 (by decide) ?_
          refine lv_isub hx hb dX13_makeTurned_121 ?_
          refine ow_topi (y := nI (5 * (120 * n + k) + n - 1)) (pk_sub (a := 5 * (120 * n + k) + n) (b := 1) (by omega)) ?_
          refine lv_iload hx hb dX13_makeTurned_122 (lv_at hl 4 rfl) ?_
          refine lv_isub hx hb dX13_makeTurned_124 ?_
          refine ow_topi (y := nI (5 * (120 * n + k) + n - 1 - a)) (pk_sub (a := 5 * (120 * n + k) + n - 1) (b := a) (by omega)) ?_
          refine va_iald hx hb hK hP 2 0 rfl rfl (vp_in_nI (n := 5 * (120 * n + k) + n - 1 - a) (N := 3600) (by omega) (by decide)) dX13_makeTurned_125 ?_
          refine lv_topi (fun x6 _ => ?_)
          refine lv_isub hx hb dX13_makeTurned_126 ?_
          refine lv_topi (fun x7 _ => ?_)
          refine ow_iast hx hb hK hP hD hS 5 0 rfl rfl (vp_in_nI (n := a) (N := 5) (by omega) (by decide)) dX13_makeTurned_127 (fun f8 H locs hP hD hS => ?_)
          have hP : va_P (dC, dI) vwCl [(h0, .inr (16, fs)), (aS, .inl (cI, 6, .inl fS)), (aE, .inl (cI, 3600, .inl fE)), (aA, .inl (cI, 720, .inl fA)), (aO, .inl (cI, 720, .inl fO)), (aR, .inl (cI, 5, .inl f8))] H := hP
          have hD : va_D A [(h0, .inr (16, fs)), (aS, .inl (cI, 6, .inl fS)), (aE, .inl (cI, 3600, .inl fE)), (aA, .inl (cI, 720, .inl fA)), (aO, .inl (cI, 720, .inl fO)), (aR, .inl (cI, 5, .inl f8))] := hD
          refine lv_iinc (v := nI (a + 1)) (lv' := [(4, .int (nI (a + 1))), (0, .ref h0), (1, .int (nI n)), (2, .int (nI k)), (3, .int (nI (120 * n + k)))]) hx hb dX13_makeTurned_128 hl (k := 4) rfl (nI_1 a) (by decide) rfl (fun ls hl => ?_)
          refine lv_goto (tgt := 96) hx hb dX13_makeTurned_131 (by decide) ?_
          exact ih_L96 (a + 1) (by omega) H locs ls _ _ _ hP hD hS (lv_sub hl [1, 2, 3, 4, 0] rfl)
      have L22 : ∀ (d a : Nat), a + d = n → ∀ (H : Heap) (locs : List Loc) (ls : Array Slot) (fA fO fR : Nat → Int32), va_P (dC, dI) vwCl [(h0, .inr (16, fs)), (aS, .inl (cI, 6, .inl fS)), (aE, .inl (cI, 3600, .inl fE)), (aA, .inl (cI, 720, .inl fA)), (aO, .inl (cI, 720, .inl fO)), (aR, .inl (cI, 5, .inl fR))] H → va_D A [(h0, .inr (16, fs)), (aS, .inl (cI, 6, .inl fS)), (aE, .inl (cI, 3600, .inl fE)), (aA, .inl (cI, 720, .inl fA)), (aO, .inl (cI, 720, .inl fO)), (aR, .inl (cI, 5, .inl fR))] → va_S A s.heap H locs → lv_has ls 6 [(0, .ref h0), (1, .int (nI n)), (2, .int (nI k)), (3, .int (nI (120 * n + k))), (4, .int (nI a))] → W p l e ({ frames := 1, cells := 0, slots := 0, locals := 30 } : Room) s m ([.ref h0, .int (nI n)] : List Value).toArray below meth c H locs 0 0 QQ (F0 m 22 ls []) := by
        intro d
        induction d with
        | zero =>
          intro a hv_a H locs ls fA fO fR hP hD hS hl
          refine lv_iload hx hb dX13_makeTurned_22 (lv_at hl 4 rfl) ?_
          refine lv_iload_n hx hb dX13_makeTurned_24 rfl (lv_at hl 1 rfl) ?_
          refine lv_icmp_ge (tgt := 78) hx hb dX13_makeTurned_25 (by decide) (fun _ => ?_) (fun c9 => absurd (nI_le (a := n) (b := a) (by omega) (by omega)) c9)
          refine lv_aload_n hx hb dX13_makeTurned_78 rfl (lv_at hl 0 rfl) ?_
          refine va_get (D := (dC, dI)) (ci := 16) (v := .ref aA) (C := RX13) (T := TX13) (N := 120) hx hb hts (fun _ h => List.mem_cons_of_mem _ (List.mem_append_left _ (List.mem_append_right _ h))) hown hK hP 0 rfl rfl 101 (by decide) (hts (.fieldLink RX13 344 "KnotHouseModel" "ahead" "[I") (by decide +kernel)) (fun _ h9 => h9) hkaA dX13_makeTurned_79 ?_
          refine lv_iload_n hx hb dX13_makeTurned_82 rfl (lv_at hl 3 rfl) ?_
          refine lv_aload_n hx hb dX13_makeTurned_83 rfl (lv_at hl 0 rfl) ?_
          refine lv_iload_n hx hb dX13_makeTurned_84 rfl (lv_at hl 1 rfl) ?_
          refine lv_aload_n hx hb dX13_makeTurned_85 rfl (lv_at hl 0 rfl) ?_
          refine va_get (D := (dC, dI)) (ci := 16) (v := .ref aR) (C := RX13) (T := TX13) (N := 120) hx hb hts (fun _ h => List.mem_cons_of_mem _ (List.mem_append_left _ (List.mem_append_right _ h))) hown hK hP 0 rfl rfl 105 (by decide) (hts (.fieldLink RX13 356 "KnotHouseModel" "endRow" "[I") (by decide +kernel)) (fun _ h9 => h9) hkaR dX13_makeTurned_86 ?_
          have hPc := hP.sub (ws' := [(h0, .inr (16, fs)), (aS, .inl (cI, 6, .inl fS)), (aE, .inl (cI, 3600, .inl fE)), (aR, .inl (cI, 5, .inl fR))]) [0, 1, 2, 5] rfl
          refine va_calli (va_runV (As := [.int (nI n), .ref aR]) (rest := [.int (nI (120 * n + k)), .ref aA]) ⟨hx, hb, hml, hown, hts⟩ (kf_X13_find l dC dI cI cB cJ cZ h0 aS aE aR fs hfs hkaS hkaE fS fE fR n ct h2 h5 (by omega) hfS) (cwV 2 hts gf_X13_makeTurned_a rfl rfl rfl (by decide +kernel) ⟨(Nat.le_of_ble_eq_true rfl), (Nat.le_of_ble_eq_true rfl)⟩) ⟨fun a U g mk q => by obtain ⟨q0, qP, qK⟩ := q; exact ⟨q0, qP, va_K.moved (u := U) (U := U.calling g mk a) (Vm.Alike.refl U.vm) qK⟩, va_recv hK hPc (ci := 16) (q0 := 0) rfl rfl, fun U hU hW => ⟨rfl, by rw [hU]; exact hPc, va_K.moved hW.alike hK⟩⟩ rfl rfl hl.1 rfl (lv_room (Nat.le_of_ble_eq_true rfl)) dX13_makeTurned_89 ⟨(Nat.le_of_ble_eq_true rfl), (Nat.le_of_ble_eq_true rfl)⟩) hS (fun q _ h => h.elim) (fun q h => h.elim) (fun xr9 un t H1 locs ht hvm hwxr9 hB hz1 hk1 hS => ?_)
          have hP := hP.kept (fun k9 x9 h9 => hk1 x9.1 ((hP k9 x9 h9).lt) id)
          generalize H1 = H at hP hS ⊢
          refine ow_iast hx hb hK hP hD hS 3 0 rfl rfl (vp_in_nI (n := 120 * n + k) (N := 720) (by omega) (by decide)) dX13_makeTurned_92 (fun f10 H locs hP hD hS => ?_)
          have hP : va_P (dC, dI) vwCl [(h0, .inr (16, fs)), (aS, .inl (cI, 6, .inl fS)), (aE, .inl (cI, 3600, .inl fE)), (aA, .inl (cI, 720, .inl f10)), (aO, .inl (cI, 720, .inl fO)), (aR, .inl (cI, 5, .inl fR))] H := hP
          have hD : va_D A [(h0, .inr (16, fs)), (aS, .inl (cI, 6, .inl fS)), (aE, .inl (cI, 3600, .inl fE)), (aA, .inl (cI, 720, .inl f10)), (aO, .inl (cI, 720, .inl fO)), (aR, .inl (cI, 5, .inl fR))] := hD
          refine lv_iconst (v := 0) hx hb dX13_makeTurned_93 (by decide) ?_
          refine lv_istore (lv' := [(4, .int 0), (0, .ref h0), (1, .int (nI n)), (2, .int (nI k)), (3, .int (nI (120 * n + k)))]) hx hb dX13_makeTurned_94 hl (by decide) rfl (fun ls hl => ?_)
          exact L96 n 0 (by omega) H locs ls _ _ _ hP hD hS (lv_sub hl [1, 2, 3, 4, 0] rfl)
        | succ d ih_L22 =>
          intro a hv_a H locs ls fA fO fR hP hD hS hl
          have L31 : ∀ (d b : Nat), b + d = n → ∀ (H : Heap) (locs : List Loc) (ls : Array Slot) (fA fO fR : Nat → Int32), va_P (dC, dI) vwCl [(h0, .inr (16, fs)), (aS, .inl (cI, 6, .inl fS)), (aE, .inl (cI, 3600, .inl fE)), (aA, .inl (cI, 720, .inl fA)), (aO, .inl (cI, 720, .inl fO)), (aR, .inl (cI, 5, .inl fR))] H → va_D A [(h0, .inr (16, fs)), (aS, .inl (cI, 6, .inl fS)), (aE, .inl (cI, 3600, .inl fE)), (aA, .inl (cI, 720, .inl fA)), (aO, .inl (cI, 720, .inl fO)), (aR, .inl (cI, 5, .inl fR))] → va_S A s.heap H locs → lv_has ls 6 [(0, .ref h0), (1, .int (nI n)), (2, .int (nI k)), (3, .int (nI (120 * n + k))), (4, .int (nI a)), (5, .int (nI b))] → W p l e ({ frames := 1, cells := 0, slots := 0, locals := 30 } : Room) s m ([.ref h0, .int (nI n)] : List Value).toArray below meth c H locs 0 0 QQ (F0 m 31 ls []) := by
            intro d
            induction d with
            | zero =>
              intro b hv_b H locs ls fA fO fR hP hD hS hl
              refine lv_iload hx hb dX13_makeTurned_31 (lv_at hl 5 rfl) ?_
              refine lv_iload_n hx hb dX13_makeTurned_33 rfl (lv_at hl 1 rfl) ?_
              refine lv_icmp_ge (tgt := 72) hx hb dX13_makeTurned_34 (by decide) (fun _ => ?_) (fun c9 => absurd (nI_le (a := n) (b := b) (by omega) (by omega)) c9)
              refine lv_iinc (v := nI (a + 1)) (lv' := [(4, .int (nI (a + 1))), (0, .ref h0), (1, .int (nI n)), (2, .int (nI k)), (3, .int (nI (120 * n + k))), (5, .int (nI b))]) hx hb dX13_makeTurned_72 hl (k := 4) rfl (nI_1 a) (by decide) rfl (fun ls hl => ?_)
              refine lv_goto (tgt := 22) hx hb dX13_makeTurned_75 (by decide) ?_
              exact ih_L22 (a + 1) (by omega) H locs ls _ _ _ hP hD hS (lv_sub hl [1, 2, 3, 4, 0] rfl)
            | succ d ih_L31 =>
              intro b hv_b H locs ls fA fO fR hP hD hS hl
              refine lv_iload hx hb dX13_makeTurned_31 (lv_at hl 5 rfl) ?_
              refine lv_iload_n hx hb dX13_makeTurned_33 rfl (lv_at hl 1 rfl) ?_
              refine lv_icmp_ge (tgt := 72) hx hb dX13_makeTurned_34 (by decide) (fun c9 => absurd c9 (nI_ge (a := b) (b := n) (by omega) (by omega))) (fun _ => ?_)
              refine lv_aload_n hx hb dX13_makeTurned_37 rfl (lv_at hl 0 rfl) ?_
              refine va_get (D := (dC, dI)) (ci := 16) (v := .ref aE) (C := RX13) (T := TX13) (N := 120) hx hb hts (fun _ h => List.mem_cons_of_mem _ (List.mem_append_left _ (List.mem_append_right _ h))) hown hK hP 0 rfl rfl 97 (by decide) (hts (.fieldLink RX13 332 "KnotHouseModel" "ends" "[I") (by decide +kernel)) (fun _ h9 => h9) hkaE dX13_makeTurned_38 ?_
              refine lv_iconst (v := 5) hx hb dX13_makeTurned_41 (by decide) ?_
              refine lv_iload_n hx hb dX13_makeTurned_42 rfl (lv_at hl 3 rfl) ?_
              refine lv_imul hx hb dX13_makeTurned_43 ?_
              refine ow_topi (y := nI (5 * (120 * n + k))) (pk_mul 5 (120 * n + k)) ?_
              refine lv_iload hx hb dX13_makeTurned_44 (lv_at hl 5 rfl) ?_
              refine lv_iadd hx hb dX13_makeTurned_46 ?_
              refine ow_topi (y := nI (5 * (120 * n + k) + b)) (nI_add (5 * (120 * n + k)) b) ?_
              refine va_iald hx hb hK hP 2 0 rfl rfl (vp_in_nI (n := 5 * (120 * n + k) + b) (N := 3600) (by omega) (by decide)) dX13_makeTurned_47 ?_
              refine lv_topi (fun x12 _ => ?_)
              refine lv_iload_n hx hb dX13_makeTurned_48 rfl (lv_at hl 1 rfl) ?_
              refine lv_iconst (v := 1) hx hb dX13_makeTurned_49 (by decide) ?_
              refine lv_isub hx hb dX13_makeTurned_50 ?_
              refine lv_topi (fun x13 _ => ?_)
              refine lv_iload hx hb dX13_makeTurned_51 (lv_at hl 4 rfl) ?_
              refine lv_isub hx hb dX13_makeTurned_53 ?_
              refine lv_topi (fun x14 _ => ?_)
              refine lv_icmp_ne (tgt := 66) hx hb dX13_makeTurned_54 (by decide) (fun c15 => ?_) (fun c15 => ?_)
              · refine lv_iinc (v := nI (b + 1)) (lv' := [(5, .int (nI (b + 1))), (0, .ref h0), (1, .int (nI n)), (2, .int (nI k)), (3, .int (nI (120 * n + k))), (4, .int (nI a))]) hx hb dX13_makeTurned_66 hl (k := 5) rfl (nI_1 b) (by decide) rfl (fun ls hl => ?_)
                refine lv_goto (tgt := 31) hx hb dX13_makeTurned_69 (by decide) ?_
                exact ih_L31 (b + 1) (by omega) H locs ls _ _ _ hP hD hS (lv_sub hl [1, 2, 3, 4, 5, 0] rfl)
              · refine lv_aload_n hx hb dX13_makeTurned_57 rfl (lv_at hl 0 rfl) ?_
                refine va_get (D := (dC, dI)) (ci := 16) (v := .ref aR) (C := RX13) (T := TX13) (N := 120) hx hb hts (fun _ h => List.mem_cons_of_mem _ (List.mem_append_left _ (List.mem_append_right _ h))) hown hK hP 0 rfl rfl 105 (by decide) (hts (.fieldLink RX13 356 "KnotHouseModel" "endRow" "[I") (by decide +kernel)) (fun _ h9 => h9) hkaR dX13_makeTurned_58 ?_
                refine lv_iload hx hb dX13_makeTurned_61 (lv_at hl 4 rfl) ?_
                refine lv_iload hx hb dX13_makeTurned_63 (lv_at hl 5 rfl) ?_
                refine ow_iast hx hb hK hP hD hS 5 0 rfl rfl (vp_in_nI (n := a) (N := 5) (by omega) (by decide)) dX13_makeTurned_65 (fun f16 H locs hP hD hS => ?_)
                have hP : va_P (dC, dI) vwCl [(h0, .inr (16, fs)), (aS, .inl (cI, 6, .inl fS)), (aE, .inl (cI, 3600, .inl fE)), (aA, .inl (cI, 720, .inl fA)), (aO, .inl (cI, 720, .inl fO)), (aR, .inl (cI, 5, .inl f16))] H := hP
                have hD : va_D A [(h0, .inr (16, fs)), (aS, .inl (cI, 6, .inl fS)), (aE, .inl (cI, 3600, .inl fE)), (aA, .inl (cI, 720, .inl fA)), (aO, .inl (cI, 720, .inl fO)), (aR, .inl (cI, 5, .inl f16))] := hD
                refine lv_iinc (v := nI (b + 1)) (lv' := [(5, .int (nI (b + 1))), (0, .ref h0), (1, .int (nI n)), (2, .int (nI k)), (3, .int (nI (120 * n + k))), (4, .int (nI a))]) hx hb dX13_makeTurned_66 hl (k := 5) rfl (nI_1 b) (by decide) rfl (fun ls hl => ?_)
                refine lv_goto (tgt := 31) hx hb dX13_makeTurned_69 (by decide) ?_
                exact ih_L31 (b + 1) (by omega) H locs ls _ _ _ hP hD hS (lv_sub hl [1, 2, 3, 4, 5, 0] rfl)
          refine lv_iload hx hb dX13_makeTurned_22 (lv_at hl 4 rfl) ?_
          refine lv_iload_n hx hb dX13_makeTurned_24 rfl (lv_at hl 1 rfl) ?_
          refine lv_icmp_ge (tgt := 78) hx hb dX13_makeTurned_25 (by decide) (fun c9 => absurd c9 (nI_ge (a := a) (b := n) (by omega) (by omega))) (fun _ => ?_)
          refine lv_iconst (v := 0) hx hb dX13_makeTurned_28 (by decide) ?_
          refine lv_istore (lv' := [(5, .int 0), (0, .ref h0), (1, .int (nI n)), (2, .int (nI k)), (3, .int (nI (120 * n + k))), (4, .int (nI a))]) hx hb dX13_makeTurned_29 hl (by decide) rfl (fun ls hl => ?_)
          exact L31 n 0 (by omega) H locs ls _ _ _ hP hD hS (lv_sub hl [1, 2, 3, 4, 5, 0] rfl)
      refine lv_iload_n hx hb dX13_makeTurned_2 rfl (lv_at hl 2 rfl) ?_
      refine lv_aload_n hx hb dX13_makeTurned_3 rfl (lv_at hl 0 rfl) ?_
      refine va_get (D := (dC, dI)) (ci := 16) (v := .ref aS) (C := RX13) (T := TX13) (N := 120) hx hb hts (fun _ h => List.mem_cons_of_mem _ (List.mem_append_left _ (List.mem_append_right _ h))) hown hK hP 0 rfl rfl 96 (by decide) (hts (.fieldLink RX13 329 "KnotHouseModel" "simples" "[I") (by decide +kernel)) (fun _ h9 => h9) hkaS dX13_makeTurned_4 ?_
      refine lv_iload_n hx hb dX13_makeTurned_7 rfl (lv_at hl 1 rfl) ?_
      refine va_iald hx hb hK hP 1 0 rfl rfl (vp_in_nI (n := n) (N := 6) (by omega) (by decide)) dX13_makeTurned_8 ?_
      refine ow_topi (y := nI ct) ((congrArg fS (nI_clamp (n := n) (by omega))).trans (hfS)) ?_
      refine lv_icmp_ge (tgt := 155) hx hb dX13_makeTurned_9 (by decide) (fun c9 => absurd c9 (nI_ge (a := k) (b := ct) (by omega) (by omega))) (fun _ => ?_)
      refine lv_bipush (v := 120) hx hb dX13_makeTurned_12 (by decide) ?_
      refine lv_iload_n hx hb dX13_makeTurned_14 rfl (lv_at hl 1 rfl) ?_
      refine lv_imul hx hb dX13_makeTurned_15 ?_
      refine ow_topi (y := nI (120 * n)) (pk_mul 120 n) ?_
      refine lv_iload_n hx hb dX13_makeTurned_16 rfl (lv_at hl 2 rfl) ?_
      refine lv_iadd hx hb dX13_makeTurned_17 ?_
      refine ow_topi (y := nI (120 * n + k)) (nI_add (120 * n) k) ?_
      refine lv_istore_n (lv' := [(3, .int (nI (120 * n + k))), (0, .ref h0), (1, .int (nI n)), (2, .int (nI k))]) hx hb dX13_makeTurned_18 rfl hl (by decide) rfl (fun ls hl => ?_)
      refine lv_iconst (v := 0) hx hb dX13_makeTurned_19 (by decide) ?_
      refine lv_istore (lv' := [(4, .int 0), (3, .int (nI (120 * n + k))), (0, .ref h0), (1, .int (nI n)), (2, .int (nI k))]) hx hb dX13_makeTurned_20 hl (by decide) rfl (fun ls hl => ?_)
      exact L22 n 0 (by omega) H locs ls _ _ _ hP hD hS (lv_sub hl [2, 3, 4, 1, 0] rfl)
  refine lv_iconst (v := 0) hx hb dX13_makeTurned_0 (by decide) ?_
  refine lv_istore_n (lv' := [(2, .int 0), (0, .ref h0), (1, .int (nI n))]) hx hb dX13_makeTurned_1 rfl hl (by decide) rfl (fun ls hl => ?_)
  exact L2 ct 0 (by omega) s.heap [] ls _ _ _ hP hD hS (lv_sub hl [1, 2, 0] rfl)
