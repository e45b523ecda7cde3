/-! a sum of four places of a matrix -/
def aa_o (u : Option Nat) (sz : Nat) : Option Nat := match u with
  | none => none
  | some j => if j < sz then some j else none
def aa_1 (M : Nat → Int64) (u : Option Nat) (t : Int64) : Nat → Int64 := match u with
  | none => M
  | some j => fu M (j * 8 + j) (M (j * 8 + j) + t)
def aa_2 (M : Nat → Int64) (u v : Option Nat) (t : Int64) : Nat → Int64 := match u with
  | none => M
  | some j => match v with
    | none => M
    | some k => fu (fu M (j * 8 + k) (M (j * 8 + k) - t)) (k * 8 + j) (fu M (j * 8 + k) (M (j * 8 + k) - t) (k * 8 + j) - t)
def aa_run (M : Nat → Int64) (u v : Option Nat) (t : Int64) (sz : Nat) : Nat → Int64 := aa_2 (aa_1 (aa_1 M (aa_o u sz) t) (aa_o v sz) t) (aa_o u sz) (aa_o v sz) t
/-! changes of sign -/
def sc_w (way : Int32) (i : Nat) : Int32 := if way < 0 ∧ i % 2 = 1 then -1 else 1
def sc_c (ch : Nat → Int64) (way : Int32) (i : Nat) : Int64 := ch i * (sc_w way i).toInt64
def sc_run (ch : Nat → Int64) (way : Int32) : Nat → Nat × Int64
  | 0 => (0, 0)
  | i + 1 => if sc_c ch way i = 0 then sc_run ch way i else if ((sc_run ch way i).2 < 0 ∧ 0 < sc_c ch way i) ∨ (0 < (sc_run ch way i).2 ∧ sc_c ch way i < 0) then ((sc_run ch way i).1 + 1, sc_c ch way i) else ((sc_run ch way i).1, sc_c ch way i)
theorem sc_le (ch : Nat → Int64) (way : Int32) : ∀ i, (sc_run ch way i).1 ≤ i := by
  intro i
  induction i with
  | zero => exact Nat.le_refl 0
  | succ i ih =>
    rw [sc_run]
    split
    · omega
    · split
      · show (sc_run ch way i).1 + 1 ≤ i + 1
        omega
      · show (sc_run ch way i).1 ≤ i + 1
        omega
/-! the characteristic polynomial -/
def fk_d (pw : Nat → Int64) (c9 : Int64) : Nat → Nat → Int64
  | 0 => pw
  | i + 1 => fu (fk_d pw c9 i) (i * 8 + i) (fk_d pw c9 i (i * 8 + i) + c9)
def fk_s (mt pw : Nat → Int64) (i j : Nat) : Nat → Int64
  | 0 => 0
  | k + 1 => fk_s mt pw i j k + mt (i * 8 + k) * pw (k * 8 + j)
def fk_r (mt pw pr : Nat → Int64) (sz i : Nat) : Nat → Nat → Int64
  | 0 => pr
  | j + 1 => fu (fk_r mt pw pr sz i j) (i * 8 + j) (fk_s mt pw i j sz)
def fk_t (mt pw pr : Nat → Int64) (sz : Nat) : Nat → (Nat → Int64) × Int64
  | 0 => (pr, 0)
  | i + 1 => (fk_r mt pw (fk_t mt pw pr sz i).1 sz i sz, (fk_t mt pw pr sz i).2 + fk_r mt pw (fk_t mt pw pr sz i).1 sz i sz (i * 8 + i))
abbrev ow_FK := (Nat → Int64) × (Nat → Int64) × (Nat → Int64)
def fk_p (sz k : Nat) (q : ow_FK) : Nat → Int64 := fk_d q.2.1 (q.1 (sz - k + 1)) sz
def fk_1 (mt : Nat → Int64) (sz k : Nat) (q : ow_FK) : ow_FK := (fu q.1 (sz - k) (-(fk_t mt (fk_p sz k q) q.2.2 sz sz).2 / (nI k).toInt64), va_cpy (fk_t mt (fk_p sz k q) q.2.2 sz sz).1 (fk_p sz k q) 0 0 64, (fk_t mt (fk_p sz k q) q.2.2 sz sz).1)
def fk_n (mt : Nat → Int64) (sz : Nat) (q : ow_FK) : Nat → ow_FK
  | 0 => q
  | k + 1 => fk_1 mt sz (k + 1) (fk_n mt sz q k)
def fk_0 (ch pw pr : Nat → Int64) (sz : Nat) : ow_FK := (fu (lfill ch 9 0) sz 1, lfill pw 64 0, pr)
theorem ow_l0 {k : Nat} (h : 1 ≤ k) (h2 : k ≤ 8) : ¬ (nI k).toInt64 = 0 := by
  have key : ∀ i : Fin 9, 1 ≤ i.1 → ¬ (nI i.1).toInt64 = 0 := by decide +kernel
  exact key ⟨k, by omega⟩ h
theorem dgX4_addAt_0 : decode cX4_addAt 0 = .ok (.iload_n 1, 1) := by decide +kernel
theorem dgX4_addAt_1 : decode cX4_addAt 1 = .ok (.ifCond .lt 25, 3) := by decide +kernel
theorem dgX4_addAt_4 : decode cX4_addAt 4 = .ok (.iload_n 1, 1) := by decide +kernel
theorem dgX4_addAt_5 : decode cX4_addAt 5 = .ok (.iload 4, 2) := by decide +kernel
theorem dgX4_addAt_7 : decode cX4_addAt 7 = .ok (.if_icmp .ge 19, 3) := by decide +kernel
theorem dgX4_addAt_10 : decode cX4_addAt 10 = .ok (.aload_n 0, 1) := by decide +kernel
theorem dgX4_addAt_11 : decode cX4_addAt 11 = .ok (.getfield 21, 3) := by decide +kernel
theorem dgX4_addAt_14 : decode cX4_addAt 14 = .ok (.iload_n 1, 1) := by decide +kernel
theorem dgX4_addAt_15 : decode cX4_addAt 15 = .ok (.bipush 8, 2) := by decide +kernel
theorem dgX4_addAt_17 : decode cX4_addAt 17 = .ok (.imul, 1) := by decide +kernel
theorem dgX4_addAt_18 : decode cX4_addAt 18 = .ok (.iload_n 1, 1) := by decide +kernel
theorem dgX4_addAt_19 : decode cX4_addAt 19 = .ok (.iadd, 1) := by decide +kernel
theorem dgX4_addAt_20 : decode cX4_addAt 20 = .ok (.dup2, 1) := by decide +kernel
theorem dgX4_addAt_21 : decode cX4_addAt 21 = .ok (.laload, 1) := by decide +kernel
theorem dgX4_addAt_22 : decode cX4_addAt 22 = .ok (.iload_n 3, 1) := by decide +kernel
theorem dgX4_addAt_23 : decode cX4_addAt 23 = .ok (.i2l, 1) := by decide +kernel
theorem dgX4_addAt_24 : decode cX4_addAt 24 = .ok (.ladd, 1) := by decide +kernel
theorem dgX4_addAt_25 : decode cX4_addAt 25 = .ok (.lastore, 1) := by decide +kernel
theorem dgX4_addAt_26 : decode cX4_addAt 26 = .ok (.iload_n 2, 1) := by decide +kernel
theorem dgX4_addAt_27 : decode cX4_addAt 27 = .ok (.ifCond .lt 25, 3) := by decide +kernel
theorem dgX4_addAt_30 : decode cX4_addAt 30 = .ok (.iload_n 2, 1) := by decide +kernel
theorem dgX4_addAt_31 : decode cX4_addAt 31 = .ok (.iload 4, 2) := by decide +kernel
theorem dgX4_addAt_33 : decode cX4_addAt 33 = .ok (.if_icmp .ge 19, 3) := by decide +kernel
theorem dgX4_addAt_36 : decode cX4_addAt 36 = .ok (.aload_n 0, 1) := by decide +kernel
theorem dgX4_addAt_37 : decode cX4_addAt 37 = .ok (.getfield 21, 3) := by decide +kernel
theorem dgX4_addAt_40 : decode cX4_addAt 40 = .ok (.iload_n 2, 1) := by decide +kernel
theorem dgX4_addAt_41 : decode cX4_addAt 41 = .ok (.bipush 8, 2) := by decide +kernel
theorem dgX4_addAt_43 : decode cX4_addAt 43 = .ok (.imul, 1) := by decide +kernel
theorem dgX4_addAt_44 : decode cX4_addAt 44 = .ok (.iload_n 2, 1) := by decide +kernel
theorem dgX4_addAt_45 : decode cX4_addAt 45 = .ok (.iadd, 1) := by decide +kernel
theorem dgX4_addAt_46 : decode cX4_addAt 46 = .ok (.dup2, 1) := by decide +kernel
theorem dgX4_addAt_47 : decode cX4_addAt 47 = .ok (.laload, 1) := by decide +kernel
theorem dgX4_addAt_48 : decode cX4_addAt 48 = .ok (.iload_n 3, 1) := by decide +kernel
theorem dgX4_addAt_49 : decode cX4_addAt 49 = .ok (.i2l, 1) := by decide +kernel
theorem dgX4_addAt_50 : decode cX4_addAt 50 = .ok (.ladd, 1) := by decide +kernel
theorem dgX4_addAt_51 : decode cX4_addAt 51 = .ok (.lastore, 1) := by decide +kernel
theorem dgX4_addAt_52 : decode cX4_addAt 52 = .ok (.iload_n 1, 1) := by decide +kernel
theorem dgX4_addAt_53 : decode cX4_addAt 53 = .ok (.ifCond .lt 51, 3) := by decide +kernel
theorem dgX4_addAt_56 : decode cX4_addAt 56 = .ok (.iload_n 1, 1) := by decide +kernel
theorem dgX4_addAt_57 : decode cX4_addAt 57 = .ok (.iload 4, 2) := by decide +kernel
theorem dgX4_addAt_59 : decode cX4_addAt 59 = .ok (.if_icmp .ge 45, 3) := by decide +kernel
theorem dgX4_addAt_62 : decode cX4_addAt 62 = .ok (.iload_n 2, 1) := by decide +kernel
theorem dgX4_addAt_63 : decode cX4_addAt 63 = .ok (.ifCond .lt 41, 3) := by decide +kernel
theorem dgX4_addAt_66 : decode cX4_addAt 66 = .ok (.iload_n 2, 1) := by decide +kernel
theorem dgX4_addAt_67 : decode cX4_addAt 67 = .ok (.iload 4, 2) := by decide +kernel
theorem dgX4_addAt_69 : decode cX4_addAt 69 = .ok (.if_icmp .ge 35, 3) := by decide +kernel
theorem dgX4_addAt_72 : decode cX4_addAt 72 = .ok (.aload_n 0, 1) := by decide +kernel
theorem dgX4_addAt_73 : decode cX4_addAt 73 = .ok (.getfield 21, 3) := by decide +kernel
theorem dgX4_addAt_76 : decode cX4_addAt 76 = .ok (.iload_n 1, 1) := by decide +kernel
theorem dgX4_addAt_77 : decode cX4_addAt 77 = .ok (.bipush 8, 2) := by decide +kernel
theorem dgX4_addAt_79 : decode cX4_addAt 79 = .ok (.imul, 1) := by decide +kernel
theorem dgX4_addAt_80 : decode cX4_addAt 80 = .ok (.iload_n 2, 1) := by decide +kernel
theorem dgX4_addAt_81 : decode cX4_addAt 81 = .ok (.iadd, 1) := by decide +kernel
theorem dgX4_addAt_82 : decode cX4_addAt 82 = .ok (.dup2, 1) := by decide +kernel
theorem dgX4_addAt_83 : decode cX4_addAt 83 = .ok (.laload, 1) := by decide +kernel
theorem dgX4_addAt_84 : decode cX4_addAt 84 = .ok (.iload_n 3, 1) := by decide +kernel
theorem dgX4_addAt_85 : decode cX4_addAt 85 = .ok (.i2l, 1) := by decide +kernel
theorem dgX4_addAt_86 : decode cX4_addAt 86 = .ok (.lsub, 1) := by decide +kernel
theorem dgX4_addAt_87 : decode cX4_addAt 87 = .ok (.lastore, 1) := by decide +kernel
theorem dgX4_addAt_88 : decode cX4_addAt 88 = .ok (.aload_n 0, 1) := by decide +kernel
theorem dgX4_addAt_89 : decode cX4_addAt 89 = .ok (.getfield 21, 3) := by decide +kernel
theorem dgX4_addAt_92 : decode cX4_addAt 92 = .ok (.iload_n 2, 1) := by decide +kernel
theorem dgX4_addAt_93 : decode cX4_addAt 93 = .ok (.bipush 8, 2) := by decide +kernel
theorem dgX4_addAt_95 : decode cX4_addAt 95 = .ok (.imul, 1) := by decide +kernel
theorem dgX4_addAt_96 : decode cX4_addAt 96 = .ok (.iload_n 1, 1) := by decide +kernel
theorem dgX4_addAt_97 : decode cX4_addAt 97 = .ok (.iadd, 1) := by decide +kernel
theorem dgX4_addAt_98 : decode cX4_addAt 98 = .ok (.dup2, 1) := by decide +kernel
theorem dgX4_addAt_99 : decode cX4_addAt 99 = .ok (.laload, 1) := by decide +kernel
theorem dgX4_addAt_100 : decode cX4_addAt 100 = .ok (.iload_n 3, 1) := by decide +kernel
theorem dgX4_addAt_101 : decode cX4_addAt 101 = .ok (.i2l, 1) := by decide +kernel
theorem dgX4_addAt_102 : decode cX4_addAt 102 = .ok (.lsub, 1) := by decide +kernel
theorem dgX4_addAt_103 : decode cX4_addAt 103 = .ok (.lastore, 1) := by decide +kernel
theorem dgX4_addAt_104 : decode cX4_addAt 104 = .ok (.return_, 1) := by decide +kernel
def wg_X4_addAt : List Cond := .code yX4_addAt cX4_addAt 5 none :: (([.fieldLink RX4 21 "KnotHouse$Faces" "matrix" "[J"] ++ wsX40) ++ [])
set_option maxHeartbeats 4000000 in
set_option maxRecDepth 100000 in
theorem kg_X4_addAt (l : Launch) (dC : Nat → ClassId) (dI : Nat → Nat → Nat) (cI cB cJ cZ : ClassId) (aF : Nat) (ff : Nat → Nat) (z : Int32) (MT : Nat → Int64) (u w : Option Nat) (hu : ∀ j, u = some j → j < 2 ^ 30) (hw0 : ∀ j, w = some j → j < 2 ^ 30) (t9 : Int32) (sn : Nat) (hsn : sn ≤ 8) (sz : Nat) : Met l yX4_addAt wg_X4_addAt (({ frames := 0, cells := 0, slots := 0, locals := 0 } : Room)) (va_Pc [.ref aF, .int (onI u), .int (onI w), .int t9, .int (nI sn)] (fun U => U.heap.size = sz ∧ va_P (dC, dI) vwCl [(aF, .inr (7, [.ref (ff 0), .int z, .ref (ff 2), .ref (ff 3), .ref (ff 4), .ref (ff 5), .ref (ff 6), .ref (ff 7)])), ((ff 4), .inl (cJ, 64, .inr (.inl MT)))] U.heap ∧ va_K (dC, dI) vwCl [(cI, .int), (cB, .byte), (cJ, .long), (cZ, .boolean)] U ∧ va_D (fun _ => True) [(aF, .inr (7, [.ref (ff 0), .int z, .ref (ff 2), .ref (ff 3), .ref (ff 4), .ref (ff 5), .ref (ff 6), .ref (ff 7)])), ((ff 4), .inl (cJ, 64, .inr (.inl MT)))])) (va_Qv (fun (g : Unit) => True) (fun g t => va_P (dC, dI) vwCl [(aF, .inr (7, [.ref (ff 0), .int z, .ref (ff 2), .ref (ff 3), .ref (ff 4), .ref (ff 5), .ref (ff 6), .ref (ff 7)])), ((ff 4), .inl (cJ, 64, .inr (.inl (aa_run MT u w t9.toInt64 sn))))] t.heap ∧ va_D (va_A [(aF, .inr (7, [.ref (ff 0), .int z, .ref (ff 2), .ref (ff 3), .ref (ff 4), .ref (ff 5), .ref (ff 6), .ref (ff 7)])), ((ff 4), .inl (cJ, 64, .inr (.inl MT)))] sz) [(aF, .inr (7, [.ref (ff 0), .int z, .ref (ff 2), .ref (ff 3), .ref (ff 4), .ref (ff 5), .ref (ff 6), .ref (ff 7)])), ((ff 4), .inl (cJ, 64, .inr (.inl (aa_run MT u w t9.toInt64 sn))))]) (va_A [(aF, .inr (7, [.ref (ff 0), .int z, .ref (ff 2), .ref (ff 3), .ref (ff 4), .ref (ff 5), .ref (ff 6), .ref (ff 7)])), ((ff 4), .inl (cJ, 64, .inr (.inl MT)))] sz)) 0 0 (va_A [(aF, .inr (7, [.ref (ff 0), .int z, .ref (ff 2), .ref (ff 3), .ref (ff 4), .ref (ff 5), .ref (ff 6), .ref (ff 7)])), ((ff 4), .inl (cJ, 64, .inr (.inl MT)))] sz) := by
  refine Met.ofW (cc := cX4_addAt) (maxL := 5) (ret := none) (by decide) rfl ?_
  intro p e s m args below meth c s₁ B hml hv
  obtain ⟨rfl, hsz, hP, hK, hD0⟩ := hv
  have hx := B.exec
  have hb := B.bytes
  have hr := B.returns
  have hts := atoms_spec (ws := wg_X4_addAt) B.pre
  have hown : s.vm.findClass RX4 = some m.cls := findClass_of_methodNamed B.named
  have hlocks := B.notSynchronized
  subst hsz
  have hD := hD0.self (sz := s.heap.size)
  generalize hAe : va_A [(aF, .inr (7, [.ref (ff 0), .int z, .ref (ff 2), .ref (ff 3), .ref (ff 4), .ref (ff 5), .ref (ff 6), .ref (ff 7)])), ((ff 4), .inl (cJ, 64, .inr (.inl MT)))] s.heap.size = A at hD ⊢
  have hA : ∀ q : Nat, s.heap.size ≤ q → A q := fun q h => by rw [← hAe]; exact Or.inr h
  have hS : va_S A s.heap s.heap [] := va_S.rf
  have hP : va_P (dC, dI) vwCl [(aF, .inr (7, [.ref (ff 0), .int z, .ref (ff 2), .ref (ff 3), .ref (ff 4), .ref (ff 5), .ref (ff 6), .ref (ff 7)])), ((ff 4), .inl (cJ, 64, .inr (.inl MT)))] s.heap := hP
  have hl := lv_entry ([.ref aF, .int (onI u), .int (onI w), .int t9, .int (nI sn)]) (n := 5) (Nat.le_of_ble_eq_true rfl)
  rw [lg_entry_eq]
  generalize (lg_sl ([.ref aF, .int (onI u), .int (onI w), .int t9, .int (nI sn)]) ++ List.replicate (5 - (lg_sl ([.ref aF, .int (onI u), .int (onI w), .int t9, .int (nI sn)])).length) Slot.unset).toArray = ls at hl ⊢
  have hl : lv_has ls 5 [(0, .ref aF), (1, .int (onI u)), (2, .int (onI w)), (3, .int t9), (4, .int (nI sn))] := hl
  refine ow_named (fun QQ hQQ => ?_)
  suffices key9 : ∀ (H : Heap) (locs : List Loc), va_P (dC, dI) vwCl [(aF, .inr (7, [.ref (ff 0), .int z, .ref (ff 2), .ref (ff 3), .ref (ff 4), .ref (ff 5), .ref (ff 6), .ref (ff 7)])), ((ff 4), .inl (cJ, 64, .inr (.inl MT)))] H → va_S A s.heap H locs → W p l e ({ frames := 0, cells := 0, slots := 0, locals := 0 } : Room) s m ([.ref aF, .int (onI u), .int (onI w), .int t9, .int (nI sn)] : List Value).toArray below meth c H locs 0 0 QQ (F0 m 0 ls []) from key9 s.heap [] hP hS
  intro H locs hP hS
  have key : ∀ (x : Option Nat), (∀ j, x = some j → j < 2 ^ 30) → (aa_o x sn = none ∧ (x = none ∨ ∃ j, x = some j ∧ sn ≤ j ∧ j < 2 ^ 30)) ∨ ∃ j, x = some j ∧ j < sn ∧ aa_o x sn = some j := by
    intro x hx9
    cases x with
    | none => exact Or.inl ⟨rfl, Or.inl rfl⟩
    | some j =>
      rcases Nat.lt_or_ge j sn with q | q
      · exact Or.inr ⟨j, rfl, q, if_pos q⟩
      · exact Or.inl ⟨if_neg (Nat.not_lt.mpr q), Or.inr ⟨j, rfl, q, hx9 j rfl⟩⟩
  have hru : (aa_run MT u w t9.toInt64 sn) = aa_2 (aa_1 (aa_1 MT (aa_o u sn) t9.toInt64) (aa_o w sn) t9.toInt64) (aa_o u sn) (aa_o w sn) t9.toInt64 := rfl
  rcases key u hu with ⟨o1, e1 | ⟨j1, e1, q1, b1⟩⟩ | ⟨j1, e1, q1, o1⟩
  · rcases key w hw0 with ⟨o2, e2 | ⟨j2, e2, q2, b2⟩⟩ | ⟨j2, e2, q2, o2⟩
    · have hl : lv_has ls 5 [(0, .ref aF), (1, .int (-1)), (2, .int (-1)), (3, .int t9), (4, .int (nI sn))] := by
        rw [e1, e2] at hl
        exact hl
      refine lv_iload_n hx hb dgX4_addAt_0 rfl (lv_at hl 1 rfl) ?_
      refine lv_if_lt (tgt := 26) hx hb dgX4_addAt_1 (by decide) (fun _ => ?_) (fun c9 => absurd (by decide) c9)
      refine lv_iload_n hx hb dgX4_addAt_26 rfl (lv_at hl 2 rfl) ?_
      refine lv_if_lt (tgt := 52) hx hb dgX4_addAt_27 (by decide) (fun _ => ?_) (fun c9 => absurd (by decide) c9)
      refine lv_iload_n hx hb dgX4_addAt_52 rfl (lv_at hl 1 rfl) ?_
      refine lv_if_lt (tgt := 104) hx hb dgX4_addAt_53 (by decide) (fun _ => ?_) (fun c9 => absurd (by decide) c9)
      have hfin : (aa_run MT u w t9.toInt64 sn) = MT := by rw [hru, o1, o2]; rfl
      have hP : va_P (dC, dI) vwCl [(aF, .inr (7, [.ref (ff 0), .int z, .ref (ff 2), .ref (ff 3), .ref (ff 4), .ref (ff 5), .ref (ff 6), .ref (ff 7)])), ((ff 4), .inl (cJ, 64, .inr (.inl (aa_run MT u w t9.toInt64 sn))))] H := by rw [hfin]; exact hP
      have hD : va_D A [(aF, .inr (7, [.ref (ff 0), .int z, .ref (ff 2), .ref (ff 3), .ref (ff 4), .ref (ff 5), .ref (ff 6), .ref (ff 7)])), ((ff 4), .inl (cJ, 64, .inr (.inl (aa_run MT u w t9.toInt64 sn))))] := by rw [hfin]; exact hD
      rw [hQQ]
      exact W.vret hx hb hr (fun t ht hW => ⟨⟨(), rfl, trivial, by rw [ht]; exact hP, hD⟩, hS.F ht⟩) hS.2.2 dgX4_addAt_104
    · have hl : lv_has ls 5 [(0, .ref aF), (1, .int (-1)), (2, .int (nI j2)), (3, .int t9), (4, .int (nI sn))] := by
        rw [e1, e2] at hl
        exact hl
      refine lv_iload_n hx hb dgX4_addAt_0 rfl (lv_at hl 1 rfl) ?_
      refine lv_if_lt (tgt := 26) hx hb dgX4_addAt_1 (by decide) (fun _ => ?_) (fun c9 => absurd (by decide) c9)
      refine lv_iload_n hx hb dgX4_addAt_26 rfl (lv_at hl 2 rfl) ?_
      refine lv_if_lt (tgt := 52) hx hb dgX4_addAt_27 (by decide) (fun c9 => absurd c9 (nI_pos (n := j2) (by omega))) (fun _ => ?_)
      refine lv_iload_n hx hb dgX4_addAt_30 rfl (lv_at hl 2 rfl) ?_
      refine lv_iload hx hb dgX4_addAt_31 (lv_at hl 4 rfl) ?_
      refine lv_icmp_ge (tgt := 52) hx hb dgX4_addAt_33 (by decide) (fun _ => ?_) (fun c9 => absurd (nI_le (a := sn) (b := j2) (by omega) (by omega)) c9)
      refine lv_iload_n hx hb dgX4_addAt_52 rfl (lv_at hl 1 rfl) ?_
      refine lv_if_lt (tgt := 104) hx hb dgX4_addAt_53 (by decide) (fun _ => ?_) (fun c9 => absurd (by decide) c9)
      have hfin : (aa_run MT u w t9.toInt64 sn) = MT := by rw [hru, o1, o2]; rfl
      have hP : va_P (dC, dI) vwCl [(aF, .inr (7, [.ref (ff 0), .int z, .ref (ff 2), .ref (ff 3), .ref (ff 4), .ref (ff 5), .ref (ff 6), .ref (ff 7)])), ((ff 4), .inl (cJ, 64, .inr (.inl (aa_run MT u w t9.toInt64 sn))))] H := by rw [hfin]; exact hP
      have hD : va_D A [(aF, .inr (7, [.ref (ff 0), .int z, .ref (ff 2), .ref (ff 3), .ref (ff 4), .ref (ff 5), .ref (ff 6), .ref (ff 7)])), ((ff 4), .inl (cJ, 64, .inr (.inl (aa_run MT u w t9.toInt64 sn))))] := by rw [hfin]; exact hD
      rw [hQQ]
      exact W.vret hx hb hr (fun t ht hW => ⟨⟨(), rfl, trivial, by rw [ht]; exact hP, hD⟩, hS.F ht⟩) hS.2.2 dgX4_addAt_104
    · have hl : lv_has ls 5 [(0, .ref aF), (1, .int (-1)), (2, .int (nI j2)), (3, .int t9), (4, .int (nI sn))] := by
        rw [e1, e2] at hl
        exact hl
      refine lv_iload_n hx hb dgX4_addAt_0 rfl (lv_at hl 1 rfl) ?_
      refine lv_if_lt (tgt := 26) hx hb dgX4_addAt_1 (by decide) (fun _ => ?_) (fun c9 => absurd (by decide) c9)
      refine lv_iload_n hx hb dgX4_addAt_26 rfl (lv_at hl 2 rfl) ?_
      refine lv_if_lt (tgt := 52) hx hb dgX4_addAt_27 (by decide) (fun c9 => absurd c9 (nI_pos (n := j2) (by omega))) (fun _ => ?_)
      refine lv_iload_n hx hb dgX4_addAt_30 rfl (lv_at hl 2 rfl) ?_
      refine lv_iload hx hb dgX4_addAt_31 (lv_at hl 4 rfl) ?_
      refine lv_icmp_ge (tgt := 52) hx hb dgX4_addAt_33 (by decide) (fun c9 => absurd c9 (nI_ge (a := j2) (b := sn) (by omega) (by omega))) (fun _ => ?_)
      refine lv_aload_n hx hb dgX4_addAt_36 rfl (lv_at hl 0 rfl) ?_
      refine va_get (D := (dC, dI)) (ci := 7) (v := .ref (ff 4)) (C := RX4) (T := TX4) (N := 8) hx hb hts (fun _ h => List.mem_cons_of_mem _ (List.mem_append_left _ (List.mem_append_right _ h))) hown hK hP 0 rfl rfl 4 (by decide) (hts (.fieldLink RX4 21 "KnotHouse$Faces" "matrix" "[J") (by decide +kernel)) (fun _ h9 => h9) rfl dgX4_addAt_37 ?_
      refine lv_iload_n hx hb dgX4_addAt_40 rfl (lv_at hl 2 rfl) ?_
      refine lv_bipush (v := 8) hx hb dgX4_addAt_41 (by decide) ?_
      refine lv_imul hx hb dgX4_addAt_43 ?_
      refine ow_topi (y := nI (j2 * 8)) (pk_mul j2 8) ?_
      refine lv_iload_n hx hb dgX4_addAt_44 rfl (lv_at hl 2 rfl) ?_
      refine lv_iadd hx hb dgX4_addAt_45 ?_
      refine ow_topi (y := nI (j2 * 8 + j2)) (nI_add (j2 * 8) j2) ?_
      refine lv_dup2_11 hx hb dgX4_addAt_46 rfl rfl ?_
      refine va_lald hx hb hK hP 1 2 rfl rfl (vp_in_nI (n := j2 * 8 + j2) (N := 64) (by omega) (by decide)) dgX4_addAt_47 ?_
      refine ow_topl (y := MT (j2 * 8 + j2)) (congrArg MT (nI_clamp (n := j2 * 8 + j2) (Nat.lt_trans (m := 64) (by omega) (by decide)))) ?_
      refine lv_iload_n hx hb dgX4_addAt_48 rfl (lv_at hl 3 rfl) ?_
      refine lv_i2l hx hb dgX4_addAt_49 rfl ?_
      refine lv_ladd hx hb dgX4_addAt_50 ?_
      refine ow_lastF (j := j2 * 8 + j2) (x := MT (j2 * 8 + j2) + t9.toInt64) hx hb hK hP hD hS 1 2 rfl rfl (by omega) (by decide) dgX4_addAt_51 (fun H locs hP hD hS => ?_)
      have hP : va_P (dC, dI) vwCl [(aF, .inr (7, [.ref (ff 0), .int z, .ref (ff 2), .ref (ff 3), .ref (ff 4), .ref (ff 5), .ref (ff 6), .ref (ff 7)])), ((ff 4), .inl (cJ, 64, .inr (.inl (fu MT (j2 * 8 + j2) (MT (j2 * 8 + j2) + t9.toInt64)))))] H := hP
      have hD : va_D A [(aF, .inr (7, [.ref (ff 0), .int z, .ref (ff 2), .ref (ff 3), .ref (ff 4), .ref (ff 5), .ref (ff 6), .ref (ff 7)])), ((ff 4), .inl (cJ, 64, .inr (.inl (fu MT (j2 * 8 + j2) (MT (j2 * 8 + j2) + t9.toInt64)))))] := hD
      refine lv_iload_n hx hb dgX4_addAt_52 rfl (lv_at hl 1 rfl) ?_
      refine lv_if_lt (tgt := 104) hx hb dgX4_addAt_53 (by decide) (fun _ => ?_) (fun c9 => absurd (by decide) c9)
      have hfin : (aa_run MT u w t9.toInt64 sn) = (fu MT (j2 * 8 + j2) (MT (j2 * 8 + j2) + t9.toInt64)) := by rw [hru, o1, o2]; rfl
      have hP : va_P (dC, dI) vwCl [(aF, .inr (7, [.ref (ff 0), .int z, .ref (ff 2), .ref (ff 3), .ref (ff 4), .ref (ff 5), .ref (ff 6), .ref (ff 7)])), ((ff 4), .inl (cJ, 64, .inr (.inl (aa_run MT u w t9.toInt64 sn))))] H := by rw [hfin]; exact hP
      have hD : va_D A [(aF, .inr (7, [.ref (ff 0), .int z, .ref (ff 2), .ref (ff 3), .ref (ff 4), .ref (ff 5), .ref (ff 6), .ref (ff 7)])), ((ff 4), .inl (cJ, 64, .inr (.inl (aa_run MT u w t9.toInt64 sn))))] := by rw [hfin]; exact hD
      rw [hQQ]
      exact W.vret hx hb hr (fun t ht hW => ⟨⟨(), rfl, trivial, by rw [ht]; exact hP, hD⟩, hS.F ht⟩) hS.2.2 dgX4_addAt_104
  · rcases key w hw0 with ⟨o2, e2 | ⟨j2, e2, q2, b2⟩⟩ | ⟨j2, e2, q2, o2⟩
    · have hl : lv_has ls 5 [(0, .ref aF), (1, .int (nI j1)), (2, .int (-1)), (3, .int t9), (4, .int (nI sn))] := by
        rw [e1, e2] at hl
        exact hl
      refine lv_iload_n hx hb dgX4_addAt_0 rfl (lv_at hl 1 rfl) ?_
      refine lv_if_lt (tgt := 26) hx hb dgX4_addAt_1 (by decide) (fun c9 => absurd c9 (nI_pos (n := j1) (by omega))) (fun _ => ?_)
      refine lv_iload_n hx hb dgX4_addAt_4 rfl (lv_at hl 1 rfl) ?_
      refine lv_iload hx hb dgX4_addAt_5 (lv_at hl 4 rfl) ?_
      refine lv_icmp_ge (tgt := 26) hx hb dgX4_addAt_7 (by decide) (fun _ => ?_) (fun c9 => absurd (nI_le (a := sn) (b := j1) (by omega) (by omega)) c9)
      refine lv_iload_n hx hb dgX4_addAt_26 rfl (lv_at hl 2 rfl) ?_
      refine lv_if_lt (tgt := 52) hx hb dgX4_addAt_27 (by decide) (fun _ => ?_) (fun c9 => absurd (by decide) c9)
      refine lv_iload_n hx hb dgX4_addAt_52 rfl (lv_at hl 1 rfl) ?_
      refine lv_if_lt (tgt := 104) hx hb dgX4_addAt_53 (by decide) (fun c9 => absurd c9 (nI_pos (n := j1) (by omega))) (fun _ => ?_)
      refine lv_iload_n hx hb dgX4_addAt_56 rfl (lv_at hl 1 rfl) ?_
      refine lv_iload hx hb dgX4_addAt_57 (lv_at hl 4 rfl) ?_
      refine lv_icmp_ge (tgt := 104) hx hb dgX4_addAt_59 (by decide) (fun _ => ?_) (fun c9 => absurd (nI_le (a := sn) (b := j1) (by omega) (by omega)) c9)
      have hfin : (aa_run MT u w t9.toInt64 sn) = MT := by rw [hru, o1, o2]; rfl
      have hP : va_P (dC, dI) vwCl [(aF, .inr (7, [.ref (ff 0), .int z, .ref (ff 2), .ref (ff 3), .ref (ff 4), .ref (ff 5), .ref (ff 6), .ref (ff 7)])), ((ff 4), .inl (cJ, 64, .inr (.inl (aa_run MT u w t9.toInt64 sn))))] H := by rw [hfin]; exact hP
      have hD : va_D A [(aF, .inr (7, [.ref (ff 0), .int z, .ref (ff 2), .ref (ff 3), .ref (ff 4), .ref (ff 5), .ref (ff 6), .ref (ff 7)])), ((ff 4), .inl (cJ, 64, .inr (.inl (aa_run MT u w t9.toInt64 sn))))] := by rw [hfin]; exact hD
      rw [hQQ]
      exact W.vret hx hb hr (fun t ht hW => ⟨⟨(), rfl, trivial, by rw [ht]; exact hP, hD⟩, hS.F ht⟩) hS.2.2 dgX4_addAt_104
    · have hl : lv_has ls 5 [(0, .ref aF), (1, .int (nI j1)), (2, .int (nI j2)), (3, .int t9), (4, .int (nI sn))] := by
        rw [e1, e2] at hl
        exact hl
      refine lv_iload_n hx hb dgX4_addAt_0 rfl (lv_at hl 1 rfl) ?_
      refine lv_if_lt (tgt := 26) hx hb dgX4_addAt_1 (by decide) (fun c9 => absurd c9 (nI_pos (n := j1) (by omega))) (fun _ => ?_)
      refine lv_iload_n hx hb dgX4_addAt_4 rfl (lv_at hl 1 rfl) ?_
      refine lv_iload hx hb dgX4_addAt_5 (lv_at hl 4 rfl) ?_
      refine lv_icmp_ge (tgt := 26) hx hb dgX4_addAt_7 (by decide) (fun _ => ?_) (fun c9 => absurd (nI_le (a := sn) (b := j1) (by omega) (by omega)) c9)
      refine lv_iload_n hx hb dgX4_addAt_26 rfl (lv_at hl 2 rfl) ?_
      refine lv_if_lt (tgt := 52) hx hb dgX4_addAt_27 (by decide) (fun c9 => absurd c9 (nI_pos (n := j2) (by omega))) (fun _ => ?_)
      refine lv_iload_n hx hb dgX4_addAt_30 rfl (lv_at hl 2 rfl) ?_
      refine lv_iload hx hb dgX4_addAt_31 (lv_at hl 4 rfl) ?_
      refine lv_icmp_ge (tgt := 52) hx hb dgX4_addAt_33 (by decide) (fun _ => ?_) (fun c9 => absurd (nI_le (a := sn) (b := j2) (by omega) (by omega)) c9)
      refine lv_iload_n hx hb dgX4_addAt_52 rfl (lv_at hl 1 rfl) ?_
      refine lv_if_lt (tgt := 104) hx hb dgX4_addAt_53 (by decide) (fun c9 => absurd c9 (nI_pos (n := j1) (by omega))) (fun _ => ?_)
      refine lv_iload_n hx hb dgX4_addAt_56 rfl (lv_at hl 1 rfl) ?_
      refine lv_iload hx hb dgX4_addAt_57 (lv_at hl 4 rfl) ?_
      refine lv_icmp_ge (tgt := 104) hx hb dgX4_addAt_59 (by decide) (fun _ => ?_) (fun c9 => absurd (nI_le (a := sn) (b := j1) (by omega) (by omega)) c9)
      have hfin : (aa_run MT u w t9.toInt64 sn) = MT := by rw [hru, o1, o2]; rfl
      have hP : va_P (dC, dI) vwCl [(aF, .inr (7, [.ref (ff 0), .int z, .ref (ff 2), .ref (ff 3), .ref (ff 4), .ref (ff 5), .ref (ff 6), .ref (ff 7)])), ((ff 4), .inl (cJ, 64, .inr (.inl (aa_run MT u w t9.toInt64 sn))))] H := by rw [hfin]; exact hP
      have hD : va_D A [(aF, .inr (7, [.ref (ff 0), .int z, .ref (ff 2), .ref (ff 3), .ref (ff 4), .ref (ff 5), .ref (ff 6), .ref (ff 7)])), ((ff 4), .inl (cJ, 64, .inr (.inl (aa_run MT u w t9.toInt64 sn))))] := by rw [hfin]; exact hD
      rw [hQQ]
      exact W.vret hx hb hr (fun t ht hW => ⟨⟨(), rfl, trivial, by rw [ht]; exact hP, hD⟩, hS.F ht⟩) hS.2.2 dgX4_addAt_104
    · have hl : lv_has ls 5 [(0, .ref aF), (1, .int (nI j1)), (2, .int (nI j2)), (3, .int t9), (4, .int (nI sn))] := by
        rw [e1, e2] at hl
        exact hl
      refine lv_iload_n hx hb dgX4_addAt_0 rfl (lv_at hl 1 rfl) ?_
      refine lv_if_lt (tgt := 26) hx hb dgX4_addAt_1 (by decide) (fun c9 => absurd c9 (nI_pos (n := j1) (by omega))) (fun _ => ?_)
      refine lv_iload_n hx hb dgX4_addAt_4 rfl (lv_at hl 1 rfl) ?_
      refine lv_iload hx hb dgX4_addAt_5 (lv_at hl 4 rfl) ?_
      refine lv_icmp_ge (tgt := 26) hx hb dgX4_addAt_7 (by decide) (fun _ => ?_) (fun c9 => absurd (nI_le (a := sn) (b := j1) (by omega) (by omega)) c9)
      refine lv_iload_n hx hb dgX4_addAt_26 rfl (lv_at hl 2 rfl) ?_
      refine lv_if_lt (tgt := 52) hx hb dgX4_addAt_27 (by decide) (fun c9 => absurd c9 (nI_pos (n := j2) (by omega))) (fun _ => ?_)
      refine lv_iload_n hx hb dgX4_addAt_30 rfl (lv_at hl 2 rfl) ?_
      refine lv_iload hx hb dgX4_addAt_31 (lv_at hl 4 rfl) ?_
      refine lv_icmp_ge (tgt := 52) hx hb dgX4_addAt_33 (by decide) (fun c9 => absurd c9 (nI_ge (a := j2) (b := sn) (by omega) (by omega))) (fun _ => ?_)
      refine lv_aload_n hx hb dgX4_addAt_36 rfl (lv_at hl 0 rfl) ?_
      refine va_get (D := (dC, dI)) (ci := 7) (v := .ref (ff 4)) (C := RX4) (T := TX4) (N := 8) hx hb hts (fun _ h => List.mem_cons_of_mem _ (List.mem_append_left _ (List.mem_append_right _ h))) hown hK hP 0 rfl rfl 4 (by decide) (hts (.fieldLink RX4 21 "KnotHouse$Faces" "matrix" "[J") (by decide +kernel)) (fun _ h9 => h9) rfl dgX4_addAt_37 ?_
      refine lv_iload_n hx hb dgX4_addAt_40 rfl (lv_at hl 2 rfl) ?_
      refine lv_bipush (v := 8) hx hb dgX4_addAt_41 (by decide) ?_
      refine lv_imul hx hb dgX4_addAt_43 ?_
      refine ow_topi (y := nI (j2 * 8)) (pk_mul j2 8) ?_
      refine lv_iload_n hx hb dgX4_addAt_44 rfl (lv_at hl 2 rfl) ?_
      refine lv_iadd hx hb dgX4_addAt_45 ?_
      refine ow_topi (y := nI (j2 * 8 + j2)) (nI_add (j2 * 8) j2) ?_
      refine lv_dup2_11 hx hb dgX4_addAt_46 rfl rfl ?_
      refine va_lald hx hb hK hP 1 2 rfl rfl (vp_in_nI (n := j2 * 8 + j2) (N := 64) (by omega) (by decide)) dgX4_addAt_47 ?_
      refine ow_topl (y := MT (j2 * 8 + j2)) (congrArg MT (nI_clamp (n := j2 * 8 + j2) (Nat.lt_trans (m := 64) (by omega) (by decide)))) ?_
      refine lv_iload_n hx hb dgX4_addAt_48 rfl (lv_at hl 3 rfl) ?_
      refine lv_i2l hx hb dgX4_addAt_49 rfl ?_
      refine lv_ladd hx hb dgX4_addAt_50 ?_
      refine ow_lastF (j := j2 * 8 + j2) (x := MT (j2 * 8 + j2) + t9.toInt64) hx hb hK hP hD hS 1 2 rfl rfl (by omega) (by decide) dgX4_addAt_51 (fun H locs hP hD hS => ?_)
      have hP : va_P (dC, dI) vwCl [(aF, .inr (7, [.ref (ff 0), .int z, .ref (ff 2), .ref (ff 3), .ref (ff 4), .ref (ff 5), .ref (ff 6), .ref (ff 7)])), ((ff 4), .inl (cJ, 64, .inr (.inl (fu MT (j2 * 8 + j2) (MT (j2 * 8 + j2) + t9.toInt64)))))] H := hP
      have hD : va_D A [(aF, .inr (7, [.ref (ff 0), .int z, .ref (ff 2), .ref (ff 3), .ref (ff 4), .ref (ff 5), .ref (ff 6), .ref (ff 7)])), ((ff 4), .inl (cJ, 64, .inr (.inl (fu MT (j2 * 8 + j2) (MT (j2 * 8 + j2) + t9.toInt64)))))] := hD
      refine lv_iload_n hx hb dgX4_addAt_52 rfl (lv_at hl 1 rfl) ?_
      refine lv_if_lt (tgt := 104) hx hb dgX4_addAt_53 (by decide) (fun c9 => absurd c9 (nI_pos (n := j1) (by omega))) (fun _ => ?_)
      refine lv_iload_n hx hb dgX4_addAt_56 rfl (lv_at hl 1 rfl) ?_
      refine lv_iload hx hb dgX4_addAt_57 (lv_at hl 4 rfl) ?_
      refine lv_icmp_ge (tgt := 104) hx hb dgX4_addAt_59 (by decide) (fun _ => ?_) (fun c9 => absurd (nI_le (a := sn) (b := j1) (by omega) (by omega)) c9)
      have hfin : (aa_run MT u w t9.toInt64 sn) = (fu MT (j2 * 8 + j2) (MT (j2 * 8 + j2) + t9.toInt64)) := by rw [hru, o1, o2]; rfl
      have hP : va_P (dC, dI) vwCl [(aF, .inr (7, [.ref (ff 0), .int z, .ref (ff 2), .ref (ff 3), .ref (ff 4), .ref (ff 5), .ref (ff 6), .ref (ff 7)])), ((ff 4), .inl (cJ, 64, .inr (.inl (aa_run MT u w t9.toInt64 sn))))] H := by rw [hfin]; exact hP
      have hD : va_D A [(aF, .inr (7, [.ref (ff 0), .int z, .ref (ff 2), .ref (ff 3), .ref (ff 4), .ref (ff 5), .ref (ff 6), .ref (ff 7)])), ((ff 4), .inl (cJ, 64, .inr (.inl (aa_run MT u w t9.toInt64 sn))))] := by rw [hfin]; exact hD
      rw [hQQ]
      exact W.vret hx hb hr (fun t ht hW => ⟨⟨(), rfl, trivial, by rw [ht]; exact hP, hD⟩, hS.F ht⟩) hS.2.2 dgX4_addAt_104
  · rcases key w hw0 with ⟨o2, e2 | ⟨j2, e2, q2, b2⟩⟩ | ⟨j2, e2, q2, o2⟩
    · have hl : lv_has ls 5 [(0, .ref aF), (1, .int (nI j1)), (2, .int (-1)), (3, .int t9), (4, .int (nI sn))] := by
        rw [e1, e2] at hl
        exact hl
      refine lv_iload_n hx hb dgX4_addAt_0 rfl (lv_at hl 1 rfl) ?_
      refine lv_if_lt (tgt := 26) hx hb dgX4_addAt_1 (by decide) (fun c9 => absurd c9 (nI_pos (n := j1) (by omega))) (fun _ => ?_)
      refine lv_iload_n hx hb dgX4_addAt_4 rfl (lv_at hl 1 rfl) ?_
      refine lv_iload hx hb dgX4_addAt_5 (lv_at hl 4 rfl) ?_
      refine lv_icmp_ge (tgt := 26) hx hb dgX4_addAt_7 (by decide) (fun c9 => absurd c9 (nI_ge (a := j1) (b := sn) (by omega) (by omega))) (fun _ => ?_)
      refine lv_aload_n hx hb dgX4_addAt_10 rfl (lv_at hl 0 rfl) ?_
      refine va_get (D := (dC, dI)) (ci := 7) (v := .ref (ff 4)) (C := RX4) (T := TX4) (N := 8) hx hb hts (fun _ h => List.mem_cons_of_mem _ (List.mem_append_left _ (List.mem_append_right _ h))) hown hK hP 0 rfl rfl 4 (by decide) (hts (.fieldLink RX4 21 "KnotHouse$Faces" "matrix" "[J") (by decide +kernel)) (fun _ h9 => h9) rfl dgX4_addAt_11 ?_
      refine lv_iload_n hx hb dgX4_addAt_14 rfl (lv_at hl 1 rfl) ?_
      refine lv_bipush (v := 8) hx hb dgX4_addAt_15 (by decide) ?_
      refine lv_imul hx hb dgX4_addAt_17 ?_
      refine ow_topi (y := nI (j1 * 8)) (pk_mul j1 8) ?_
      refine lv_iload_n hx hb dgX4_addAt_18 rfl (lv_at hl 1 rfl) ?_
      refine lv_iadd hx hb dgX4_addAt_19 ?_
      refine ow_topi (y := nI (j1 * 8 + j1)) (nI_add (j1 * 8) j1) ?_
      refine lv_dup2_11 hx hb dgX4_addAt_20 rfl rfl ?_
      refine va_lald hx hb hK hP 1 2 rfl rfl (vp_in_nI (n := j1 * 8 + j1) (N := 64) (by omega) (by decide)) dgX4_addAt_21 ?_
      refine ow_topl (y := MT (j1 * 8 + j1)) (congrArg MT (nI_clamp (n := j1 * 8 + j1) (Nat.lt_trans (m := 64) (by omega) (by decide)))) ?_
      refine lv_iload_n hx hb dgX4_addAt_22 rfl (lv_at hl 3 rfl) ?_
      refine lv_i2l hx hb dgX4_addAt_23 rfl ?_
      refine lv_ladd hx hb dgX4_addAt_24 ?_
      refine ow_lastF (j := j1 * 8 + j1) (x := MT (j1 * 8 + j1) + t9.toInt64) hx hb hK hP hD hS 1 2 rfl rfl (by omega) (by decide) dgX4_addAt_25 (fun H locs hP hD hS => ?_)
      have hP : va_P (dC, dI) vwCl [(aF, .inr (7, [.ref (ff 0), .int z, .ref (ff 2), .ref (ff 3), .ref (ff 4), .ref (ff 5), .ref (ff 6), .ref (ff 7)])), ((ff 4), .inl (cJ, 64, .inr (.inl (fu MT (j1 * 8 + j1) (MT (j1 * 8 + j1) + t9.toInt64)))))] H := hP
      have hD : va_D A [(aF, .inr (7, [.ref (ff 0), .int z, .ref (ff 2), .ref (ff 3), .ref (ff 4), .ref (ff 5), .ref (ff 6), .ref (ff 7)])), ((ff 4), .inl (cJ, 64, .inr (.inl (fu MT (j1 * 8 + j1) (MT (j1 * 8 + j1) + t9.toInt64)))))] := hD
      refine lv_iload_n hx hb dgX4_addAt_26 rfl (lv_at hl 2 rfl) ?_
      refine lv_if_lt (tgt := 52) hx hb dgX4_addAt_27 (by decide) (fun _ => ?_) (fun c9 => absurd (by decide) c9)
      refine lv_iload_n hx hb dgX4_addAt_52 rfl (lv_at hl 1 rfl) ?_
      refine lv_if_lt (tgt := 104) hx hb dgX4_addAt_53 (by decide) (fun c9 => absurd c9 (nI_pos (n := j1) (by omega))) (fun _ => ?_)
      refine lv_iload_n hx hb dgX4_addAt_56 rfl (lv_at hl 1 rfl) ?_
      refine lv_iload hx hb dgX4_addAt_57 (lv_at hl 4 rfl) ?_
      refine lv_icmp_ge (tgt := 104) hx hb dgX4_addAt_59 (by decide) (fun c9 => absurd c9 (nI_ge (a := j1) (b := sn) (by omega) (by omega))) (fun _ => ?_)
      refine lv_iload_n hx hb dgX4_addAt_62 rfl (lv_at hl 2 rfl) ?_
      refine lv_if_lt (tgt := 104) hx hb dgX4_addAt_63 (by decide) (fun _ => ?_) (fun c9 => absurd (by decide) c9)
      have hfin : (aa_run MT u w t9.toInt64 sn) = (fu MT (j1 * 8 + j1) (MT (j1 * 8 + j1) + t9.toInt64)) := by rw [hru, o1, o2]; rfl
      have hP : va_P (dC, dI) vwCl [(aF, .inr (7, [.ref (ff 0), .int z, .ref (ff 2), .ref (ff 3), .ref (ff 4), .ref (ff 5), .ref (ff 6), .ref (ff 7)])), ((ff 4), .inl (cJ, 64, .inr (.inl (aa_run MT u w t9.toInt64 sn))))] H := by rw [hfin]; exact hP
      have hD : va_D A [(aF, .inr (7, [.ref (ff 0), .int z, .ref (ff 2), .ref (ff 3), .ref (ff 4), .ref (ff 5), .ref (ff 6), .ref (ff 7)])), ((ff 4), .inl (cJ, 64, .inr (.inl (aa_run MT u w t9.toInt64 sn))))] := by rw [hfin]; exact hD
      rw [hQQ]
      exact W.vret hx hb hr (fun t ht hW => ⟨⟨(), rfl, trivial, by rw [ht]; exact hP, hD⟩, hS.F ht⟩) hS.2.2 dgX4_addAt_104
    · have hl : lv_has ls 5 [(0, .ref aF), (1, .int (nI j1)), (2, .int (nI j2)), (3, .int t9), (4, .int (nI sn))] := by
        rw [e1, e2] at hl
        exact hl
      refine lv_iload_n hx hb dgX4_addAt_0 rfl (lv_at hl 1 rfl) ?_
      refine lv_if_lt (tgt := 26) hx hb dgX4_addAt_1 (by decide) (fun c9 => absurd c9 (nI_pos (n := j1) (by omega))) (fun _ => ?_)
      refine lv_iload_n hx hb dgX4_addAt_4 rfl (lv_at hl 1 rfl) ?_
      refine lv_iload hx hb dgX4_addAt_5 (lv_at hl 4 rfl) ?_
      refine lv_icmp_ge (tgt := 26) hx hb dgX4_addAt_7 (by decide) (fun c9 => absurd c9 (nI_ge (a := j1) (b := sn) (by omega) (by omega))) (fun _ => ?_)
      refine lv_aload_n hx hb dgX4_addAt_10 rfl (lv_at hl 0 rfl) ?_
      refine va_get (D := (dC, dI)) (ci := 7) (v := .ref (ff 4)) (C := RX4) (T := TX4) (N := 8) hx hb hts (fun _ h => List.mem_cons_of_mem _ (List.mem_append_left _ (List.mem_append_right _ h))) hown hK hP 0 rfl rfl 4 (by decide) (hts (.fieldLink RX4 21 "KnotHouse$Faces" "matrix" "[J") (by decide +kernel)) (fun _ h9 => h9) rfl dgX4_addAt_11 ?_
      refine lv_iload_n hx hb dgX4_addAt_14 rfl (lv_at hl 1 rfl) ?_
      refine lv_bipush (v := 8) hx hb dgX4_addAt_15 (by decide) ?_
      refine lv_imul hx hb dgX4_addAt_17 ?_
      refine ow_topi (y := nI (j1 * 8)) (pk_mul j1 8) ?_
      refine lv_iload_n hx hb dgX4_addAt_18 rfl (lv_at hl 1 rfl) ?_
      refine lv_iadd hx hb dgX4_addAt_19 ?_
      refine ow_topi (y := nI (j1 * 8 + j1)) (nI_add (j1 * 8) j1) ?_
      refine lv_dup2_11 hx hb dgX4_addAt_20 rfl rfl ?_
      refine va_lald hx hb hK hP 1 2 rfl rfl (vp_in_nI (n := j1 * 8 + j1) (N := 64) (by omega) (by decide)) dgX4_addAt_21 ?_
      refine ow_topl (y := MT (j1 * 8 + j1)) (congrArg MT (nI_clamp (n := j1 * 8 + j1) (Nat.lt_trans (m := 64) (by omega) (by decide)))) ?_
      refine lv_iload_n hx hb dgX4_addAt_22 rfl (lv_at hl 3 rfl) ?_
      refine lv_i2l hx hb dgX4_addAt_23 rfl ?_
      refine lv_ladd hx hb dgX4_addAt_24 ?_
      refine ow_lastF (j := j1 * 8 + j1) (x := MT (j1 * 8 + j1) + t9.toInt64) hx hb hK hP hD hS 1 2 rfl rfl (by omega) (by decide) dgX4_addAt_25 (fun H locs hP hD hS => ?_)
      have hP : va_P (dC, dI) vwCl [(aF, .inr (7, [.ref (ff 0), .int z, .ref (ff 2), .ref (ff 3), .ref (ff 4), .ref (ff 5), .ref (ff 6), .ref (ff 7)])), ((ff 4), .inl (cJ, 64, .inr (.inl (fu MT (j1 * 8 + j1) (MT (j1 * 8 + j1) + t9.toInt64)))))] H := hP
      have hD : va_D A [(aF, .inr (7, [.ref (ff 0), .int z, .ref (ff 2), .ref (ff 3), .ref (ff 4), .ref (ff 5), .ref (ff 6), .ref (ff 7)])), ((ff 4), .inl (cJ, 64, .inr (.inl (fu MT (j1 * 8 + j1) (MT (j1 * 8 + j1) + t9.toInt64)))))] := hD
      refine lv_iload_n hx hb dgX4_addAt_26 rfl (lv_at hl 2 rfl) ?_
      refine lv_if_lt (tgt := 52) hx hb dgX4_addAt_27 (by decide) (fun c9 => absurd c9 (nI_pos (n := j2) (by omega))) (fun _ => ?_)
      refine lv_iload_n hx hb dgX4_addAt_30 rfl (lv_at hl 2 rfl) ?_
      refine lv_iload hx hb dgX4_addAt_31 (lv_at hl 4 rfl) ?_
      refine lv_icmp_ge (tgt := 52) hx hb dgX4_addAt_33 (by decide) (fun _ => ?_) (fun c9 => absurd (nI_le (a := sn) (b := j2) (by omega) (by omega)) c9)
      refine lv_iload_n hx hb dgX4_addAt_52 rfl (lv_at hl 1 rfl) ?_
      refine lv_if_lt (tgt := 104) hx hb dgX4_addAt_53 (by decide) (fun c9 => absurd c9 (nI_pos (n := j1) (by omega))) (fun _ => ?_)
      refine lv_iload_n hx hb dgX4_addAt_56 rfl (lv_at hl 1 rfl) ?_
      refine lv_iload hx hb dgX4_addAt_57 (lv_at hl 4 rfl) ?_
      refine lv_icmp_ge (tgt := 104) hx hb dgX4_addAt_59 (by decide) (fun c9 => absurd c9 (nI_ge (a := j1) (b := sn) (by omega) (by omega))) (fun _ => ?_)
      refine lv_iload_n hx hb dgX4_addAt_62 rfl (lv_at hl 2 rfl) ?_
      refine lv_if_lt (tgt := 104) hx hb dgX4_addAt_63 (by decide) (fun c9 => absurd c9 (nI_pos (n := j2) (by omega))) (fun _ => ?_)
      refine lv_iload_n hx hb dgX4_addAt_66 rfl (lv_at hl 2 rfl) ?_
      refine lv_iload hx hb dgX4_addAt_67 (lv_at hl 4 rfl) ?_
      refine lv_icmp_ge (tgt := 104) hx hb dgX4_addAt_69 (by decide) (fun _ => ?_) (fun c9 => absurd (nI_le (a := sn) (b := j2) (by omega) (by omega)) c9)
      have hfin : (aa_run MT u w t9.toInt64 sn) = (fu MT (j1 * 8 + j1) (MT (j1 * 8 + j1) + t9.toInt64)) := by rw [hru, o1, o2]; rfl
      have hP : va_P (dC, dI) vwCl [(aF, .inr (7, [.ref (ff 0), .int z, .ref (ff 2), .ref (ff 3), .ref (ff 4), .ref (ff 5), .ref (ff 6), .ref (ff 7)])), ((ff 4), .inl (cJ, 64, .inr (.inl (aa_run MT u w t9.toInt64 sn))))] H := by rw [hfin]; exact hP
      have hD : va_D A [(aF, .inr (7, [.ref (ff 0), .int z, .ref (ff 2), .ref (ff 3), .ref (ff 4), .ref (ff 5), .ref (ff 6), .ref (ff 7)])), ((ff 4), .inl (cJ, 64, .inr (.inl (aa_run MT u w t9.toInt64 sn))))] := by rw [hfin]; exact hD
      rw [hQQ]
      exact W.vret hx hb hr (fun t ht hW => ⟨⟨(), rfl, trivial, by rw [ht]; exact hP, hD⟩, hS.F ht⟩) hS.2.2 dgX4_addAt_104
    · have hl : lv_has ls 5 [(0, .ref aF), (1, .int (nI j1)), (2, .int (nI j2)), (3, .int t9), (4, .int (nI sn))] := by
        rw [e1, e2] at hl
        exact hl
      refine lv_iload_n hx hb dgX4_addAt_0 rfl (lv_at hl 1 rfl) ?_
      refine lv_if_lt (tgt := 26) hx hb dgX4_addAt_1 (by decide) (fun c9 => absurd c9 (nI_pos (n := j1) (by omega))) (fun _ => ?_)
      refine lv_iload_n hx hb dgX4_addAt_4 rfl (lv_at hl 1 rfl) ?_
      refine lv_iload hx hb dgX4_addAt_5 (lv_at hl 4 rfl) ?_
      refine lv_icmp_ge (tgt := 26) hx hb dgX4_addAt_7 (by decide) (fun c9 => absurd c9 (nI_ge (a := j1) (b := sn) (by omega) (by omega))) (fun _ => ?_)
      refine lv_aload_n hx hb dgX4_addAt_10 rfl (lv_at hl 0 rfl) ?_
      refine va_get (D := (dC, dI)) (ci := 7) (v := .ref (ff 4)) (C := RX4) (T := TX4) (N := 8) hx hb hts (fun _ h => List.mem_cons_of_mem _ (List.mem_append_left _ (List.mem_append_right _ h))) hown hK hP 0 rfl rfl 4 (by decide) (hts (.fieldLink RX4 21 "KnotHouse$Faces" "matrix" "[J") (by decide +kernel)) (fun _ h9 => h9) rfl dgX4_addAt_11 ?_
      refine lv_iload_n hx hb dgX4_addAt_14 rfl (lv_at hl 1 rfl) ?_
      refine lv_bipush (v := 8) hx hb dgX4_addAt_15 (by decide) ?_
      refine lv_imul hx hb dgX4_addAt_17 ?_
      refine ow_topi (y := nI (j1 * 8)) (pk_mul j1 8) ?_
      refine lv_iload_n hx hb dgX4_addAt_18 rfl (lv_at hl 1 rfl) ?_
      refine lv_iadd hx hb dgX4_addAt_19 ?_
      refine ow_topi (y := nI (j1 * 8 + j1)) (nI_add (j1 * 8) j1) ?_
      refine lv_dup2_11 hx hb dgX4_addAt_20 rfl rfl ?_
      refine va_lald hx hb hK hP 1 2 rfl rfl (vp_in_nI (n := j1 * 8 + j1) (N := 64) (by omega) (by decide)) dgX4_addAt_21 ?_
      refine ow_topl (y := MT (j1 * 8 + j1)) (congrArg MT (nI_clamp (n := j1 * 8 + j1) (Nat.lt_trans (m := 64) (by omega) (by decide)))) ?_
      refine lv_iload_n hx hb dgX4_addAt_22 rfl (lv_at hl 3 rfl) ?_
      refine lv_i2l hx hb dgX4_addAt_23 rfl ?_
      refine lv_ladd hx hb dgX4_addAt_24 ?_
      refine ow_lastF (j := j1 * 8 + j1) (x := MT (j1 * 8 + j1) + t9.toInt64) hx hb hK hP hD hS 1 2 rfl rfl (by omega) (by decide) dgX4_addAt_25 (fun H locs hP hD hS => ?_)
      have hP : va_P (dC, dI) vwCl [(aF, .inr (7, [.ref (ff 0), .int z, .ref (ff 2), .ref (ff 3), .ref (ff 4), .ref (ff 5), .ref (ff 6), .ref (ff 7)])), ((ff 4), .inl (cJ, 64, .inr (.inl (fu MT (j1 * 8 + j1) (MT (j1 * 8 + j1) + t9.toInt64)))))] H := hP
      have hD : va_D A [(aF, .inr (7, [.ref (ff 0), .int z, .ref (ff 2), .ref (ff 3), .ref (ff 4), .ref (ff 5), .ref (ff 6), .ref (ff 7)])), ((ff 4), .inl (cJ, 64, .inr (.inl (fu MT (j1 * 8 + j1) (MT (j1 * 8 + j1) + t9.toInt64)))))] := hD
      refine lv_iload_n hx hb dgX4_addAt_26 rfl (lv_at hl 2 rfl) ?_
      refine lv_if_lt (tgt := 52) hx hb dgX4_addAt_27 (by decide) (fun c9 => absurd c9 (nI_pos (n := j2) (by omega))) (fun _ => ?_)
      refine lv_iload_n hx hb dgX4_addAt_30 rfl (lv_at hl 2 rfl) ?_
      refine lv_iload hx hb dgX4_addAt_31 (lv_at hl 4 rfl) ?_
      refine lv_icmp_ge (tgt := 52) hx hb dgX4_addAt_33 (by decide) (fun c9 => absurd c9 (nI_ge (a := j2) (b := sn) (by omega) (by omega))) (fun _ => ?_)
      refine lv_aload_n hx hb dgX4_addAt_36 rfl (lv_at hl 0 rfl) ?_
      refine va_get (D := (dC, dI)) (ci := 7) (v := .ref (ff 4)) (C := RX4) (T := TX4) (N := 8) hx hb hts (fun _ h => List.mem_cons_of_mem _ (List.mem_append_left _ (List.mem_append_right _ h))) hown hK hP 0 rfl rfl 4 (by decide) (hts (.fieldLink RX4 21 "KnotHouse$Faces" "matrix" "[J") (by decide +kernel)) (fun _ h9 => h9) rfl dgX4_addAt_37 ?_
      refine lv_iload_n hx hb dgX4_addAt_40 rfl (lv_at hl 2 rfl) ?_
      refine lv_bipush (v := 8) hx hb dgX4_addAt_41 (by decide) ?_
      refine lv_imul hx hb dgX4_addAt_43 ?_
      refine ow_topi (y := nI (j2 * 8)) (pk_mul j2 8) ?_
      refine lv_iload_n hx hb dgX4_addAt_44 rfl (lv_at hl 2 rfl) ?_
      refine lv_iadd hx hb dgX4_addAt_45 ?_
      refine ow_topi (y := nI (j2 * 8 + j2)) (nI_add (j2 * 8) j2) ?_
      refine lv_dup2_11 hx hb dgX4_addAt_46 rfl rfl ?_
      refine va_lald hx hb hK hP 1 2 rfl rfl (vp_in_nI (n := j2 * 8 + j2) (N := 64) (by omega) (by decide)) dgX4_addAt_47 ?_
      refine ow_topl (y := (fu MT (j1 * 8 + j1) (MT (j1 * 8 + j1) + t9.toInt64)) (j2 * 8 + j2)) (congrArg (fu MT (j1 * 8 + j1) (MT (j1 * 8 + j1) + t9.toInt64)) (nI_clamp (n := j2 * 8 + j2) (Nat.lt_trans (m := 64) (by omega) (by decide)))) ?_
      refine lv_iload_n hx hb dgX4_addAt_48 rfl (lv_at hl 3 rfl) ?_
      refine lv_i2l hx hb dgX4_addAt_49 rfl ?_
      refine lv_ladd hx hb dgX4_addAt_50 ?_
      refine ow_lastF (j := j2 * 8 + j2) (x := (fu MT (j1 * 8 + j1) (MT (j1 * 8 + j1) + t9.toInt64)) (j2 * 8 + j2) + t9.toInt64) hx hb hK hP hD hS 1 2 rfl rfl (by omega) (by decide) dgX4_addAt_51 (fun H locs hP hD hS => ?_)
      have hP : va_P (dC, dI) vwCl [(aF, .inr (7, [.ref (ff 0), .int z, .ref (ff 2), .ref (ff 3), .ref (ff 4), .ref (ff 5), .ref (ff 6), .ref (ff 7)])), ((ff 4), .inl (cJ, 64, .inr (.inl (fu (fu MT (j1 * 8 + j1) (MT (j1 * 8 + j1) + t9.toInt64)) (j2 * 8 + j2) ((fu MT (j1 * 8 + j1) (MT (j1 * 8 + j1) + t9.toInt64)) (j2 * 8 + j2) + t9.toInt64)))))] H := hP
      have hD : va_D A [(aF, .inr (7, [.ref (ff 0), .int z, .ref (ff 2), .ref (ff 3), .ref (ff 4), .ref (ff 5), .ref (ff 6), .ref (ff 7)])), ((ff 4), .inl (cJ, 64, .inr (.inl (fu (fu MT (j1 * 8 + j1) (MT (j1 * 8 + j1) + t9.toInt64)) (j2 * 8 + j2) ((fu MT (j1 * 8 + j1) (MT (j1 * 8 + j1) + t9.toInt64)) (j2 * 8 + j2) + t9.toInt64)))))] := hD
      refine lv_iload_n hx hb dgX4_addAt_52 rfl (lv_at hl 1 rfl) ?_
      refine lv_if_lt (tgt := 104) hx hb dgX4_addAt_53 (by decide) (fun c9 => absurd c9 (nI_pos (n := j1) (by omega))) (fun _ => ?_)
      refine lv_iload_n hx hb dgX4_addAt_56 rfl (lv_at hl 1 rfl) ?_
      refine lv_iload hx hb dgX4_addAt_57 (lv_at hl 4 rfl) ?_
      refine lv_icmp_ge (tgt := 104) hx hb dgX4_addAt_59 (by decide) (fun c9 => absurd c9 (nI_ge (a := j1) (b := sn) (by omega) (by omega))) (fun _ => ?_)
      refine lv_iload_n hx hb dgX4_addAt_62 rfl (lv_at hl 2 rfl) ?_
      refine lv_if_lt (tgt := 104) hx hb dgX4_addAt_63 (by decide) (fun c9 => absurd c9 (nI_pos (n := j2) (by omega))) (fun _ => ?_)
      refine lv_iload_n hx hb dgX4_addAt_66 rfl (lv_at hl 2 rfl) ?_
      refine lv_iload hx hb dgX4_addAt_67 (lv_at hl 4 rfl) ?_
      refine lv_icmp_ge (tgt := 104) hx hb dgX4_addAt_69 (by decide) (fun c9 => absurd c9 (nI_ge (a := j2) (b := sn) (by omega) (by omega))) (fun _ => ?_)
      refine lv_aload_n hx hb dgX4_addAt_72 rfl (lv_at hl 0 rfl) ?_
      refine va_get (D := (dC, dI)) (ci := 7) (v := .ref (ff 4)) (C := RX4) (T := TX4) (N := 8) hx hb hts (fun _ h => List.mem_cons_of_mem _ (List.mem_append_left _ (List.mem_append_right _ h))) hown hK hP 0 rfl rfl 4 (by decide) (hts (.fieldLink RX4 21 "KnotHouse$Faces" "matrix" "[J") (by decide +kernel)) (fun _ h9 => h9) rfl dgX4_addAt_73 ?_
      refine lv_iload_n hx hb dgX4_addAt_76 rfl (lv_at hl 1 rfl) ?_
      refine lv_bipush (v := 8) hx hb dgX4_addAt_77 (by decide) ?_
      refine lv_imul hx hb dgX4_addAt_79 ?_
      refine ow_topi (y := nI (j1 * 8)) (pk_mul j1 8) ?_
      refine lv_iload_n hx hb dgX4_addAt_80 rfl (lv_at hl 2 rfl) ?_
      refine lv_iadd hx hb dgX4_addAt_81 ?_
      refine ow_topi (y := nI (j1 * 8 + j2)) (nI_add (j1 * 8) j2) ?_
      refine lv_dup2_11 hx hb dgX4_addAt_82 rfl rfl ?_
      refine va_lald hx hb hK hP 1 2 rfl rfl (vp_in_nI (n := j1 * 8 + j2) (N := 64) (by omega) (by decide)) dgX4_addAt_83 ?_
      refine ow_topl (y := (fu (fu MT (j1 * 8 + j1) (MT (j1 * 8 + j1) + t9.toInt64)) (j2 * 8 + j2) ((fu MT (j1 * 8 + j1) (MT (j1 * 8 + j1) + t9.toInt64)) (j2 * 8 + j2) + t9.toInt64)) (j1 * 8 + j2)) (congrArg (fu (fu MT (j1 * 8 + j1) (MT (j1 * 8 + j1) + t9.toInt64)) (j2 * 8 + j2) ((fu MT (j1 * 8 + j1) (MT (j1 * 8 + j1) + t9.toInt64)) (j2 * 8 + j2) + t9.toInt64)) (nI_clamp (n := j1 * 8 + j2) (Nat.lt_trans (m := 64) (by omega) (by decide)))) ?_
      refine lv_iload_n hx hb dgX4_addAt_84 rfl (lv_at hl 3 rfl) ?_
      refine lv_i2l hx hb dgX4_addAt_85 rfl ?_
      refine lv_lsub hx hb dgX4_addAt_86 ?_
      refine ow_lastF (j := j1 * 8 + j2) (x := (fu (fu MT (j1 * 8 + j1) (MT (j1 * 8 + j1) + t9.toInt64)) (j2 * 8 + j2) ((fu MT (j1 * 8 + j1) (MT (j1 * 8 + j1) + t9.toInt64)) (j2 * 8 + j2) + t9.toInt64)) (j1 * 8 + j2) - t9.toInt64) hx hb hK hP hD hS 1 2 rfl rfl (by omega) (by decide) dgX4_addAt_87 (fun H locs hP hD hS => ?_)
      have hP : va_P (dC, dI) vwCl [(aF, .inr (7, [.ref (ff 0), .int z, .ref (ff 2), .ref (ff 3), .ref (ff 4), .ref (ff 5), .ref (ff 6), .ref (ff 7)])), ((ff 4), .inl (cJ, 64, .inr (.inl (fu (fu (fu MT (j1 * 8 + j1) (MT (j1 * 8 + j1) + t9.toInt64)) (j2 * 8 + j2) ((fu MT (j1 * 8 + j1) (MT (j1 * 8 + j1) + t9.toInt64)) (j2 * 8 + j2) + t9.toInt64)) (j1 * 8 + j2) ((fu (fu MT (j1 * 8 + j1) (MT (j1 * 8 + j1) + t9.toInt64)) (j2 * 8 + j2) ((fu MT (j1 * 8 + j1) (MT (j1 * 8 + j1) + t9.toInt64)) (j2 * 8 + j2) + t9.toInt64)) (j1 * 8 + j2) - t9.toInt64)))))] H := hP
      have hD : va_D A [(aF, .inr (7, [.ref (ff 0), .int z, .ref (ff 2), .ref (ff 3), .ref (ff 4), .ref (ff 5), .ref (ff 6), .ref (ff 7)])), ((ff 4), .inl (cJ, 64, .inr (.inl (fu (fu (fu MT (j1 * 8 + j1) (MT (j1 * 8 + j1) + t9.toInt64)) (j2 * 8 + j2) ((fu MT (j1 * 8 + j1) (MT (j1 * 8 + j1) + t9.toInt64)) (j2 * 8 + j2) + t9.toInt64)) (j1 * 8 + j2) ((fu (fu MT (j1 * 8 + j1) (MT (j1 * 8 + j1) + t9.toInt64)) (j2 * 8 + j2) ((fu MT (j1 * 8 + j1) (MT (j1 * 8 + j1) + t9.toInt64)) (j2 * 8 + j2) + t9.toInt64)) (j1 * 8 + j2) - t9.toInt64)))))] := hD
      refine lv_aload_n hx hb dgX4_addAt_88 rfl (lv_at hl 0 rfl) ?_
      refine va_get (D := (dC, dI)) (ci := 7) (v := .ref (ff 4)) (C := RX4) (T := TX4) (N := 8) hx hb hts (fun _ h => List.mem_cons_of_mem _ (List.mem_append_left _ (List.mem_append_right _ h))) hown hK hP 0 rfl rfl 4 (by decide) (hts (.fieldLink RX4 21 "KnotHouse$Faces" "matrix" "[J") (by decide +kernel)) (fun _ h9 => h9) rfl dgX4_addAt_89 ?_
      refine lv_iload_n hx hb dgX4_addAt_92 rfl (lv_at hl 2 rfl) ?_
      refine lv_bipush (v := 8) hx hb dgX4_addAt_93 (by decide) ?_
      refine lv_imul hx hb dgX4_addAt_95 ?_
      refine ow_topi (y := nI (j2 * 8)) (pk_mul j2 8) ?_
      refine lv_iload_n hx hb dgX4_addAt_96 rfl (lv_at hl 1 rfl) ?_
      refine lv_iadd hx hb dgX4_addAt_97 ?_
      refine ow_topi (y := nI (j2 * 8 + j1)) (nI_add (j2 * 8) j1) ?_
      refine lv_dup2_11 hx hb dgX4_addAt_98 rfl rfl ?_
      refine va_lald hx hb hK hP 1 2 rfl rfl (vp_in_nI (n := j2 * 8 + j1) (N := 64) (by omega) (by decide)) dgX4_addAt_99 ?_
      refine ow_topl (y := (fu (fu (fu MT (j1 * 8 + j1) (MT (j1 * 8 + j1) + t9.toInt64)) (j2 * 8 + j2) ((fu MT (j1 * 8 + j1) (MT (j1 * 8 + j1) + t9.toInt64)) (j2 * 8 + j2) + t9.toInt64)) (j1 * 8 + j2) ((fu (fu MT (j1 * 8 + j1) (MT (j1 * 8 + j1) + t9.toInt64)) (j2 * 8 + j2) ((fu MT (j1 * 8 + j1) (MT (j1 * 8 + j1) + t9.toInt64)) (j2 * 8 + j2) + t9.toInt64)) (j1 * 8 + j2) - t9.toInt64)) (j2 * 8 + j1)) (congrArg (fu (fu (fu MT (j1 * 8 + j1) (MT (j1 * 8 + j1) + t9.toInt64)) (j2 * 8 + j2) ((fu MT (j1 * 8 + j1) (MT (j1 * 8 + j1) + t9.toInt64)) (j2 * 8 + j2) + t9.toInt64)) (j1 * 8 + j2) ((fu (fu MT (j1 * 8 + j1) (MT (j1 * 8 + j1) + t9.toInt64)) (j2 * 8 + j2) ((fu MT (j1 * 8 + j1) (MT (j1 * 8 + j1) + t9.toInt64)) (j2 * 8 + j2) + t9.toInt64)) (j1 * 8 + j2) - t9.toInt64)) (nI_clamp (n := j2 * 8 + j1) (Nat.lt_trans (m := 64) (by omega) (by decide)))) ?_
      refine lv_iload_n hx hb dgX4_addAt_100 rfl (lv_at hl 3 rfl) ?_
      refine lv_i2l hx hb dgX4_addAt_101 rfl ?_
      refine lv_lsub hx hb dgX4_addAt_102 ?_
      refine ow_lastF (j := j2 * 8 + j1) (x := (fu (fu (fu MT (j1 * 8 + j1) (MT (j1 * 8 + j1) + t9.toInt64)) (j2 * 8 + j2) ((fu MT (j1 * 8 + j1) (MT (j1 * 8 + j1) + t9.toInt64)) (j2 * 8 + j2) + t9.toInt64)) (j1 * 8 + j2) ((fu (fu MT (j1 * 8 + j1) (MT (j1 * 8 + j1) + t9.toInt64)) (j2 * 8 + j2) ((fu MT (j1 * 8 + j1) (MT (j1 * 8 + j1) + t9.toInt64)) (j2 * 8 + j2) + t9.toInt64)) (j1 * 8 + j2) - t9.toInt64)) (j2 * 8 + j1) - t9.toInt64) hx hb hK hP hD hS 1 2 rfl rfl (by omega) (by decide) dgX4_addAt_103 (fun H locs hP hD hS => ?_)
      have hP : va_P (dC, dI) vwCl [(aF, .inr (7, [.ref (ff 0), .int z, .ref (ff 2), .ref (ff 3), .ref (ff 4), .ref (ff 5), .ref (ff 6), .ref (ff 7)])), ((ff 4), .inl (cJ, 64, .inr (.inl (fu (fu (fu (fu MT (j1 * 8 + j1) (MT (j1 * 8 + j1) + t9.toInt64)) (j2 * 8 + j2) ((fu MT (j1 * 8 + j1) (MT (j1 * 8 + j1) + t9.toInt64)) (j2 * 8 + j2) + t9.toInt64)) (j1 * 8 + j2) ((fu (fu MT (j1 * 8 + j1) (MT (j1 * 8 + j1) + t9.toInt64)) (j2 * 8 + j2) ((fu MT (j1 * 8 + j1) (MT (j1 * 8 + j1) + t9.toInt64)) (j2 * 8 + j2) + t9.toInt64)) (j1 * 8 + j2) - t9.toInt64)) (j2 * 8 + j1) ((fu (fu (fu MT (j1 * 8 + j1) (MT (j1 * 8 + j1) + t9.toInt64)) (j2 * 8 + j2) ((fu MT (j1 * 8 + j1) (MT (j1 * 8 + j1) + t9.toInt64)) (j2 * 8 + j2) + t9.toInt64)) (j1 * 8 + j2) ((fu (fu MT (j1 * 8 + j1) (MT (j1 * 8 + j1) + t9.toInt64)) (j2 * 8 + j2) ((fu MT (j1 * 8 + j1) (MT (j1 * 8 + j1) + t9.toInt64)) (j2 * 8 + j2) + t9.toInt64)) (j1 * 8 + j2) - t9.toInt64)) (j2 * 8 + j1) - t9.toInt64)))))] H := hP
      have hD : va_D A [(aF, .inr (7, [.ref (ff 0), .int z, .ref (ff 2), .ref (ff 3), .ref (ff 4), .ref (ff 5), .ref (ff 6), .ref (ff 7)])), ((ff 4), .inl (cJ, 64, .inr (.inl (fu (fu (fu (fu MT (j1 * 8 + j1) (MT (j1 * 8 + j1) + t9.toInt64)) (j2 * 8 + j2) ((fu MT (j1 * 8 + j1) (MT (j1 * 8 + j1) + t9.toInt64)) (j2 * 8 + j2) + t9.toInt64)) (j1 * 8 + j2) ((fu (fu MT (j1 * 8 + j1) (MT (j1 * 8 + j1) + t9.toInt64)) (j2 * 8 + j2) ((fu MT (j1 * 8 + j1) (MT (j1 * 8 + j1) + t9.toInt64)) (j2 * 8 + j2) + t9.toInt64)) (j1 * 8 + j2) - t9.toInt64)) (j2 * 8 + j1) ((fu (fu (fu MT (j1 * 8 + j1) (MT (j1 * 8 + j1) + t9.toInt64)) (j2 * 8 + j2) ((fu MT (j1 * 8 + j1) (MT (j1 * 8 + j1) + t9.toInt64)) (j2 * 8 + j2) + t9.toInt64)) (j1 * 8 + j2) ((fu (fu MT (j1 * 8 + j1) (MT (j1 * 8 + j1) + t9.toInt64)) (j2 * 8 + j2) ((fu MT (j1 * 8 + j1) (MT (j1 * 8 + j1) + t9.toInt64)) (j2 * 8 + j2) + t9.toInt64)) (j1 * 8 + j2) - t9.toInt64)) (j2 * 8 + j1) - t9.toInt64)))))] := hD
      have hfin : (aa_run MT u w t9.toInt64 sn) = (fu (fu (fu (fu MT (j1 * 8 + j1) (MT (j1 * 8 + j1) + t9.toInt64)) (j2 * 8 + j2) ((fu MT (j1 * 8 + j1) (MT (j1 * 8 + j1) + t9.toInt64)) (j2 * 8 + j2) + t9.toInt64)) (j1 * 8 + j2) ((fu (fu MT (j1 * 8 + j1) (MT (j1 * 8 + j1) + t9.toInt64)) (j2 * 8 + j2) ((fu MT (j1 * 8 + j1) (MT (j1 * 8 + j1) + t9.toInt64)) (j2 * 8 + j2) + t9.toInt64)) (j1 * 8 + j2) - t9.toInt64)) (j2 * 8 + j1) ((fu (fu (fu MT (j1 * 8 + j1) (MT (j1 * 8 + j1) + t9.toInt64)) (j2 * 8 + j2) ((fu MT (j1 * 8 + j1) (MT (j1 * 8 + j1) + t9.toInt64)) (j2 * 8 + j2) + t9.toInt64)) (j1 * 8 + j2) ((fu (fu MT (j1 * 8 + j1) (MT (j1 * 8 + j1) + t9.toInt64)) (j2 * 8 + j2) ((fu MT (j1 * 8 + j1) (MT (j1 * 8 + j1) + t9.toInt64)) (j2 * 8 + j2) + t9.toInt64)) (j1 * 8 + j2) - t9.toInt64)) (j2 * 8 + j1) - t9.toInt64)) := by rw [hru, o1, o2]; rfl
      have hP : va_P (dC, dI) vwCl [(aF, .inr (7, [.ref (ff 0), .int z, .ref (ff 2), .ref (ff 3), .ref (ff 4), .ref (ff 5), .ref (ff 6), .ref (ff 7)])), ((ff 4), .inl (cJ, 64, .inr (.inl (aa_run MT u w t9.toInt64 sn))))] H := by rw [hfin]; exact hP
      have hD : va_D A [(aF, .inr (7, [.ref (ff 0), .int z, .ref (ff 2), .ref (ff 3), .ref (ff 4), .ref (ff 5), .ref (ff 6), .ref (ff 7)])), ((ff 4), .inl (cJ, 64, .inr (.inl (aa_run MT u w t9.toInt64 sn))))] := by rw [hfin]; exact hD
      rw [hQQ]
      exact W.vret hx hb hr (fun t ht hW => ⟨⟨(), rfl, trivial, by rw [ht]; exact hP, hD⟩, hS.F ht⟩) hS.2.2 dgX4_addAt_104
theorem dgX4_signChanges_0 : decode cX4_signChanges 0 = .ok (.iconst 0, 1) := by decide +kernel
theorem dgX4_signChanges_1 : decode cX4_signChanges 1 = .ok (.istore_n 3, 1) := by decide +kernel
theorem dgX4_signChanges_2 : decode cX4_signChanges 2 = .ok (.lconst 0, 1) := by decide +kernel
theorem dgX4_signChanges_3 : decode cX4_signChanges 3 = .ok (.lstore 4, 2) := by decide +kernel
theorem dgX4_signChanges_5 : decode cX4_signChanges 5 = .ok (.iconst 0, 1) := by decide +kernel
theorem dgX4_signChanges_6 : decode cX4_signChanges 6 = .ok (.istore 6, 2) := by decide +kernel
theorem dgX4_signChanges_8 : decode cX4_signChanges 8 = .ok (.iload 6, 2) := by decide +kernel
theorem dgX4_signChanges_10 : decode cX4_signChanges 10 = .ok (.iload_n 1, 1) := by decide +kernel
theorem dgX4_signChanges_11 : decode cX4_signChanges 11 = .ok (.if_icmp .gt 79, 3) := by decide +kernel
theorem dgX4_signChanges_14 : decode cX4_signChanges 14 = .ok (.aload_n 0, 1) := by decide +kernel
theorem dgX4_signChanges_15 : decode cX4_signChanges 15 = .ok (.getfield 31, 3) := by decide +kernel
theorem dgX4_signChanges_18 : decode cX4_signChanges 18 = .ok (.iload 6, 2) := by decide +kernel
theorem dgX4_signChanges_20 : decode cX4_signChanges 20 = .ok (.laload, 1) := by decide +kernel
theorem dgX4_signChanges_21 : decode cX4_signChanges 21 = .ok (.iload_n 2, 1) := by decide +kernel
theorem dgX4_signChanges_22 : decode cX4_signChanges 22 = .ok (.ifCond .ge 15, 3) := by decide +kernel
theorem dgX4_signChanges_25 : decode cX4_signChanges 25 = .ok (.iload 6, 2) := by decide +kernel
theorem dgX4_signChanges_27 : decode cX4_signChanges 27 = .ok (.iconst 1, 1) := by decide +kernel
theorem dgX4_signChanges_28 : decode cX4_signChanges 28 = .ok (.iand, 1) := by decide +kernel
theorem dgX4_signChanges_29 : decode cX4_signChanges 29 = .ok (.iconst 1, 1) := by decide +kernel
theorem dgX4_signChanges_30 : decode cX4_signChanges 30 = .ok (.if_icmp .ne 7, 3) := by decide +kernel
theorem dgX4_signChanges_33 : decode cX4_signChanges 33 = .ok (.iconst (-1), 1) := by decide +kernel
theorem dgX4_signChanges_34 : decode cX4_signChanges 34 = .ok (.goto 4, 3) := by decide +kernel
theorem dgX4_signChanges_37 : decode cX4_signChanges 37 = .ok (.iconst 1, 1) := by decide +kernel
theorem dgX4_signChanges_38 : decode cX4_signChanges 38 = .ok (.i2l, 1) := by decide +kernel
theorem dgX4_signChanges_39 : decode cX4_signChanges 39 = .ok (.lmul, 1) := by decide +kernel
theorem dgX4_signChanges_40 : decode cX4_signChanges 40 = .ok (.lstore 7, 2) := by decide +kernel
theorem dgX4_signChanges_42 : decode cX4_signChanges 42 = .ok (.lload 7, 2) := by decide +kernel
theorem dgX4_signChanges_44 : decode cX4_signChanges 44 = .ok (.lconst 0, 1) := by decide +kernel
theorem dgX4_signChanges_45 : decode cX4_signChanges 45 = .ok (.lcmp, 1) := by decide +kernel
theorem dgX4_signChanges_46 : decode cX4_signChanges 46 = .ok (.ifCond .eq 38, 3) := by decide +kernel
theorem dgX4_signChanges_49 : decode cX4_signChanges 49 = .ok (.lload 4, 2) := by decide +kernel
theorem dgX4_signChanges_51 : decode cX4_signChanges 51 = .ok (.lconst 0, 1) := by decide +kernel
theorem dgX4_signChanges_52 : decode cX4_signChanges 52 = .ok (.lcmp, 1) := by decide +kernel
theorem dgX4_signChanges_53 : decode cX4_signChanges 53 = .ok (.ifCond .ge 10, 3) := by decide +kernel
theorem dgX4_signChanges_56 : decode cX4_signChanges 56 = .ok (.lload 7, 2) := by decide +kernel
theorem dgX4_signChanges_58 : decode cX4_signChanges 58 = .ok (.lconst 0, 1) := by decide +kernel
theorem dgX4_signChanges_59 : decode cX4_signChanges 59 = .ok (.lcmp, 1) := by decide +kernel
theorem dgX4_signChanges_60 : decode cX4_signChanges 60 = .ok (.ifCond .gt 17, 3) := by decide +kernel
theorem dgX4_signChanges_63 : decode cX4_signChanges 63 = .ok (.lload 4, 2) := by decide +kernel
theorem dgX4_signChanges_65 : decode cX4_signChanges 65 = .ok (.lconst 0, 1) := by decide +kernel
theorem dgX4_signChanges_66 : decode cX4_signChanges 66 = .ok (.lcmp, 1) := by decide +kernel
theorem dgX4_signChanges_67 : decode cX4_signChanges 67 = .ok (.ifCond .le 13, 3) := by decide +kernel
theorem dgX4_signChanges_70 : decode cX4_signChanges 70 = .ok (.lload 7, 2) := by decide +kernel
theorem dgX4_signChanges_72 : decode cX4_signChanges 72 = .ok (.lconst 0, 1) := by decide +kernel
theorem dgX4_signChanges_73 : decode cX4_signChanges 73 = .ok (.lcmp, 1) := by decide +kernel
theorem dgX4_signChanges_74 : decode cX4_signChanges 74 = .ok (.ifCond .ge 6, 3) := by decide +kernel
theorem dgX4_signChanges_77 : decode cX4_signChanges 77 = .ok (.iinc 3 1, 3) := by decide +kernel
theorem dgX4_signChanges_80 : decode cX4_signChanges 80 = .ok (.lload 7, 2) := by decide +kernel
theorem dgX4_signChanges_82 : decode cX4_signChanges 82 = .ok (.lstore 4, 2) := by decide +kernel
theorem dgX4_signChanges_84 : decode cX4_signChanges 84 = .ok (.iinc 6 1, 3) := by decide +kernel
theorem dgX4_signChanges_87 : decode cX4_signChanges 87 = .ok (.goto (-79), 3) := by decide +kernel
theorem dgX4_signChanges_90 : decode cX4_signChanges 90 = .ok (.iload_n 3, 1) := by decide +kernel
theorem dgX4_signChanges_91 : decode cX4_signChanges 91 = .ok (.ireturn, 1) := by decide +kernel
def wg_X4_signChanges : List Cond := .code yX4_signChanges cX4_signChanges 9 (some .int) :: (([.fieldLink RX4 31 "KnotHouse$Faces" "characteristic" "[J"] ++ wsX40) ++ [])
set_option maxHeartbeats 4000000 in
set_option maxRecDepth 100000 in
theorem kg_X4_signChanges (l : Launch) (dC : Nat → ClassId) (dI : Nat → Nat → Nat) (cI cB cJ cZ : ClassId) (aF : Nat) (ff : Nat → Nat) (z : Int32) (ch : Nat → Int64) (sn : Nat) (hsn : sn ≤ 8) (way : Int32) : Met l yX4_signChanges wg_X4_signChanges (({ frames := 0, cells := 0, slots := 0, locals := 0 } : Room)) (va_Pc [.ref aF, .int (nI sn), .int way] (fun U => va_P (dC, dI) vwCl [(aF, .inr (7, [.ref (ff 0), .int z, .ref (ff 2), .ref (ff 3), .ref (ff 4), .ref (ff 5), .ref (ff 6), .ref (ff 7)])), ((ff 7), .inl (cJ, 9, .inr (.inl ch)))] U.heap ∧ va_K (dC, dI) vwCl [(cI, .int), (cB, .byte), (cJ, .long), (cZ, .boolean)] U)) (va_Qi (fun r (_ : Unit) => r = nI (sc_run ch way (sn + 1)).1) (fun _ _ => True) (fun _ => False)) 0 0 (fun _ => False) := by
  refine Met.ofW (cc := cX4_signChanges) (maxL := 9) (ret := (some .int)) (by decide) rfl ?_
  intro p e s m args below meth c s₁ B hml hv
  obtain ⟨rfl, hP, hK⟩ := hv
  have hx := B.exec
  have hb := B.bytes
  have hr := B.returns
  have hts := atoms_spec (ws := wg_X4_signChanges) B.pre
  have hown : s.vm.findClass RX4 = some m.cls := findClass_of_methodNamed B.named
  have hlocks := B.notSynchronized
  have hS : va_S (fun _ => False) s.heap s.heap [] := va_S.rf
  have hP : va_P (dC, dI) vwCl [(aF, .inr (7, [.ref (ff 0), .int z, .ref (ff 2), .ref (ff 3), .ref (ff 4), .ref (ff 5), .ref (ff 6), .ref (ff 7)])), ((ff 7), .inl (cJ, 9, .inr (.inl ch)))] s.heap := hP
  have hl := lv_entry ([.ref aF, .int (nI sn), .int way]) (n := 9) (Nat.le_of_ble_eq_true rfl)
  rw [lg_entry_eq]
  generalize (lg_sl ([.ref aF, .int (nI sn), .int way]) ++ List.replicate (9 - (lg_sl ([.ref aF, .int (nI sn), .int way])).length) Slot.unset).toArray = ls at hl ⊢
  have hl : lv_has ls 9 [(0, .ref aF), (1, .int (nI sn)), (2, .int way)] := hl
  refine ow_named (fun QQ hQQ => ?_)
  have L8 : ∀ (d i : Nat), i + d = sn + 1 → ∀ (H : Heap) (locs : List Loc) (ls : Array Slot), va_P (dC, dI) vwCl [(aF, .inr (7, [.ref (ff 0), .int z, .ref (ff 2), .ref (ff 3), .ref (ff 4), .ref (ff 5), .ref (ff 6), .ref (ff 7)])), ((ff 7), .inl (cJ, 9, .inr (.inl ch)))] H → va_S (fun _ => False) s.heap H locs → lv_has ls 9 [(0, .ref aF), (1, .int (nI sn)), (2, .int way), (3, .int (nI (sc_run ch way i).1)), (4, .long (sc_run ch way i).2), (6, .int (nI i))] → W p l e ({ frames := 0, cells := 0, slots := 0, locals := 0 } : Room) s m ([.ref aF, .int (nI sn), .int way] : List Value).toArray below meth c H locs 0 0 QQ (F0 m 8 ls []) := by
    intro d
    induction d with
    | zero =>
      intro i hi H locs ls hP hS hl
      have hie : i = sn + 1 := by omega
      refine lv_iload hx hb dgX4_signChanges_8 (lv_at hl 5 rfl) ?_
      refine lv_iload_n hx hb dgX4_signChanges_10 rfl (lv_at hl 1 rfl) ?_
      refine lv_icmp_gt (tgt := 90) hx hb dgX4_signChanges_11 (by decide) (fun _ => ?_) (fun c9 => absurd (nI_lt (a := sn) (b := i) (by omega) (by omega)) c9)
      refine lv_iload_n hx hb dgX4_signChanges_90 rfl (lv_at hl 3 rfl) ?_
      rw [hQQ]
      exact W.iret (v := (nI (sc_run ch way i).1)) hx hb hr (fun t ht hW => ⟨⟨(nI (sc_run ch way i).1), (), rfl, by rw [hie], trivial⟩, hS.F ht⟩) hS.2.2 dgX4_signChanges_91
    | succ d ih =>
      intro i hi H locs ls hP hS hl
      have hsl := sc_le ch way i
      refine lv_iload hx hb dgX4_signChanges_8 (lv_at hl 5 rfl) ?_
      refine lv_iload_n hx hb dgX4_signChanges_10 rfl (lv_at hl 1 rfl) ?_
      refine lv_icmp_gt (tgt := 90) hx hb dgX4_signChanges_11 (by decide) (fun c9 => absurd c9 (nI_nlt (a := sn) (b := i) (by omega) (by omega))) (fun _ => ?_)
      refine lv_aload_n hx hb dgX4_signChanges_14 rfl (lv_at hl 0 rfl) ?_
      refine va_get (D := (dC, dI)) (ci := 7) (v := .ref (ff 7)) (C := RX4) (T := TX4) (N := 8) hx hb hts (fun _ h => List.mem_cons_of_mem _ (List.mem_append_left _ (List.mem_append_right _ h))) hown hK hP 0 rfl rfl 7 (by decide) (hts (.fieldLink RX4 31 "KnotHouse$Faces" "characteristic" "[J") (by decide +kernel)) (fun _ h9 => h9) rfl dgX4_signChanges_15 ?_
      refine lv_iload hx hb dgX4_signChanges_18 (lv_at hl 5 rfl) ?_
      refine va_lald hx hb hK hP 1 2 rfl rfl (vp_in_nI (n := i) (N := 9) (by omega) (by decide)) dgX4_signChanges_20 ?_
      refine ow_topl (y := ch i) (congrArg ch (nI_clamp (n := i) (Nat.lt_trans (m := 9) (by omega) (by decide)))) ?_
      refine lv_iload_n hx hb dgX4_signChanges_21 rfl (lv_at hl 2 rfl) ?_
      have K38 : ∀ (H : Heap) (locs : List Loc) (ls : Array Slot), va_P (dC, dI) vwCl [(aF, .inr (7, [.ref (ff 0), .int z, .ref (ff 2), .ref (ff 3), .ref (ff 4), .ref (ff 5), .ref (ff 6), .ref (ff 7)])), ((ff 7), .inl (cJ, 9, .inr (.inl ch)))] H → va_S (fun _ => False) s.heap H locs → lv_has ls 9 [(0, .ref aF), (1, .int (nI sn)), (2, .int way), (3, .int (nI (sc_run ch way i).1)), (4, .long (sc_run ch way i).2), (6, .int (nI i))] → W p l e ({ frames := 0, cells := 0, slots := 0, locals := 0 } : Room) s m ([.ref aF, .int (nI sn), .int way] : List Value).toArray below meth c H locs 0 0 QQ (F0 m 38 ls [.int (sc_w way i), .long (ch i)]) := by
        intro H locs ls hP hS hl
        refine lv_i2l hx hb dgX4_signChanges_38 rfl ?_
        refine lv_lmul hx hb dgX4_signChanges_39 ?_
        refine ow_topl (y := (sc_c ch way i)) rfl ?_
        refine lv_lstore (lv' := [(7, .long (sc_c ch way i)), (0, .ref aF), (1, .int (nI sn)), (2, .int way), (3, .int (nI (sc_run ch way i).1)), (4, .long (sc_run ch way i).2), (6, .int (nI i))]) hx hb dgX4_signChanges_40 hl (by decide) rfl (fun ls hl => ?_)
        refine lv_lload hx hb dgX4_signChanges_42 (lv_at hl 0 rfl) ?_
        refine lv_lconst (v := 0) hx hb dgX4_signChanges_44 rfl ?_
        refine W.lcmp hx hb dgX4_signChanges_45 ?_
        refine lv_if_eq (tgt := 84) hx hb dgX4_signChanges_46 (by decide) (fun c1 => ?_) (fun c1 => ?_)
        · refine lv_iinc (v := nI (i + 1)) (lv' := [(6, .int (nI (i + 1))), (7, .long (sc_c ch way i)), (0, .ref aF), (1, .int (nI sn)), (2, .int way), (3, .int (nI (sc_run ch way i).1)), (4, .long (sc_run ch way i).2)]) hx hb dgX4_signChanges_84 hl (k := 6) rfl (nI_1 i) (by decide) rfl (fun ls hl => ?_)
          refine lv_goto (tgt := 8) hx hb dgX4_signChanges_87 (by decide) ?_
          have hst : (sc_run ch way (i + 1)) = (sc_run ch way i) := if_pos ((lg_cmp_eq _ _).mp c1)
          refine ih (i + 1) (by omega) H locs ls hP hS ?_
          rw [hst]
          exact (lv_sub hl [2, 3, 4, 5, 6, 0] rfl)
        · refine lv_lload hx hb dgX4_signChanges_49 (lv_at hl 5 rfl) ?_
          refine lv_lconst (v := 0) hx hb dgX4_signChanges_51 rfl ?_
          refine W.lcmp hx hb dgX4_signChanges_52 ?_
          refine lv_if_ge (tgt := 63) hx hb dgX4_signChanges_53 (by decide) (fun c2 => ?_) (fun c2 => ?_)
          · refine lv_lload hx hb dgX4_signChanges_63 (lv_at hl 5 rfl) ?_
            refine lv_lconst (v := 0) hx hb dgX4_signChanges_65 rfl ?_
            refine W.lcmp hx hb dgX4_signChanges_66 ?_
            refine lv_if_le (tgt := 80) hx hb dgX4_signChanges_67 (by decide) (fun c3 => ?_) (fun c3 => ?_)
            · refine lv_lload hx hb dgX4_signChanges_80 (lv_at hl 0 rfl) ?_
              refine lv_lstore (lv' := [(4, .long (sc_c ch way i)), (7, .long (sc_c ch way i)), (0, .ref aF), (1, .int (nI sn)), (2, .int way), (3, .int (nI (sc_run ch way i).1)), (6, .int (nI i))]) hx hb dgX4_signChanges_82 hl (by decide) rfl (fun ls hl => ?_)
              refine lv_iinc (v := nI (i + 1)) (lv' := [(6, .int (nI (i + 1))), (4, .long (sc_c ch way i)), (7, .long (sc_c ch way i)), (0, .ref aF), (1, .int (nI sn)), (2, .int way), (3, .int (nI (sc_run ch way i).1))]) hx hb dgX4_signChanges_84 hl (k := 6) rfl (nI_1 i) (by decide) rfl (fun ls hl => ?_)
              refine lv_goto (tgt := 8) hx hb dgX4_signChanges_87 (by decide) ?_
              have hst : (sc_run ch way (i + 1)) = ((sc_run ch way i).1, (sc_c ch way i)) := (if_neg (fun h9 => c1 ((lg_cmp_eq _ _).mpr h9))).trans (if_neg (fun h9 => h9.elim (fun h8 => absurd ((lg_cmp_lt _ _).mpr h8.1) (Int32.not_lt.mpr c2)) (fun h8 => absurd ((lg_cmp_gt _ _).mpr h8.1) (Int32.not_lt.mpr c3))))
              refine ih (i + 1) (by omega) H locs ls hP hS ?_
              rw [hst]
              exact (lv_sub hl [3, 4, 5, 6, 1, 0] rfl)
            · refine lv_lload hx hb dgX4_signChanges_70 (lv_at hl 0 rfl) ?_
              refine lv_lconst (v := 0) hx hb dgX4_signChanges_72 rfl ?_
              refine W.lcmp hx hb dgX4_signChanges_73 ?_
              refine lv_if_ge (tgt := 80) hx hb dgX4_signChanges_74 (by decide) (fun c4 => ?_) (fun c4 => ?_)
              · refine lv_lload hx hb dgX4_signChanges_80 (lv_at hl 0 rfl) ?_
                refine lv_lstore (lv' := [(4, .long (sc_c ch way i)), (7, .long (sc_c ch way i)), (0, .ref aF), (1, .int (nI sn)), (2, .int way), (3, .int (nI (sc_run ch way i).1)), (6, .int (nI i))]) hx hb dgX4_signChanges_82 hl (by decide) rfl (fun ls hl => ?_)
                refine lv_iinc (v := nI (i + 1)) (lv' := [(6, .int (nI (i + 1))), (4, .long (sc_c ch way i)), (7, .long (sc_c ch way i)), (0, .ref aF), (1, .int (nI sn)), (2, .int way), (3, .int (nI (sc_run ch way i).1))]) hx hb dgX4_signChanges_84 hl (k := 6) rfl (nI_1 i) (by decide) rfl (fun ls hl => ?_)
                refine lv_goto (tgt := 8) hx hb dgX4_signChanges_87 (by decide) ?_
                have hst : (sc_run ch way (i + 1)) = ((sc_run ch way i).1, (sc_c ch way i)) := (if_neg (fun h9 => c1 ((lg_cmp_eq _ _).mpr h9))).trans (if_neg (fun h9 => h9.elim (fun h8 => absurd ((lg_cmp_lt _ _).mpr h8.1) (Int32.not_lt.mpr c2)) (fun h8 => absurd ((lg_cmp_lt _ _).mpr h8.2) (Int32.not_lt.mpr c4))))
                refine ih (i + 1) (by omega) H locs ls hP hS ?_
                rw [hst]
                exact (lv_sub hl [3, 4, 5, 6, 1, 0] rfl)
              · refine lv_iinc (v := nI ((sc_run ch way i).1 + 1)) (lv' := [(3, .int (nI ((sc_run ch way i).1 + 1))), (7, .long (sc_c ch way i)), (0, .ref aF), (1, .int (nI sn)), (2, .int way), (4, .long (sc_run ch way i).2), (6, .int (nI i))]) hx hb dgX4_signChanges_77 hl (k := 4) rfl (nI_1 (sc_run ch way i).1) (by decide) rfl (fun ls hl => ?_)
                refine lv_lload hx hb dgX4_signChanges_80 (lv_at hl 1 rfl) ?_
                refine lv_lstore (lv' := [(4, .long (sc_c ch way i)), (3, .int (nI ((sc_run ch way i).1 + 1))), (7, .long (sc_c ch way i)), (0, .ref aF), (1, .int (nI sn)), (2, .int way), (6, .int (nI i))]) hx hb dgX4_signChanges_82 hl (by decide) rfl (fun ls hl => ?_)
                refine lv_iinc (v := nI (i + 1)) (lv' := [(6, .int (nI (i + 1))), (4, .long (sc_c ch way i)), (3, .int (nI ((sc_run ch way i).1 + 1))), (7, .long (sc_c ch way i)), (0, .ref aF), (1, .int (nI sn)), (2, .int way)]) hx hb dgX4_signChanges_84 hl (k := 6) rfl (nI_1 i) (by decide) rfl (fun ls hl => ?_)
                refine lv_goto (tgt := 8) hx hb dgX4_signChanges_87 (by decide) ?_
                have hst : (sc_run ch way (i + 1)) = ((sc_run ch way i).1 + 1, (sc_c ch way i)) := (if_neg (fun h9 => c1 ((lg_cmp_eq _ _).mpr h9))).trans (if_pos (Or.inr ⟨(lg_cmp_gt _ _).mp (Int32.not_le.mp c3), (lg_cmp_lt _ _).mp (Int32.not_le.mp c4)⟩))
                refine ih (i + 1) (by omega) H locs ls hP hS ?_
                rw [hst]
                exact (lv_sub hl [4, 5, 6, 2, 1, 0] rfl)
          · refine lv_lload hx hb dgX4_signChanges_56 (lv_at hl 0 rfl) ?_
            refine lv_lconst (v := 0) hx hb dgX4_signChanges_58 rfl ?_
            refine W.lcmp hx hb dgX4_signChanges_59 ?_
            refine lv_if_gt (tgt := 77) hx hb dgX4_signChanges_60 (by decide) (fun c5 => ?_) (fun c5 => ?_)
            · refine lv_iinc (v := nI ((sc_run ch way i).1 + 1)) (lv' := [(3, .int (nI ((sc_run ch way i).1 + 1))), (7, .long (sc_c ch way i)), (0, .ref aF), (1, .int (nI sn)), (2, .int way), (4, .long (sc_run ch way i).2), (6, .int (nI i))]) hx hb dgX4_signChanges_77 hl (k := 4) rfl (nI_1 (sc_run ch way i).1) (by decide) rfl (fun ls hl => ?_)
              refine lv_lload hx hb dgX4_signChanges_80 (lv_at hl 1 rfl) ?_
              refine lv_lstore (lv' := [(4, .long (sc_c ch way i)), (3, .int (nI ((sc_run ch way i).1 + 1))), (7, .long (sc_c ch way i)), (0, .ref aF), (1, .int (nI sn)), (2, .int way), (6, .int (nI i))]) hx hb dgX4_signChanges_82 hl (by decide) rfl (fun ls hl => ?_)
              refine lv_iinc (v := nI (i + 1)) (lv' := [(6, .int (nI (i + 1))), (4, .long (sc_c ch way i)), (3, .int (nI ((sc_run ch way i).1 + 1))), (7, .long (sc_c ch way i)), (0, .ref aF), (1, .int (nI sn)), (2, .int way)]) hx hb dgX4_signChanges_84 hl (k := 6) rfl (nI_1 i) (by decide) rfl (fun ls hl => ?_)
              refine lv_goto (tgt := 8) hx hb dgX4_signChanges_87 (by decide) ?_
              have hst : (sc_run ch way (i + 1)) = ((sc_run ch way i).1 + 1, (sc_c ch way i)) := (if_neg (fun h9 => c1 ((lg_cmp_eq _ _).mpr h9))).trans (if_pos (Or.inl ⟨(lg_cmp_lt _ _).mp (Int32.not_le.mp c2), (lg_cmp_gt _ _).mp c5⟩))
              refine ih (i + 1) (by omega) H locs ls hP hS ?_
              rw [hst]
              exact (lv_sub hl [4, 5, 6, 2, 1, 0] rfl)
            · refine lv_lload hx hb dgX4_signChanges_63 (lv_at hl 5 rfl) ?_
              refine lv_lconst (v := 0) hx hb dgX4_signChanges_65 rfl ?_
              refine W.lcmp hx hb dgX4_signChanges_66 ?_
              refine lv_if_le (tgt := 80) hx hb dgX4_signChanges_67 (by decide) (fun c6 => ?_) (fun c6 => ?_)
              · refine lv_lload hx hb dgX4_signChanges_80 (lv_at hl 0 rfl) ?_
                refine lv_lstore (lv' := [(4, .long (sc_c ch way i)), (7, .long (sc_c ch way i)), (0, .ref aF), (1, .int (nI sn)), (2, .int way), (3, .int (nI (sc_run ch way i).1)), (6, .int (nI i))]) hx hb dgX4_signChanges_82 hl (by decide) rfl (fun ls hl => ?_)
                refine lv_iinc (v := nI (i + 1)) (lv' := [(6, .int (nI (i + 1))), (4, .long (sc_c ch way i)), (7, .long (sc_c ch way i)), (0, .ref aF), (1, .int (nI sn)), (2, .int way), (3, .int (nI (sc_run ch way i).1))]) hx hb dgX4_signChanges_84 hl (k := 6) rfl (nI_1 i) (by decide) rfl (fun ls hl => ?_)
                refine lv_goto (tgt := 8) hx hb dgX4_signChanges_87 (by decide) ?_
                have hst : (sc_run ch way (i + 1)) = ((sc_run ch way i).1, (sc_c ch way i)) := (if_neg (fun h9 => c1 ((lg_cmp_eq _ _).mpr h9))).trans (if_neg (fun h9 => h9.elim (fun h8 => absurd ((lg_cmp_gt _ _).mpr h8.2) c5) (fun h8 => absurd ((lg_cmp_gt _ _).mpr h8.1) (Int32.not_lt.mpr c6))))
                refine ih (i + 1) (by omega) H locs ls hP hS ?_
                rw [hst]
                exact (lv_sub hl [3, 4, 5, 6, 1, 0] rfl)
              · refine lv_lload hx hb dgX4_signChanges_70 (lv_at hl 0 rfl) ?_
                refine lv_lconst (v := 0) hx hb dgX4_signChanges_72 rfl ?_
                refine W.lcmp hx hb dgX4_signChanges_73 ?_
                refine lv_if_ge (tgt := 80) hx hb dgX4_signChanges_74 (by decide) (fun c7 => ?_) (fun c7 => ?_)
                · refine lv_lload hx hb dgX4_signChanges_80 (lv_at hl 0 rfl) ?_
                  refine lv_lstore (lv' := [(4, .long (sc_c ch way i)), (7, .long (sc_c ch way i)), (0, .ref aF), (1, .int (nI sn)), (2, .int way), (3, .int (nI (sc_run ch way i).1)), (6, .int (nI i))]) hx hb dgX4_signChanges_82 hl (by decide) rfl (fun ls hl => ?_)
                  refine lv_iinc (v := nI (i + 1)) (lv' := [(6, .int (nI (i + 1))), (4, .long (sc_c ch way i)), (7, .long (sc_c ch way i)), (0, .ref aF), (1, .int (nI sn)), (2, .int way), (3, .int (nI (sc_run ch way i).1))]) hx hb dgX4_signChanges_84 hl (k := 6) rfl (nI_1 i) (by decide) rfl (fun ls hl => ?_)
                  refine lv_goto (tgt := 8) hx hb dgX4_signChanges_87 (by decide) ?_
                  have hst : (sc_run ch way (i + 1)) = ((sc_run ch way i).1, (sc_c ch way i)) := (if_neg (fun h9 => c1 ((lg_cmp_eq _ _).mpr h9))).trans (if_neg (fun h9 => h9.elim (fun h8 => absurd ((lg_cmp_gt _ _).mpr h8.2) c5) (fun h8 => absurd ((lg_cmp_lt _ _).mpr h8.2) (Int32.not_lt.mpr c7))))
                  refine ih (i + 1) (by omega) H locs ls hP hS ?_
                  rw [hst]
                  exact (lv_sub hl [3, 4, 5, 6, 1, 0] rfl)
                · refine lv_iinc (v := nI ((sc_run ch way i).1 + 1)) (lv' := [(3, .int (nI ((sc_run ch way i).1 + 1))), (7, .long (sc_c ch way i)), (0, .ref aF), (1, .int (nI sn)), (2, .int way), (4, .long (sc_run ch way i).2), (6, .int (nI i))]) hx hb dgX4_signChanges_77 hl (k := 4) rfl (nI_1 (sc_run ch way i).1) (by decide) rfl (fun ls hl => ?_)
                  refine lv_lload hx hb dgX4_signChanges_80 (lv_at hl 1 rfl) ?_
                  refine lv_lstore (lv' := [(4, .long (sc_c ch way i)), (3, .int (nI ((sc_run ch way i).1 + 1))), (7, .long (sc_c ch way i)), (0, .ref aF), (1, .int (nI sn)), (2, .int way), (6, .int (nI i))]) hx hb dgX4_signChanges_82 hl (by decide) rfl (fun ls hl => ?_)
                  refine lv_iinc (v := nI (i + 1)) (lv' := [(6, .int (nI (i + 1))), (4, .long (sc_c ch way i)), (3, .int (nI ((sc_run ch way i).1 + 1))), (7, .long (sc_c ch way i)), (0, .ref aF), (1, .int (nI sn)), (2, .int way)]) hx hb dgX4_signChanges_84 hl (k := 6) rfl (nI_1 i) (by decide) rfl (fun ls hl => ?_)
                  refine lv_goto (tgt := 8) hx hb dgX4_signChanges_87 (by decide) ?_
                  have hst : (sc_run ch way (i + 1)) = ((sc_run ch way i).1 + 1, (sc_c ch way i)) := (if_neg (fun h9 => c1 ((lg_cmp_eq _ _).mpr h9))).trans (if_pos (Or.inr ⟨(lg_cmp_gt _ _).mp (Int32.not_le.mp c6), (lg_cmp_lt _ _).mp (Int32.not_le.mp c7)⟩))
                  refine ih (i + 1) (by omega) H locs ls hP hS ?_
                  rw [hst]
                  exact (lv_sub hl [4, 5, 6, 2, 1, 0] rfl)
      refine lv_if_ge (tgt := 37) hx hb dgX4_signChanges_22 (by decide) (fun c8 => ?_) (fun c8 => ?_)
      · refine lv_iconst (v := 1) hx hb dgX4_signChanges_37 (by decide) ?_
        refine ow_topi (y := sc_w way i) (by rw [sc_w, if_neg (fun h9 => absurd h9.1 (Int32.not_lt.mpr c8))]) ?_
        exact K38 H locs ls hP hS (lv_sub hl [0, 1, 2, 3, 4, 5] rfl)
      · refine lv_iload hx hb dgX4_signChanges_25 (lv_at hl 5 rfl) ?_
        refine lv_iconst (v := 1) hx hb dgX4_signChanges_27 (by decide) ?_
        refine lv_iand hx hb dgX4_signChanges_28 ?_
        refine ow_topi (y := nI (i % 2)) (ow_and1 (n := i) (by omega)) ?_
        refine lv_iconst (v := 1) hx hb dgX4_signChanges_29 (by decide) ?_
        rcases Decidable.em (i % 2 = 1) with ho | ho
        · refine lv_icmp_ne (tgt := 37) hx hb dgX4_signChanges_30 (by decide) (fun c9 => absurd c9 (not_not_intro (congrArg nI ho))) (fun _ => ?_)
          refine lv_iconst (v := (-1)) hx hb dgX4_signChanges_33 (by decide) ?_
          refine lv_goto (tgt := 38) hx hb dgX4_signChanges_34 (by decide) ?_
          refine ow_topi (y := sc_w way i) (by rw [sc_w, if_pos ⟨Int32.not_le.mp c8, ho⟩]) ?_
          exact K38 H locs ls hP hS (lv_sub hl [0, 1, 2, 3, 4, 5] rfl)
        · refine lv_icmp_ne (tgt := 37) hx hb dgX4_signChanges_30 (by decide) (fun _ => ?_) (fun c9 => absurd c9 (fun h9 => ho (ow_nI_inj (b := 1) (by omega) (by decide) h9)))
          refine lv_iconst (v := 1) hx hb dgX4_signChanges_37 (by decide) ?_
          refine ow_topi (y := sc_w way i) (by rw [sc_w, if_neg (fun h9 => ho h9.2)]) ?_
          exact K38 H locs ls hP hS (lv_sub hl [0, 1, 2, 3, 4, 5] rfl)
  refine lv_iconst (v := 0) hx hb dgX4_signChanges_0 (by decide) ?_
  refine ow_topi (y := nI 0) (by decide) ?_
  refine lv_istore_n (lv' := [(3, .int (nI 0)), (0, .ref aF), (1, .int (nI sn)), (2, .int way)]) hx hb dgX4_signChanges_1 rfl hl (by decide) rfl (fun ls hl => ?_)
  refine lv_lconst (v := 0) hx hb dgX4_signChanges_2 rfl ?_
  refine lv_lstore (lv' := [(4, .long 0), (3, .int (nI 0)), (0, .ref aF), (1, .int (nI sn)), (2, .int way)]) hx hb dgX4_signChanges_3 hl (by decide) rfl (fun ls hl => ?_)
  refine lv_iconst (v := 0) hx hb dgX4_signChanges_5 (by decide) ?_
  refine ow_topi (y := nI 0) (by decide) ?_
  refine lv_istore (lv' := [(6, .int (nI 0)), (4, .long 0), (3, .int (nI 0)), (0, .ref aF), (1, .int (nI sn)), (2, .int way)]) hx hb dgX4_signChanges_6 hl (by decide) rfl (fun ls hl => ?_)
  exact L8 (sn + 1) 0 (by omega) s.heap [] ls hP hS (lv_sub hl [3, 4, 5, 2, 1, 0] rfl)
