def ci_X8_b8 : List Nat := [24000]
def cw_X8_b8 (n : Nat) : Prop := n ∈ ci_X8_b8
theorem co_X8_b8 {n : Nat} (hn : cw_X8_b8 n) : tw_ob cT8 n 11 (cX_o8 n) := by
  have key : ∀ n, n ∈ ci_X8_b8 → (n ∈ cT8.1 ∧ cT8.2 n = (9, 11, cX_o8 n)) := by decide +kernel
  exact (key n hn)
theorem cr_X8_4_b8 {n : Nat} (hn : cw_X8_b8 n) : tw_in cT8 (n + 5) 5 := by
  have key : ∀ n, n ∈ ci_X8_b8 → (n + 5 ∈ cT8.1 ∧ (cT8.2 (n + 5)).1 = 5) := by decide +kernel
  exact (key n hn)
theorem cg_X8_4_b8 {n j : Nat} (hn : cw_X8_b8 n) (hj : j < 24) : tw_in cT8 (n + 15001 + j) 0 := by
  have key : ∀ n, n ∈ ci_X8_b8 → ∀ j, j < 24 → (n + 15001 + j ∈ cT8.1 ∧ (cT8.2 (n + 15001 + j)).1 = 0) := by decide +kernel
  exact (key n hn j hj)
theorem cn_X8_4_b8 {n : Nat} (hn : cw_X8_b8 n) : (cT8.2 (n + 5)).2.1 = 24 ∧ ∀ j, j < 24 → (cT8.2 (n + 5)).2.2[j]? = some (1, n + 15001 + j) := by
  have key : ∀ n, n ∈ ci_X8_b8 → ((cT8.2 (n + 5)).1 ≠ 0 ∧ (cT8.2 (n + 5)).2.1 = 24 ∧ ∀ j, j < 24 → (cT8.2 (n + 5)).2.2[j]? = some (1, n + 15001 + j)) := by decide +kernel
  exact (key n hn).2
def xA_0_b8 : List Cond := [.methodLink RX8 3 objectInit, .instanceMethod objectInit, .code objectInit ⟨#[0xb1]⟩ 1 none, .initialized RX3, .fieldLink RX8 14 "KnotHouse$Polynomials" "known" "LKnotHouse$Codes;", .fieldLink RX8 22 "KnotHouse$Polynomials" "levels" "[LKnotHouse$Net;", .fieldLink RX8 26 "KnotHouse$Polynomials" "inOne" "[I", .fieldLink RX8 30 "KnotHouse$Polynomials" "inTwo" "[I", .fieldLink RX8 35 "KnotHouse$Polynomials" "choose" "[[I", .fieldLink RX8 38 "KnotHouse$Polynomials" "states" "[I", .fieldLink RX8 41 "KnotHouse$Polynomials" "partner" "[I", .initialized RX7, .fieldLink RX8 45 "KnotHouse$Polynomials" "net" "LKnotHouse$Net;", .methodLink RX8 11 yX3_init, .instanceMethod yX3_init, .code yX3_init cX3_init 2 none, .methodLink RX3 3 objectInit, .fieldLink RX3 9 "KnotHouse$Codes" "cells" "[B", .fieldLink RX3 15 "KnotHouse$Codes" "lengths" "[B", .fieldLink RX3 18 "KnotHouse$Codes" "crossings" "[B", .fieldLink RX3 21 "KnotHouse$Codes" "order" "[I", .instanceMethod yX7_init, .code yX7_init cX7_init 1 none, .methodLink RX7 3 objectInit, .fieldLink RX7 9 "KnotHouse$Net" "next" "[I", .fieldLink RX7 15 "KnotHouse$Net" "prev" "[I", .fieldLink RX7 18 "KnotHouse$Net" "sign" "[I", .fieldLink RX7 21 "KnotHouse$Net" "order" "[I", .fieldLink RX7 24 "KnotHouse$Net" "component" "[I", .fieldLink RX7 27 "KnotHouse$Net" "part" "[I", .fieldLink RX7 30 "KnotHouse$Net" "queue" "[I", .code yX8_init cX8_init 3 none]
def wC_b8 : List Cond := xA_0_b8 ++ (wsX80)
theorem xq_8_b8 : (Cond.fieldLink RX8 35 "KnotHouse$Polynomials" "choose" "[[I") ∈ wC_b8 := List.mem_append_left _ (List.mem_of_getElem? (i := 8) rfl)
theorem wC_X8_b8 : ∀ w ∈ u_ws RX8 TX8 9, w ∈ wC_b8 := fun _ h => List.mem_append_right _ (h)
section CRULES
variable {p : Program} {l : Launch} {e : Env} {R : Room} {s : State} {m : MethodId} {args : Array Value} {below : List Frame} {meth : Method} {c : Code} {H : Heap} {locs : List Loc} {cells slots : Nat} {Q : State → Prop}
variable {cc : ByteArray} {pc : Nat} {ls : Array Slot} {rest : List Value} {D : va_G} {A : Nat → Prop} {H0 : Heap} {q : Nat → ClassId} {u : Nat → Nat} {z : ow_MS} {O : Type} {out : O}

theorem vgX8_35_b8 (hx : p.tables.exec = Jvm.exec) (hb : c.code = cc) (hT : ∀ w ∈ wC_b8, w.before args s = true) (hown : s.vm.findClass RX8 = some m.cls) (hK : va_K D vwCl (uw_T q RX7) s) (hM : uw_M D vwCl cT8 q A H0 u z H locs) {n : Nat} (hn : cw_X8_b8 n) (hdg : decode cc pc = .ok (.getfield 35, 3)) (kk : W p l e R s m args below meth c H locs cells slots Q (F0 m (pc + 3) ls (.ref (u (n + 5)) :: rest))) : W p l e R s m args below meth c H locs cells slots Q (F0 m pc ls (.ref (u n) :: rest)) := uw_getR (C := RX8) (T := TX8) (N := 9) cT8_ok hx hb hT wC_X8_b8 hown hK hM (co_X8_b8 hn) rfl 4 (by decide) (hT _ xq_8_b8) (fun _ h9 => h9) rfl hdg kk
theorem ca_X8_4_b8 (hx : p.tables.exec = Jvm.exec) (hb : c.code = cc) (hK : va_K D vwCl (uw_T q RX7) s) (hM : uw_M D vwCl cT8 q A H0 u z H locs) {n : Nat} (hn : cw_X8_b8 n) {i : Int32} {K : Nat → Option O} (hq : crX 24 i K = some out) (hdg : decode cc pc = .ok (.aaload, 1)) (kk : ∀ j, j < 24 → K j = some out → W p l e R s m args below meth c H locs cells slots Q (F0 m (pc + 1) ls (.ref (u (n + 15001 + j)) :: rest))) : W p l e R s m args below meth c H locs cells slots Q (F0 m pc ls (.int i :: .ref (u (n + 5)) :: rest)) := by
  obtain ⟨h1, h2⟩ := cn_X8_4_b8 hn
  refine uw_aaldI cT8_ok hx hb hK hM (cr_X8_4_b8 hn) (K := K) (out := out) (by rw [h1]; exact hq) (fun j hj => ⟨_, h2 j (by rw [← h1]; exact hj)⟩) hdg (fun j g hj hg hq => ?_)
  rw [h1] at hj
  rw [h2 j hj] at hg
  obtain rfl : n + 15001 + j = g := congrArg Prod.snd (Option.some.inj hg)
  exact kk j hj hq
end CRULES
def cm_X8i_0_b8 (K : Nat) (go : Nat → Int32 → Int32 → Nat → ow_MS → Option ow_MS) (x1 : Int32) (x2 : Int32) (r0 : Nat) (z : ow_MS) : Option ow_MS :=
 go 1 0 0 r0 z
def cm_X8i_1_b8 (K : Nat) (go : Nat → Int32 → Int32 → Nat → ow_MS → Option ow_MS) (x1 : Int32) (x2 : Int32) (r0 : Nat) (z : ow_MS) : Option ow_MS :=
 (if 24 ≤ x1 then some z
 else crX 24 x1 fun j1 => ctI cT8 z (r0 + 15001 + j1) 0 1 fun z2 => go 2 x1 1 r0 z2)
def cm_X8i_2_b8 (K : Nat) (go : Nat → Int32 → Int32 → Nat → ow_MS → Option ow_MS) (x1 : Int32) (x2 : Int32) (r0 : Nat) (z : ow_MS) : Option ow_MS :=
 (if x1 < x2 then go 1 (x1 + 1) 0 r0 z
 else crX 24 x1 fun j3 => crX 24 (x1 - 1) fun j4 => crI cT8 z (r0 + 15001 + j4) (x2 - 1) fun v5 => crX 24 (x1 - 1) fun j6 => crI cT8 z (r0 + 15001 + j6) x2 fun v7 => ctI cT8 z (r0 + 15001 + j3) x2 (v5 + v7) fun z8 => go 2 x1 (x2 + 1) r0 z8)
def cb_X8i_b8 (K : Nat) (go : Nat → Int32 → Int32 → Nat → ow_MS → Option ow_MS) (L : Nat) (x1 : Int32) (x2 : Int32) (r0 : Nat) (z : ow_MS) : Option ow_MS := match L with
  | 0 => cm_X8i_0_b8 K go x1 x2 r0 z
  | 1 => cm_X8i_1_b8 K go x1 x2 r0 z
  | 2 => cm_X8i_2_b8 K go x1 x2 r0 z
  | _ => none
def c_X8i_b8 (K : Nat) : Nat → Nat → Int32 → Int32 → Nat → ow_MS → Option ow_MS
  | 0 => fun _ _ _ _ _ => none
  | k + 1 => cb_X8i_b8 K (c_X8i_b8 K k)
def ce_X8i_b8 (K : Nat) (r0 : Nat) (z : ow_MS) : Option ow_MS := c_X8i_b8 K K 0 0 0 r0 z
set_option maxHeartbeats 4000000 in
set_option maxRecDepth 100000 in
theorem kb_X8i_b8 {p : Program} {l : Launch} {e : Env} {s : State} {m : MethodId} {args : Array Value} {below : List Frame} {meth : Method} {c : Code} {QQ : State → Prop} {A : Nat → Prop} {D : va_G} {q : Nat → ClassId} {u : Nat → Nat} {c0t : Cond}  (hU : uw_inj cT8 u A) (hx : p.tables.exec = Jvm.exec) (hb : c.code = cX8_init) (hml : c.maxLocals = 3) (hown : s.vm.findClass RX8 = some m.cls) (hts : ∀ w ∈ c0t :: wC_b8, w.before args s = true) (hK : va_K D vwCl (uw_T q RX7) s) (K : Nat) (r0 : Nat) (hr0 : cw_X8_b8 r0) (z z1 : ow_MS) (hq : ce_X8i_b8 K r0 z = some z1) (H : Heap) (locs : List Loc) (ls : Array Slot) (hM : uw_M D vwCl cT8 q A s.heap u z H locs) (hl : lv_has ls 3 [(0, .ref (u r0))]) (kk : ∀ (H : Heap) (locs : List Loc) (ls : Array Slot), uw_M D vwCl cT8 q A s.heap u z1 H locs → lv_has ls 3 [(0, .ref (u r0))] → W p l e RI8 s m args below meth c H locs 147 8684 QQ (F0 m 179 ls [])) : W p l e RI8 s m args below meth c H locs 147 8684 QQ (F0 m 112 ls []) := by
  have hT : ∀ w ∈ wC_b8, w.before args s = true := fun w h => hts w (List.mem_cons_of_mem _ h)
  have key : ∀ k : Nat, (∀ (x1 : Int32) (x2 : Int32) (r0 : Nat) (z : ow_MS) (H : Heap) (locs : List Loc) (ls : Array Slot), cw_X8_b8 r0 → (∀ (H : Heap) (locs : List Loc) (ls : Array Slot), uw_M D vwCl cT8 q A s.heap u z1 H locs → lv_has ls 3 [(0, .ref (u r0))] → W p l e RI8 s m args below meth c H locs 147 8684 QQ (F0 m 179 ls [])) → uw_M D vwCl cT8 q A s.heap u z H locs → lv_has ls 3 [(0, .ref (u r0))] → c_X8i_b8 K k 0 x1 x2 r0 z = some z1 → W p l e RI8 s m args below meth c H locs 147 8684 QQ (F0 m 112 ls [])) ∧ (∀ (x1 : Int32) (x2 : Int32) (r0 : Nat) (z : ow_MS) (H : Heap) (locs : List Loc) (ls : Array Slot), cw_X8_b8 r0 → (∀ (H : Heap) (locs : List Loc) (ls : Array Slot), uw_M D vwCl cT8 q A s.heap u z1 H locs → lv_has ls 3 [(0, .ref (u r0))] → W p l e RI8 s m args below meth c H locs 147 8684 QQ (F0 m 179 ls [])) → uw_M D vwCl cT8 q A s.heap u z H locs → lv_has ls 3 [(0, .ref (u r0)), (1, .int x1)] → c_X8i_b8 K k 1 x1 x2 r0 z = some z1 → W p l e RI8 s m args below meth c H locs 147 8684 QQ (F0 m 114 ls [])) ∧ (∀ (x1 : Int32) (x2 : Int32) (r0 : Nat) (z : ow_MS) (H : Heap) (locs : List Loc) (ls : Array Slot), cw_X8_b8 r0 → (∀ (H : Heap) (locs : List Loc) (ls : Array Slot), uw_M D vwCl cT8 q A s.heap u z1 H locs → lv_has ls 3 [(0, .ref (u r0))] → W p l e RI8 s m args below meth c H locs 147 8684 QQ (F0 m 179 ls [])) → uw_M D vwCl cT8 q A s.heap u z H locs → lv_has ls 3 [(0, .ref (u r0)), (1, .int x1), (2, .int x2)] → c_X8i_b8 K k 2 x1 x2 r0 z = some z1 → W p l e RI8 s m args below meth c H locs 147 8684 QQ (F0 m 131 ls [])) := by
    intro k
    induction k with
    | zero => exact ⟨fun _ _ _ _ _ _ _ _ _ _ _ hq => tw_no hq, fun _ _ _ _ _ _ _ _ _ _ _ hq => tw_no hq, fun _ _ _ _ _ _ _ _ _ _ _ hq => tw_no hq⟩
    | succ k ih =>
      obtain ⟨ih_0, ih_1, ih_2⟩ := ih
      refine ⟨?_, ?_, ?_⟩
      · intro x1 x2 r0 z H locs ls hr0 kk hM hl hq
        have hq : cm_X8i_0_b8 K (c_X8i_b8 K k) x1 x2 r0 z = some z1 := hq
        unfold cm_X8i_0_b8 at hq
        refine lv_iconst (v := 0) hx hb dX8_init_112 (by decide) ?_
        refine lv_istore_n (lv' := [(1, .int 0), (0, .ref (u r0))]) hx hb dX8_init_113 rfl hl (by decide) rfl (fun ls hl => ?_)
        exact ih_1 0 0 r0 z H locs ls hr0 kk hM (lv_sub hl [1, 0] rfl) hq
      · intro x1 x2 r0 z H locs ls hr0 kk hM hl hq
        have hq : cm_X8i_1_b8 K (c_X8i_b8 K k) x1 x2 r0 z = some z1 := hq
        unfold cm_X8i_1_b8 at hq
        refine lv_iload_n hx hb dX8_init_114 rfl (lv_at hl 1 rfl) ?_
        refine lv_bipush (v := 24) hx hb dX8_init_115 (by decide) ?_
        refine lv_icmp_ge (tgt := 179) hx hb dX8_init_117 (by decide) (fun hc => ?_) (fun hc => ?_)
        · have hq := tw_it hq hc
          rw [Option.some.inj hq] at hM
          exact kk H locs ls hM (lv_sub hl [0] rfl)
        · have hq := tw_if hq hc
          refine lv_aload_n hx hb dX8_init_120 rfl (lv_at hl 0 rfl) ?_
          refine vgX8_35_b8 hx hb hT hown hK hM hr0 dX8_init_121 ?_
          refine lv_iload_n hx hb dX8_init_124 rfl (lv_at hl 1 rfl) ?_
          refine ca_X8_4_b8 hx hb hK hM hr0 hq dX8_init_125 (fun j1 hj1 hq => ?_)
          refine lv_iconst (v := 0) hx hb dX8_init_126 (by decide) ?_
          refine lv_iconst (v := 1) hx hb dX8_init_127 (by decide) ?_
          refine uw_iast cT8_ok hU hx hb hK hM (cg_X8_4_b8 hr0 hj1) hq dX8_init_128 (fun z2 H locs hM hq => ?_)
          refine lv_iconst (v := 1) hx hb dX8_init_129 (by decide) ?_
          refine lv_istore_n (lv' := [(2, .int 1), (0, .ref (u r0)), (1, .int x1)]) hx hb dX8_init_130 rfl hl (by decide) rfl (fun ls hl => ?_)
          exact ih_2 x1 1 r0 z2 H locs ls hr0 kk hM (lv_sub hl [1, 2, 0] rfl) hq
      · intro x1 x2 r0 z H locs ls hr0 kk hM hl hq
        have hq : cm_X8i_2_b8 K (c_X8i_b8 K k) x1 x2 r0 z = some z1 := hq
        unfold cm_X8i_2_b8 at hq
        refine lv_iload_n hx hb dX8_init_131 rfl (lv_at hl 2 rfl) ?_
        refine lv_iload_n hx hb dX8_init_132 rfl (lv_at hl 1 rfl) ?_
        refine lv_icmp_gt (tgt := 173) hx hb dX8_init_133 (by decide) (fun hc => ?_) (fun hc => ?_)
        · have hq := tw_it hq hc
          refine lv_iinc (v := (x1 + 1)) (lv' := [(1, .int (x1 + 1)), (0, .ref (u r0)), (2, .int x2)]) hx hb dX8_init_173 hl (k := 1) rfl rfl (by decide) rfl (fun ls hl => ?_)
          refine lv_goto (tgt := 114) hx hb dX8_init_176 (by decide) ?_
          exact ih_1 (x1 + 1) 0 r0 z H locs ls hr0 kk hM (lv_sub hl [1, 0] rfl) hq
        · have hq := tw_if hq hc
          refine lv_aload_n hx hb dX8_init_136 rfl (lv_at hl 0 rfl) ?_
          refine vgX8_35_b8 hx hb hT hown hK hM hr0 dX8_init_137 ?_
          refine lv_iload_n hx hb dX8_init_140 rfl (lv_at hl 1 rfl) ?_
          refine ca_X8_4_b8 hx hb hK hM hr0 hq dX8_init_141 (fun j3 hj3 hq => ?_)
          refine lv_iload_n hx hb dX8_init_142 rfl (lv_at hl 2 rfl) ?_
          refine lv_aload_n hx hb dX8_init_143 rfl (lv_at hl 0 rfl) ?_
          refine vgX8_35_b8 hx hb hT hown hK hM hr0 dX8_init_144 ?_
          refine lv_iload_n hx hb dX8_init_147 rfl (lv_at hl 1 rfl) ?_
          refine lv_iconst (v := 1) hx hb dX8_init_148 (by decide) ?_
          refine lv_isub hx hb dX8_init_149 ?_
          refine ca_X8_4_b8 hx hb hK hM hr0 hq dX8_init_150 (fun j4 hj4 hq => ?_)
          refine lv_iload_n hx hb dX8_init_151 rfl (lv_at hl 2 rfl) ?_
          refine lv_iconst (v := 1) hx hb dX8_init_152 (by decide) ?_
          refine lv_isub hx hb dX8_init_153 ?_
          refine uw_iald cT8_ok hx hb hK hM (cg_X8_4_b8 hr0 hj4) hq dX8_init_154 (fun v5 hq => ?_)
          refine lv_aload_n hx hb dX8_init_155 rfl (lv_at hl 0 rfl) ?_
          refine vgX8_35_b8 hx hb hT hown hK hM hr0 dX8_init_156 ?_
          refine lv_iload_n hx hb dX8_init_159 rfl (lv_at hl 1 rfl) ?_
          refine lv_iconst (v := 1) hx hb dX8_init_160 (by decide) ?_
          refine lv_isub hx hb dX8_init_161 ?_
          refine ca_X8_4_b8 hx hb hK hM hr0 hq dX8_init_162 (fun j6 hj6 hq => ?_)
          refine lv_iload_n hx hb dX8_init_163 rfl (lv_at hl 2 rfl) ?_
          refine uw_iald cT8_ok hx hb hK hM (cg_X8_4_b8 hr0 hj6) hq dX8_init_164 (fun v7 hq => ?_)
          refine lv_iadd hx hb dX8_init_165 ?_
          refine uw_iast cT8_ok hU hx hb hK hM (cg_X8_4_b8 hr0 hj3) hq dX8_init_166 (fun z8 H locs hM hq => ?_)
          refine lv_iinc (v := (x2 + 1)) (lv' := [(2, .int (x2 + 1)), (0, .ref (u r0)), (1, .int x1)]) hx hb dX8_init_167 hl (k := 2) rfl rfl (by decide) rfl (fun ls hl => ?_)
          refine lv_goto (tgt := 131) hx hb dX8_init_170 (by decide) ?_
          exact ih_2 x1 (x2 + 1) r0 z8 H locs ls hr0 kk hM (lv_sub hl [1, 2, 0] rfl) hq
  exact (key K).1 0 0 r0 z H locs ls hr0 kk hM hl hq
