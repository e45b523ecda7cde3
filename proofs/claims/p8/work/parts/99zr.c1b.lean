def ci_X1_b1 : List Nat := [43000]
def cw_X1_b1 (n : Nat) : Prop := n ∈ ci_X1_b1
theorem co_X1_b1 {n : Nat} (hn : cw_X1_b1 n) : tw_ob cT1 n 4 (cX_o1 n) := by
  have key : ∀ n, n ∈ ci_X1_b1 → (n ∈ cT1.1 ∧ cT1.2 n = (9, 4, cX_o1 n)) := by decide +kernel
  exact (key n hn)
theorem cr_X1_5_b1 {n : Nat} (hn : cw_X1_b1 n) : tw_in cT1 (n + 6) 5 := by
  have key : ∀ n, n ∈ ci_X1_b1 → (n + 6 ∈ cT1.1 ∧ (cT1.2 (n + 6)).1 = 5) := by decide +kernel
  exact (key n hn)
theorem cg_X1_5_b1 {n j : Nat} (hn : cw_X1_b1 n) (hj : j < 11) : tw_in cT1 (n + 2001 + j) 0 := by
  have key : ∀ n, n ∈ ci_X1_b1 → ∀ j, j < 11 → (n + 2001 + j ∈ cT1.1 ∧ (cT1.2 (n + 2001 + j)).1 = 0) := by decide +kernel
  exact (key n hn j hj)
theorem cn_X1_5_b1 {n : Nat} (hn : cw_X1_b1 n) : (cT1.2 (n + 6)).2.1 = 11 ∧ ∀ j, j < 11 → (cT1.2 (n + 6)).2.2[j]? = some (1, n + 2001 + j) := by
  have key : ∀ n, n ∈ ci_X1_b1 → ((cT1.2 (n + 6)).1 ≠ 0 ∧ (cT1.2 (n + 6)).2.1 = 11 ∧ ∀ j, j < 11 → (cT1.2 (n + 6)).2.2[j]? = some (1, n + 2001 + j)) := by decide +kernel
  exact (key n hn).2
def xA_0_b1 : List Cond := [.methodLink RX1 3 objectInit, .instanceMethod objectInit, .code objectInit ⟨#[0xb1]⟩ 1 none, .initialized RX7, .fieldLink RX1 12 "KnotHouse$Chains" "net" "LKnotHouse$Net;", .fieldLink RX1 18 "KnotHouse$Chains" "loopOf" "[B", .fieldLink RX1 22 "KnotHouse$Chains" "loops" "[I", .fieldLink RX1 26 "KnotHouse$Chains" "gapOf" "[B", .fieldLink RX1 29 "KnotHouse$Chains" "placeOf" "[I", .fieldLink RX1 34 "KnotHouse$Chains" "choose" "[[I", .fieldLink RX1 37 "KnotHouse$Chains" "plus" "[I", .fieldLink RX1 40 "KnotHouse$Chains" "begins" "[I", .fieldLink RX1 43 "KnotHouse$Chains" "sizes" "[I", .fieldLink RX1 46 "KnotHouse$Chains" "work" "[I", .fieldLink RX1 49 "KnotHouse$Chains" "rowFrom" "[I", .fieldLink RX1 52 "KnotHouse$Chains" "rowTo" "[I", .fieldLink RX1 55 "KnotHouse$Chains" "cleared" "[I", .fieldLink RX1 58 "KnotHouse$Chains" "columns" "[I", .fieldLink RX1 61 "KnotHouse$Chains" "values" "[I", .fieldLink RX1 64 "KnotHouse$Chains" "ranks" "[I", .instanceMethod yX7_init, .code yX7_init cX7_init 1 none, .methodLink RX7 3 objectInit, .fieldLink RX7 9 "KnotHouse$Net" "next" "[I", .fieldLink RX7 15 "KnotHouse$Net" "prev" "[I", .fieldLink RX7 18 "KnotHouse$Net" "sign" "[I", .fieldLink RX7 21 "KnotHouse$Net" "order" "[I", .fieldLink RX7 24 "KnotHouse$Net" "component" "[I", .fieldLink RX7 27 "KnotHouse$Net" "part" "[I", .fieldLink RX7 30 "KnotHouse$Net" "queue" "[I", .methodLink RX1 67 yJ6_bitCount_0f7a4, .static yJ6_bitCount_0f7a4, .initialized RJ6, .code yJ6_bitCount_0f7a4 cJ6_bitCount_0f7a4 1 (some .int), .constant RJ6 265 (1431655765), .constant RJ6 266 (858993459), .constant RJ6 267 (252645135), .code yX1_init cX1_init 3 none]
def wC_b1 : List Cond := xA_0_b1 ++ (wsX10)
theorem xq_9_b1 : (Cond.fieldLink RX1 34 "KnotHouse$Chains" "choose" "[[I") ∈ wC_b1 := List.mem_append_left _ (List.mem_of_getElem? (i := 9) rfl)
theorem wC_X1_b1 : ∀ w ∈ u_ws RX1 TX1 20, w ∈ wC_b1 := fun _ h => List.mem_append_right _ (h)
section CRULES
variable {p : Program} {l : Launch} {e : Env} {R : Room} {s : State} {m : MethodId} {args : Array Value} {below : List Frame} {meth : Method} {c : Code} {H : Heap} {locs : List Loc} {cells slots : Nat} {Q : State → Prop}
variable {cc : ByteArray} {pc : Nat} {ls : Array Slot} {rest : List Value} {D : va_G} {A : Nat → Prop} {H0 : Heap} {q : Nat → ClassId} {u : Nat → Nat} {z : ow_MS} {O : Type} {out : O}

theorem vgX1_34_b1 (hx : p.tables.exec = Jvm.exec) (hb : c.code = cc) (hT : ∀ w ∈ wC_b1, w.before args s = true) (hown : s.vm.findClass RX1 = some m.cls) (hK : va_K D vwCl (uw_T q RX7) s) (hM : uw_M D vwCl cT1 q A H0 u z H locs) {n : Nat} (hn : cw_X1_b1 n) (hdg : decode cc pc = .ok (.getfield 34, 3)) (kk : W p l e R s m args below meth c H locs cells slots Q (F0 m (pc + 3) ls (.ref (u (n + 6)) :: rest))) : W p l e R s m args below meth c H locs cells slots Q (F0 m pc ls (.ref (u n) :: rest)) := uw_getR (C := RX1) (T := TX1) (N := 20) cT1_ok hx hb hT wC_X1_b1 hown hK hM (co_X1_b1 hn) rfl 5 (by decide) (hT _ xq_9_b1) (fun _ h9 => h9) rfl hdg kk
theorem ca_X1_5_b1 (hx : p.tables.exec = Jvm.exec) (hb : c.code = cc) (hK : va_K D vwCl (uw_T q RX7) s) (hM : uw_M D vwCl cT1 q A H0 u z H locs) {n : Nat} (hn : cw_X1_b1 n) {i : Int32} {K : Nat → Option O} (hq : crX 11 i K = some out) (hdg : decode cc pc = .ok (.aaload, 1)) (kk : ∀ j, j < 11 → K j = some out → W p l e R s m args below meth c H locs cells slots Q (F0 m (pc + 1) ls (.ref (u (n + 2001 + j)) :: rest))) : W p l e R s m args below meth c H locs cells slots Q (F0 m pc ls (.int i :: .ref (u (n + 6)) :: rest)) := by
  obtain ⟨h1, h2⟩ := cn_X1_5_b1 hn
  refine uw_aaldI cT1_ok hx hb hK hM (cr_X1_5_b1 hn) (K := K) (out := out) (by rw [h1]; exact hq) (fun j hj => ⟨_, h2 j (by rw [← h1]; exact hj)⟩) hdg (fun j g hj hg hq => ?_)
  rw [h1] at hj
  rw [h2 j hj] at hg
  obtain rfl : n + 2001 + j = g := congrArg Prod.snd (Option.some.inj hg)
  exact kk j hj hq
end CRULES
def cm_X1i_0_b1 (K : Nat) (go : Nat → Int32 → Int32 → Nat → ow_MS → Option ow_MS) (x1 : Int32) (x2 : Int32) (r0 : Nat) (z : ow_MS) : Option ow_MS :=
 go 1 0 0 r0 z
def cm_X1i_1_b1 (K : Nat) (go : Nat → Int32 → Int32 → Nat → ow_MS → Option ow_MS) (x1 : Int32) (x2 : Int32) (r0 : Nat) (z : ow_MS) : Option ow_MS :=
 (if 10 < x1 then some z
 else crX 11 x1 fun j1 => ctI cT1 z (r0 + 2001 + j1) 0 1 fun z2 => go 2 x1 1 r0 z2)
def cm_X1i_2_b1 (K : Nat) (go : Nat → Int32 → Int32 → Nat → ow_MS → Option ow_MS) (x1 : Int32) (x2 : Int32) (r0 : Nat) (z : ow_MS) : Option ow_MS :=
 (if x1 < x2 then go 1 (x1 + 1) 0 r0 z
 else crX 11 x1 fun j3 => crX 11 (x1 - 1) fun j4 => crI cT1 z (r0 + 2001 + j4) (x2 - 1) fun v5 => crX 11 (x1 - 1) fun j6 => crI cT1 z (r0 + 2001 + j6) x2 fun v7 => ctI cT1 z (r0 + 2001 + j3) x2 (v5 + v7) fun z8 => go 2 x1 (x2 + 1) r0 z8)
def cb_X1i_b1 (K : Nat) (go : Nat → Int32 → Int32 → Nat → ow_MS → Option ow_MS) (L : Nat) (x1 : Int32) (x2 : Int32) (r0 : Nat) (z : ow_MS) : Option ow_MS := match L with
  | 0 => cm_X1i_0_b1 K go x1 x2 r0 z
  | 1 => cm_X1i_1_b1 K go x1 x2 r0 z
  | 2 => cm_X1i_2_b1 K go x1 x2 r0 z
  | _ => none
def c_X1i_b1 (K : Nat) : Nat → Nat → Int32 → Int32 → Nat → ow_MS → Option ow_MS
  | 0 => fun _ _ _ _ _ => none
  | k + 1 => cb_X1i_b1 K (c_X1i_b1 K k)
def ce_X1i_b1 (K : Nat) (r0 : Nat) (z : ow_MS) : Option ow_MS := c_X1i_b1 K K 0 0 0 r0 z
set_option maxHeartbeats 4000000 in
set_option maxRecDepth 100000 in
theorem kb_X1i_b1 {p : Program} {l : Launch} {e : Env} {s : State} {m : MethodId} {args : Array Value} {below : List Frame} {meth : Method} {c : Code} {QQ : State → Prop} {A : Nat → Prop} {D : va_G} {q : Nat → ClassId} {u : Nat → Nat} {c0t : Cond}  (hU : uw_inj cT1 u A) (hx : p.tables.exec = Jvm.exec) (hb : c.code = cX1_init) (hml : c.maxLocals = 3) (hown : s.vm.findClass RX1 = some m.cls) (hts : ∀ w ∈ c0t :: wC_b1, w.before args s = true) (hK : va_K D vwCl (uw_T q RX7) s) (K : Nat) (r0 : Nat) (hr0 : cw_X1_b1 r0) (z z1 : ow_MS) (hq : ce_X1i_b1 K r0 z = some z1) (H : Heap) (locs : List Loc) (ls : Array Slot) (hM : uw_M D vwCl cT1 q A s.heap u z H locs) (hl : lv_has ls 3 [(0, .ref (u r0))]) (kk : ∀ (H : Heap) (locs : List Loc) (ls : Array Slot), uw_M D vwCl cT1 q A s.heap u z1 H locs → lv_has ls 3 [(0, .ref (u r0))] → W p l e RI1 s m args below meth c H locs 34 51821 QQ (F0 m 219 ls [])) : W p l e RI1 s m args below meth c H locs 34 51821 QQ (F0 m 152 ls []) := by
  have hT : ∀ w ∈ wC_b1, w.before args s = true := fun w h => hts w (List.mem_cons_of_mem _ h)
  have key : ∀ k : Nat, (∀ (x1 : Int32) (x2 : Int32) (r0 : Nat) (z : ow_MS) (H : Heap) (locs : List Loc) (ls : Array Slot), cw_X1_b1 r0 → (∀ (H : Heap) (locs : List Loc) (ls : Array Slot), uw_M D vwCl cT1 q A s.heap u z1 H locs → lv_has ls 3 [(0, .ref (u r0))] → W p l e RI1 s m args below meth c H locs 34 51821 QQ (F0 m 219 ls [])) → uw_M D vwCl cT1 q A s.heap u z H locs → lv_has ls 3 [(0, .ref (u r0))] → c_X1i_b1 K k 0 x1 x2 r0 z = some z1 → W p l e RI1 s m args below meth c H locs 34 51821 QQ (F0 m 152 ls [])) ∧ (∀ (x1 : Int32) (x2 : Int32) (r0 : Nat) (z : ow_MS) (H : Heap) (locs : List Loc) (ls : Array Slot), cw_X1_b1 r0 → (∀ (H : Heap) (locs : List Loc) (ls : Array Slot), uw_M D vwCl cT1 q A s.heap u z1 H locs → lv_has ls 3 [(0, .ref (u r0))] → W p l e RI1 s m args below meth c H locs 34 51821 QQ (F0 m 219 ls [])) → uw_M D vwCl cT1 q A s.heap u z H locs → lv_has ls 3 [(0, .ref (u r0)), (1, .int x1)] → c_X1i_b1 K k 1 x1 x2 r0 z = some z1 → W p l e RI1 s m args below meth c H locs 34 51821 QQ (F0 m 154 ls [])) ∧ (∀ (x1 : Int32) (x2 : Int32) (r0 : Nat) (z : ow_MS) (H : Heap) (locs : List Loc) (ls : Array Slot), cw_X1_b1 r0 → (∀ (H : Heap) (locs : List Loc) (ls : Array Slot), uw_M D vwCl cT1 q A s.heap u z1 H locs → lv_has ls 3 [(0, .ref (u r0))] → W p l e RI1 s m args below meth c H locs 34 51821 QQ (F0 m 219 ls [])) → uw_M D vwCl cT1 q A s.heap u z H locs → lv_has ls 3 [(0, .ref (u r0)), (1, .int x1), (2, .int x2)] → c_X1i_b1 K k 2 x1 x2 r0 z = some z1 → W p l e RI1 s m args below meth c H locs 34 51821 QQ (F0 m 171 ls [])) := by
    intro k
    induction k with
    | zero => exact ⟨fun _ _ _ _ _ _ _ _ _ _ _ hq => tw_no hq, fun _ _ _ _ _ _ _ _ _ _ _ hq => tw_no hq, fun _ _ _ _ _ _ _ _ _ _ _ hq => tw_no hq⟩
    | succ k ih =>
      obtain ⟨ih_0, ih_1, ih_2⟩ := ih
      refine ⟨?_, ?_, ?_⟩
      · intro x1 x2 r0 z H locs ls hr0 kk hM hl hq
        have hq : cm_X1i_0_b1 K (c_X1i_b1 K k) x1 x2 r0 z = some z1 := hq
        unfold cm_X1i_0_b1 at hq
        refine lv_iconst (v := 0) hx hb dX1_init_152 (by decide) ?_
        refine lv_istore_n (lv' := [(1, .int 0), (0, .ref (u r0))]) hx hb dX1_init_153 rfl hl (by decide) rfl (fun ls hl => ?_)
        exact ih_1 0 0 r0 z H locs ls hr0 kk hM (lv_sub hl [1, 0] rfl) hq
      · intro x1 x2 r0 z H locs ls hr0 kk hM hl hq
        have hq : cm_X1i_1_b1 K (c_X1i_b1 K k) x1 x2 r0 z = some z1 := hq
        unfold cm_X1i_1_b1 at hq
        refine lv_iload_n hx hb dX1_init_154 rfl (lv_at hl 1 rfl) ?_
        refine lv_bipush (v := 10) hx hb dX1_init_155 (by decide) ?_
        refine lv_icmp_gt (tgt := 219) hx hb dX1_init_157 (by decide) (fun hc => ?_) (fun hc => ?_)
        · have hq := tw_it hq hc
          rw [Option.some.inj hq] at hM
          exact kk H locs ls hM (lv_sub hl [0] rfl)
        · have hq := tw_if hq hc
          refine lv_aload_n hx hb dX1_init_160 rfl (lv_at hl 0 rfl) ?_
          refine vgX1_34_b1 hx hb hT hown hK hM hr0 dX1_init_161 ?_
          refine lv_iload_n hx hb dX1_init_164 rfl (lv_at hl 1 rfl) ?_
          refine ca_X1_5_b1 hx hb hK hM hr0 hq dX1_init_165 (fun j1 hj1 hq => ?_)
          refine lv_iconst (v := 0) hx hb dX1_init_166 (by decide) ?_
          refine lv_iconst (v := 1) hx hb dX1_init_167 (by decide) ?_
          refine uw_iast cT1_ok hU hx hb hK hM (cg_X1_5_b1 hr0 hj1) hq dX1_init_168 (fun z2 H locs hM hq => ?_)
          refine lv_iconst (v := 1) hx hb dX1_init_169 (by decide) ?_
          refine lv_istore_n (lv' := [(2, .int 1), (0, .ref (u r0)), (1, .int x1)]) hx hb dX1_init_170 rfl hl (by decide) rfl (fun ls hl => ?_)
          exact ih_2 x1 1 r0 z2 H locs ls hr0 kk hM (lv_sub hl [1, 2, 0] rfl) hq
      · intro x1 x2 r0 z H locs ls hr0 kk hM hl hq
        have hq : cm_X1i_2_b1 K (c_X1i_b1 K k) x1 x2 r0 z = some z1 := hq
        unfold cm_X1i_2_b1 at hq
        refine lv_iload_n hx hb dX1_init_171 rfl (lv_at hl 2 rfl) ?_
        refine lv_iload_n hx hb dX1_init_172 rfl (lv_at hl 1 rfl) ?_
        refine lv_icmp_gt (tgt := 213) hx hb dX1_init_173 (by decide) (fun hc => ?_) (fun hc => ?_)
        · have hq := tw_it hq hc
          refine lv_iinc (v := (x1 + 1)) (lv' := [(1, .int (x1 + 1)), (0, .ref (u r0)), (2, .int x2)]) hx hb dX1_init_213 hl (k := 1) rfl rfl (by decide) rfl (fun ls hl => ?_)
          refine lv_goto (tgt := 154) hx hb dX1_init_216 (by decide) ?_
          exact ih_1 (x1 + 1) 0 r0 z H locs ls hr0 kk hM (lv_sub hl [1, 0] rfl) hq
        · have hq := tw_if hq hc
          refine lv_aload_n hx hb dX1_init_176 rfl (lv_at hl 0 rfl) ?_
          refine vgX1_34_b1 hx hb hT hown hK hM hr0 dX1_init_177 ?_
          refine lv_iload_n hx hb dX1_init_180 rfl (lv_at hl 1 rfl) ?_
          refine ca_X1_5_b1 hx hb hK hM hr0 hq dX1_init_181 (fun j3 hj3 hq => ?_)
          refine lv_iload_n hx hb dX1_init_182 rfl (lv_at hl 2 rfl) ?_
          refine lv_aload_n hx hb dX1_init_183 rfl (lv_at hl 0 rfl) ?_
          refine vgX1_34_b1 hx hb hT hown hK hM hr0 dX1_init_184 ?_
          refine lv_iload_n hx hb dX1_init_187 rfl (lv_at hl 1 rfl) ?_
          refine lv_iconst (v := 1) hx hb dX1_init_188 (by decide) ?_
          refine lv_isub hx hb dX1_init_189 ?_
          refine ca_X1_5_b1 hx hb hK hM hr0 hq dX1_init_190 (fun j4 hj4 hq => ?_)
          refine lv_iload_n hx hb dX1_init_191 rfl (lv_at hl 2 rfl) ?_
          refine lv_iconst (v := 1) hx hb dX1_init_192 (by decide) ?_
          refine lv_isub hx hb dX1_init_193 ?_
          refine uw_iald cT1_ok hx hb hK hM (cg_X1_5_b1 hr0 hj4) hq dX1_init_194 (fun v5 hq => ?_)
          refine lv_aload_n hx hb dX1_init_195 rfl (lv_at hl 0 rfl) ?_
          refine vgX1_34_b1 hx hb hT hown hK hM hr0 dX1_init_196 ?_
          refine lv_iload_n hx hb dX1_init_199 rfl (lv_at hl 1 rfl) ?_
          refine lv_iconst (v := 1) hx hb dX1_init_200 (by decide) ?_
          refine lv_isub hx hb dX1_init_201 ?_
          refine ca_X1_5_b1 hx hb hK hM hr0 hq dX1_init_202 (fun j6 hj6 hq => ?_)
          refine lv_iload_n hx hb dX1_init_203 rfl (lv_at hl 2 rfl) ?_
          refine uw_iald cT1_ok hx hb hK hM (cg_X1_5_b1 hr0 hj6) hq dX1_init_204 (fun v7 hq => ?_)
          refine lv_iadd hx hb dX1_init_205 ?_
          refine uw_iast cT1_ok hU hx hb hK hM (cg_X1_5_b1 hr0 hj3) hq dX1_init_206 (fun z8 H locs hM hq => ?_)
          refine lv_iinc (v := (x2 + 1)) (lv' := [(2, .int (x2 + 1)), (0, .ref (u r0)), (1, .int x1)]) hx hb dX1_init_207 hl (k := 2) rfl rfl (by decide) rfl (fun ls hl => ?_)
          refine lv_goto (tgt := 171) hx hb dX1_init_210 (by decide) ?_
          exact ih_2 x1 (x2 + 1) r0 z8 H locs ls hr0 kk hM (lv_sub hl [1, 2, 0] rfl) hq
  exact (key K).1 0 0 r0 z H locs ls hr0 kk hM hl hq
