theorem ddJ7_copyOf_59c91_0 : decode cJ7_copyOf_59c91 0 = .ok (.iload_n 1, 1) := by decide +kernel
theorem ddJ7_copyOf_59c91_1 : decode cJ7_copyOf_59c91 1 = .ok (.aload_n 0, 1) := by decide +kernel
theorem ddJ7_copyOf_59c91_2 : decode cJ7_copyOf_59c91 2 = .ok (.arraylength, 1) := by decide +kernel
theorem ddJ7_copyOf_59c91_3 : decode cJ7_copyOf_59c91 3 = .ok (.if_icmp .ne 11, 3) := by decide +kernel
theorem ddJ7_copyOf_59c91_14 : decode cJ7_copyOf_59c91 14 = .ok (.iload_n 1, 1) := by decide +kernel
theorem ddJ7_copyOf_59c91_15 : decode cJ7_copyOf_59c91 15 = .ok (.newarray .int, 2) := by decide +kernel
theorem ddJ7_copyOf_59c91_17 : decode cJ7_copyOf_59c91 17 = .ok (.astore_n 2, 1) := by decide +kernel
theorem ddJ7_copyOf_59c91_18 : decode cJ7_copyOf_59c91 18 = .ok (.aload_n 0, 1) := by decide +kernel
theorem ddJ7_copyOf_59c91_19 : decode cJ7_copyOf_59c91 19 = .ok (.iconst 0, 1) := by decide +kernel
theorem ddJ7_copyOf_59c91_20 : decode cJ7_copyOf_59c91 20 = .ok (.aload_n 2, 1) := by decide +kernel
theorem ddJ7_copyOf_59c91_21 : decode cJ7_copyOf_59c91 21 = .ok (.iconst 0, 1) := by decide +kernel
theorem ddJ7_copyOf_59c91_22 : decode cJ7_copyOf_59c91 22 = .ok (.aload_n 0, 1) := by decide +kernel
theorem ddJ7_copyOf_59c91_23 : decode cJ7_copyOf_59c91 23 = .ok (.arraylength, 1) := by decide +kernel
theorem ddJ7_copyOf_59c91_24 : decode cJ7_copyOf_59c91 24 = .ok (.iload_n 1, 1) := by decide +kernel
theorem ddJ7_copyOf_59c91_25 : decode cJ7_copyOf_59c91 25 = .ok (.invokestatic 304, 3) := by decide +kernel
theorem ddJ7_copyOf_59c91_28 : decode cJ7_copyOf_59c91 28 = .ok (.invokestatic 150, 3) := by decide +kernel
theorem ddJ7_copyOf_59c91_31 : decode cJ7_copyOf_59c91 31 = .ok (.aload_n 2, 1) := by decide +kernel
theorem ddJ7_copyOf_59c91_32 : decode cJ7_copyOf_59c91 32 = .ok (.areturn, 1) := by decide +kernel
def wD : List Cond := .arrayClass .int :: wC
theorem wD_good : wD.all goodWord = true := by decide +kernel
abbrev wc_copyOf : List Cond := .code yJ7_copyOf_59c91 cJ7_copyOf_59c91 3 (some (.array .int)) :: wD
set_option maxHeartbeats 4000000 in
set_option maxRecDepth 100000 in
theorem kd_copyOf (l : Launch) (D : va_G) (q : Nat → ClassId) (a N : Nat) (f : Nat → Int32) (n : Int32) (hn0 : ¬ n < 0) (hn1 : n.toNatClampNeg ≤ 100000000) (hn2 : N < n.toNatClampNeg) (sz : Nat) : Met l yJ7_copyOf_59c91 wc_copyOf ({ frames := 1, cells := 1, slots := n.toNatClampNeg, locals := 60 } : Room) (va_Pc [.ref a, .int n] (fun U => U.heap.size = sz ∧ va_P D vwCl [(a, .inl (q 0, N, .inl f))] U.heap ∧ va_K D vwCl (uw_T q RX7) U ∧ va_D (fun _ => True) [(a, .inl (q 0, N, .inl f))])) (va_Qr (fun (_ : Unit) => True) (fun _ ra t => va_P D vwCl [(a, .inl (q 0, N, .inl f)), (ra, .inl (q 0, n.toNatClampNeg, .inl (va_cpy f (fun _ => 0) 0 0 N)))] t.heap ∧ va_D (va_A [(a, .inl (q 0, N, .inl f))] sz) [(a, .inl (q 0, N, .inl f)), (ra, .inl (q 0, n.toNatClampNeg, .inl (va_cpy f (fun _ => 0) 0 0 N)))]) (va_A [(a, .inl (q 0, N, .inl f))] sz)) 1 n.toNatClampNeg (va_A [(a, .inl (q 0, N, .inl f))] sz) := by
  refine Met.ofW (cc := cJ7_copyOf_59c91) (maxL := 3) (ret := (some (.array .int))) (by decide) rfl ?_
  intro p e s m args below meth c s₁ B hml hv
  obtain ⟨rfl, hsz, hP, hK, hD0⟩ := hv
  have hx := B.exec
  have hb := B.bytes
  have hr := B.returns
  have hts := atoms_spec (ws := wc_copyOf) B.pre
  have hT : ∀ w ∈ wD, w.before ([.ref a, .int n] : List Value).toArray s = true := fun w h => hts w (List.mem_cons_of_mem _ h)
  have hown : s.vm.findClass RJ7 = some m.cls := findClass_of_methodNamed B.named
  have hlocks := B.notSynchronized
  subst hsz
  have hD := hD0.self (sz := s.heap.size)
  have hA : ∀ q1 : Nat, s.heap.size ≤ q1 → va_A [(a, .inl (q 0, N, .inl f))] s.heap.size q1 := fun q1 h => Or.inr h
  have hS : va_S (va_A [(a, .inl (q 0, N, .inl f))] s.heap.size) s.heap s.heap [] := va_S.rf
  have hl := lv_entry ([.ref a, .int n]) (n := 3) (Nat.le_of_ble_eq_true rfl)
  rw [lg_entry_eq]
  generalize (lg_sl ([.ref a, .int n]) ++ List.replicate (3 - (lg_sl ([.ref a, .int n])).length) Slot.unset).toArray = ls at hl ⊢
  have hl : lv_has ls 3 [(0, .ref a), (1, .int n)] := hl
  have eN : (nI N).toNatClampNeg = N := nI_clamp (by omega)
  refine ow_named (fun QQ hQQ => ?_)
  refine lv_iload_n hx hb ddJ7_copyOf_59c91_0 rfl (lv_at hl 1 rfl) ?_
  refine lv_aload_n hx hb ddJ7_copyOf_59c91_1 rfl (lv_at hl 0 rfl) ?_
  refine va_alen (v := nI N) hx hb hK hP 0 0 rfl rfl rfl ddJ7_copyOf_59c91_2 ?_
  refine lv_icmp_ne (tgt := 14) hx hb ddJ7_copyOf_59c91_3 (by decide) (fun _ => ?_) (fun c9 => absurd (by rw [c9, eN]) (Nat.ne_of_gt hn2))
  refine lv_iload_n hx hb ddJ7_copyOf_59c91_14 rfl (lv_at hl 1 rfl) ?_
  refine ow_newa (N' := n.toNatClampNeg) (a0 := (n.toNatClampNeg, .inl (fun _ => 0))) (ty := .int) hx hb (hT (.arrayClass .int) List.mem_cons_self) rfl hK hP hD hS hA 0 rfl (fun _ h => h) (fun _ => rfl) hn0 rfl (by show n.toNatClampNeg * 4 ≤ 536870912; omega) (by show 0 + 1 ≤ 1; omega) (by show 0 + n.toNatClampNeg ≤ n.toNatClampNeg; omega) ddJ7_copyOf_59c91_15 (fun ra H1 hP hD hS => ?_)
  have hP : va_P D vwCl [(a, .inl (q 0, N, .inl f)), (ra, .inl (q 0, n.toNatClampNeg, .inl (fun _ => 0)))] H1 := hP
  have hD : va_D (va_A [(a, .inl (q 0, N, .inl f))] s.heap.size) [(a, .inl (q 0, N, .inl f)), (ra, .inl (q 0, n.toNatClampNeg, .inl (fun _ => 0)))] := hD
  refine lv_astore_n (lv' := [(2, .ref ra), (0, .ref a), (1, .int n)]) hx hb ddJ7_copyOf_59c91_17 rfl hl (by decide) rfl (fun ls hl => ?_)
  refine lv_aload_n hx hb ddJ7_copyOf_59c91_18 rfl (lv_at hl 1 rfl) ?_
  refine lv_iconst (v := 0) hx hb ddJ7_copyOf_59c91_19 (by decide) ?_
  refine lv_aload_n hx hb ddJ7_copyOf_59c91_20 rfl (lv_at hl 0 rfl) ?_
  refine lv_iconst (v := 0) hx hb ddJ7_copyOf_59c91_21 (by decide) ?_
  refine lv_aload_n hx hb ddJ7_copyOf_59c91_22 rfl (lv_at hl 1 rfl) ?_
  refine va_alen (v := nI N) hx hb hK hP 0 0 rfl rfl rfl ddJ7_copyOf_59c91_23 ?_
  refine lv_iload_n hx hb ddJ7_copyOf_59c91_24 rfl (lv_at hl 2 rfl) ?_
  refine va_mmin hx hb (by rw [hml]; exact hl.1.symm) hown (hT _ (List.mem_cons_of_mem _ xq_255)) (hT _ (List.mem_cons_of_mem _ xq_76)) (hT _ (List.mem_cons_of_mem _ xq_18)) (hT _ (List.mem_cons_of_mem _ xq_77)) (Nat.le_of_ble_eq_true rfl) (Nat.le_of_ble_eq_true rfl) (by show 0 + 1 ≤ 1; omega) (by show 0 + n.toNatClampNeg ≤ n.toNatClampNeg; omega) ddJ7_copyOf_59c91_25 ?_
  have hmin : (if n < nI N then n else nI N) = nI N := by
    apply if_neg
    intro c9
    have h1 := Int32.lt_iff_toInt_lt.mp c9
    have h2 : n.toInt = (n.toNatClampNeg : Int) := by
      have h3 := Int32.not_lt.mp hn0
      have h4 : (0 : Int) ≤ n.toInt := Int32.le_iff_toInt_le.mp h3
      exact (Int.toNat_of_nonneg h4).symm
    have h5 : (nI N).toInt = (N : Int) := by
      have h6 : (0 : Int) ≤ (nI N).toInt := Int32.le_iff_toInt_le.mp (nI_pos' (by omega))
      have h7 : ((nI N).toInt.toNat : Int) = (nI N).toInt := Int.toNat_of_nonneg h6
      have h8 : (nI N).toInt.toNat = N := eN
      omega
    omega
  refine ow_topi (y := nI N) hmin ?_
  refine va_copyi (ty := .int) hx hb (by rw [hml]; exact hl.1.symm) hown (hT _ (List.mem_cons_of_mem _ xq_256)) (hT _ (List.mem_cons_of_mem _ xq_130)) (hT _ (List.mem_cons_of_mem _ xq_131)) (hT _ (List.mem_cons_of_mem _ xq_132)) hK hP hD hS 0 1 0 0 rfl rfl rfl rfl rfl (by decide) (by decide) (nI_pos (by omega)) (by rw [eN]; exact Nat.le_of_eq (Nat.zero_add N)) (by rw [eN]; exact Nat.le_of_lt (Nat.lt_of_le_of_lt (Nat.le_of_eq (Nat.zero_add N)) hn2)) (fun _ _ => rfl) (Nat.le_of_ble_eq_true rfl) (Nat.le_of_ble_eq_true rfl) ddJ7_copyOf_59c91_28 (fun H2 locs2 hP hD hS => ?_)
  rw [eN] at hP hD
  refine lv_aload_n hx hb ddJ7_copyOf_59c91_31 rfl (lv_at hl 0 rfl) ?_
  rw [hQQ]
  refine W.widen (k := 1) (n := n.toNatClampNeg) (by omega) (by omega) ?_
  exact W.aret hx hb hr (Or.inr ⟨_, rfl⟩) (Or.inr ⟨_, rfl⟩) (fun t ht hW => ⟨⟨(), ra, rfl, trivial, by rw [ht]; exact hP, hD⟩, hS.F ht⟩) hS.2.2 ddJ7_copyOf_59c91_32
theorem dw_gbc {c0 : Cond} {own : String} {idx : Nat} (h : Cond.methodLink own idx yJ6_bitCount_0f7a4 ∈ wC) : GoodIn (c0 :: wD) (va_wsS own idx yJ6_bitCount_0f7a4 wsJ6_bitCount_0f7a4) := by
  intro w hw
  obtain ⟨h1, h2⟩ := cw_gbc (c0 := c0) h w hw
  refine ⟨?_, h2⟩
  rcases List.mem_cons.mp h1 with h3 | h3
  · rw [h3]
    exact List.mem_cons_self
  · exact List.mem_cons_of_mem _ (List.mem_cons_of_mem _ h3)
theorem ns_X1 {n : Nat} (h : cw_X1 n) : n ∉ dynL := by
  have key : ∀ n, n ∈ ci_X1 → n ∉ dynL := by decide +kernel
  exact key n h
theorem ns_X7 {n : Nat} (h : cw_X7 n) : n ∉ dynL := by
  have key : ∀ n, n ∈ ci_X7 → n ∉ dynL := by decide +kernel
  exact key n h
def cw_preD (D : va_G) (q : Nat → ClassId) (vl u : Nat → Nat) (z : ow_MS) (sz : Nat) (U : State) : Prop := U.heap.size = sz ∧ va_P D vwCl (uw (cX vl) q u z) U.heap ∧ va_K D vwCl (uw_T q RX7) U
section DCALL
variable {p : Program} {l : Launch} {e : Env} {R : Room} {s : State} {m : MethodId} {args : Array Value} {below : List Frame} {meth : Method} {c : Code} {H : Heap} {locs : List Loc} {cells slots : Nat} {Q : State → Prop}
variable {cc : ByteArray} {pc : Nat} {ls : Array Slot} {rest : List Value} {D : va_G} {A : Nat → Prop} {H0 : Heap} {q : Nat → ClassId} {vl u vl0 u0 vl1 vlE : Nat → Nat} {z z1 : ow_MS} {O : Type} {out : O}
theorem dd_sub (hA : ∀ q, H0.size ≤ q → A q) (hU : uw_inj (cX vl) u A) (hz : H0.size ≤ H.size) {a : Nat} (h : cd_A u H.size a) : A a := by
  rcases h with ⟨g, hg, rfl⟩ | h
  · exact hU.2 g hg
  · exact hA a (Nat.le_trans hz h)
theorem dd_preV (hK : va_K D vwCl (uw_T q RX7) s) (hM : uw_M D vwCl (cX vl) q A H0 u z H locs) {h ci : Nat} {fs : List (Nat × Nat)} (hh : tw_ob (cX vl) h ci fs) {r : vw_C} (hc : vwCl[ci]? = some r) {As : List Value} : PreV s H r.1 (u h) (va_Pc (.ref (u h) :: As) (cw_preD D q vl u z H.size)) As := by
  obtain ⟨k, hk, _⟩ := uw_at cX_ok hh.1
  have h1 := hk q u z
  rw [uw_c9 q u z hh] at h1
  exact ⟨fun a U g mk q => by obtain ⟨q0, q1, qP, qK⟩ := q; exact ⟨q0, q1, qP, va_K.moved (u := U) (U := U.calling g mk a) (Vm.Alike.refl U.vm) qK⟩, va_recv hK hM.1 hc h1, fun U hU hW => ⟨rfl, by rw [hU], by rw [hU]; exact hM.1, va_K.moved hW.alike hK⟩⟩
theorem dd_cali {a : Array Value} {st0 : List Value} {r : Int32} (hA : ∀ q, H0.size ≤ q → A q) (hU : uw_inj (cX vl) u A) (hM : uw_M D vwCl (cX vl) q A H0 u z H locs) (h0 : dPhi vl0 ≤ dPhi vl) (h1 : dPhi vl ≤ dPhi vl1) (hr : va_Run p l e R s m args below meth c H locs (dca vl0 vl) (dsl vl0 vl) (dca vl vl1) (dsl vl vl1) (F0 m pc ls st0) rest (va_Qi (fun x (u1 : Nat → Nat) => x = r ∧ cd_U u u1 H.size) (fun u1 t => va_P D vwCl (uw (cX vl1) q u1 z1) t.heap) (cd_A u H.size) a) (cd_A u H.size)) (kk : ∀ (u1 : Nat → Nat) (H1 : Heap) (locs1 : List Loc), uw_inj (cX vl1) u1 A → (∀ h, h ∉ dynL → u1 h = u h) → uw_M D vwCl (cX vl1) q A H0 u1 z1 H1 locs1 → W p l e R s m args below meth c H1 locs1 (dca vl0 vl1) (dsl vl0 vl1) Q (F0 m (pc + 3) ls (.int r :: rest))) : W p l e R s m args below meth c H locs (dca vl0 vl) (dsl vl0 vl) Q (F0 m pc ls st0) := by
  refine va_calli hr hM.2 (fun _ _ h => dd_sub hA hU hM.2.1 h) (fun _ h => dd_sub hA hU hM.2.1 h) (fun r1 u1 t H1 locs1 ht _ hw hB _ _ hS => ?_)
  obtain ⟨rfl, hu1, hu2, hu3⟩ := hw
  refine W.widen (k := dca vl0 vl1) (n := dsl vl0 vl1) (dca_add h0 h1) (dsl_add h0 h1) ?_
  exact kk u1 H1 locs1 ⟨hu1, fun h hh => dd_sub hA hU hM.2.1 (hu2 h hh)⟩ hu3 ⟨by rw [← ht]; exact hB, hS⟩
theorem dd_calv {a : Array Value} {st0 : List Value} (hA : ∀ q, H0.size ≤ q → A q) (hU : uw_inj (cX vl) u A) (hM : uw_M D vwCl (cX vl) q A H0 u z H locs) (h0 : dPhi vl0 ≤ dPhi vl) (h1 : dPhi vl ≤ dPhi vl1) (hr : va_Run p l e R s m args below meth c H locs (dca vl0 vl) (dsl vl0 vl) (dca vl vl1) (dsl vl vl1) (F0 m pc ls st0) rest (va_Qv (fun (u1 : Nat → Nat) => cd_U u u1 H.size) (fun u1 t => va_P D vwCl (uw (cX vl1) q u1 z1) t.heap) (cd_A u H.size) a) (cd_A u H.size)) (kk : ∀ (u1 : Nat → Nat) (H1 : Heap) (locs1 : List Loc), uw_inj (cX vl1) u1 A → (∀ h, h ∉ dynL → u1 h = u h) → uw_M D vwCl (cX vl1) q A H0 u1 z1 H1 locs1 → W p l e R s m args below meth c H1 locs1 (dca vl0 vl1) (dsl vl0 vl1) Q (F0 m (pc + 3) ls rest)) : W p l e R s m args below meth c H locs (dca vl0 vl) (dsl vl0 vl) Q (F0 m pc ls st0) := by
  refine va_callv hr hM.2 (fun _ _ h => dd_sub hA hU hM.2.1 h) (fun _ h => dd_sub hA hU hM.2.1 h) (fun u1 t H1 locs1 ht _ hw hB _ _ hS => ?_)
  obtain ⟨hu1, hu2, hu3⟩ := hw
  refine W.widen (k := dca vl0 vl1) (n := dsl vl0 vl1) (dca_add h0 h1) (dsl_add h0 h1) ?_
  exact kk u1 H1 locs1 ⟨hu1, fun h hh => dd_sub hA hU hM.2.1 (hu2 h hh)⟩ hu3 ⟨by rw [← ht]; exact hB, hS⟩
theorem dd_iret {x r : Int32} (hx : p.tables.exec = Jvm.exec) (hb : c.code = cc) (hr : meth.sig.returnType = some .int) (hlocks : meth.locks = false) (hU : uw_inj (cX vl) u (cd_A u0 s.heap.size)) (hst : ∀ h, h ∉ dynL → u h = u0 h) (hM : uw_M D vwCl (cX vl) q (cd_A u0 s.heap.size) s.heap u z H locs) (hq : some (x, vl, z) = some (r, vlE, z1)) (hQ : Q = MQ below (va_Qi (fun x (u1 : Nat → Nat) => x = r ∧ cd_U u0 u1 s.heap.size) (fun u1 t => va_P D vwCl (uw (cX vlE) q u1 z1) t.heap) (cd_A u0 s.heap.size)) args s (dca vl0 vlE) (dsl vl0 vlE) (cd_A u0 s.heap.size)) (hdg : decode cc pc = .ok (.ireturn, 1)) : W p l e R s m args below meth c H locs (dca vl0 vl) (dsl vl0 vl) Q (F0 m pc ls [.int x]) := by
  obtain ⟨rfl, h9⟩ := Prod.mk.inj (Option.some.inj hq)
  obtain ⟨rfl, rfl⟩ := Prod.mk.inj h9
  rw [hQ]
  exact W.iret (v := x) hx hb hr (fun t ht hW => ⟨⟨x, u, rfl, ⟨rfl, hU.1, hU.2, hst⟩, by show va_P D vwCl (uw (cX vl) q u z) t.heap; rw [ht]; exact hM.1⟩, hM.2.F ht⟩) hM.2.2.2 hdg hlocks
theorem dd_vret {r : Unit} (hx : p.tables.exec = Jvm.exec) (hb : c.code = cc) (hr : meth.sig.returnType = none) (hlocks : meth.locks = false) (hU : uw_inj (cX vl) u (cd_A u0 s.heap.size)) (hst : ∀ h, h ∉ dynL → u h = u0 h) (hM : uw_M D vwCl (cX vl) q (cd_A u0 s.heap.size) s.heap u z H locs) (hq : some ((), vl, z) = some (r, vlE, z1)) (hQ : Q = MQ below (va_Qv (fun (u1 : Nat → Nat) => cd_U u0 u1 s.heap.size) (fun u1 t => va_P D vwCl (uw (cX vlE) q u1 z1) t.heap) (cd_A u0 s.heap.size)) args s (dca vl0 vlE) (dsl vl0 vlE) (cd_A u0 s.heap.size)) (hdg : decode cc pc = .ok (.return_, 1)) : W p l e R s m args below meth c H locs (dca vl0 vl) (dsl vl0 vl) Q (F0 m pc ls []) := by
  obtain ⟨_, h9⟩ := Prod.mk.inj (Option.some.inj hq)
  obtain ⟨rfl, rfl⟩ := Prod.mk.inj h9
  rw [hQ]
  exact W.vret hx hb hr (fun t ht hW => ⟨⟨u, rfl, ⟨hU.1, hU.2, hst⟩, by show va_P D vwCl (uw (cX vl) q u z) t.heap; rw [ht]; exact hM.1⟩, hM.2.F ht⟩) hM.2.2.2 hdg hlocks
theorem dd_cpy {ref : String} {index k i2 : Nat} {c0 : Cond} {α : Type} {r : α} {z9 : ow_MS} {n : Int32} {K : (Nat → Nat) → ow_MS → Option (α × (Nat → Nat) × ow_MS)} {nL : Nat} (hx : p.tables.exec = Jvm.exec) (hb : c.code = cc) (hml : c.maxLocals = nL) (hls : ls.size = nL) (hts : ∀ w ∈ c0 :: wD, w.before args s = true) (hown : s.vm.findClass RX1 = some m.cls) (hK : va_K D vwCl (uw_T q RX7) s) (hA : ∀ q, H0.size ≤ q → A q) (hU : uw_inj (cX vl) u A) (hM : uw_M D vwCl (cX vl) q A H0 u z H locs) {n0 : Nat} (hn0 : cw_X1 n0) (hk : k < 20) (hdk : n0 + 1 + k ∈ dynL) (hlink : (Cond.fieldLink RX1 index ref (TX1 k).2.1 (TX1 k).2.2.1).before args s = true) (hsame : ∀ x, s.fieldFound? (TX1 k).1 (TX1 k).2.1 (TX1 k).2.2.1 = some x → s.fieldFound? ref (TX1 k).2.1 (TX1 k).2.2.1 = some x) (hfin : (TX1 k).2.2.2 = false) (hd : parseFieldDescriptor (TX1 k).2.2.1 = some (.array .int)) (hg : GoodIn (c0 :: wD) (va_wsS RX1 i2 yJ7_copyOf_59c91 wc_copyOf)) (h0 : dPhi vl0 ≤ dPhi vl) (hq : cpR vl z (n0 + 1 + k) n (fun v z => chV v (K v z)) = some (r, vlE, z9)) (hR1 : R.cells = dca vl0 vlE) (hR2 : R.slots = dsl vl0 vlE) (hfr : 2 ≤ R.frames) (hlo : 82 ≤ R.locals) (hro : 2 * (F0 m pc ls (.int n :: .ref (u (n0 + 1 + k)) :: .ref (u n0) :: rest)).monitorRoom + ((.ref (u n0) :: rest).map fun v => v.category).sum ≤ 8) (d1 : decode cc pc = .ok (.invokestatic i2, 3)) (d2 : decode cc (pc + 3) = .ok (.putfield index, 3))
    (kk : ∀ v1 u1 z1 H1 locs1, uw_inj (cX v1) u1 A → (∀ h, h ∉ dynL → u1 h = u h) → dPhi vl0 ≤ dPhi v1 → dPhi v1 ≤ dPhi vlE → uw_M D vwCl (cX v1) q A H0 u1 z1 H1 locs1 → K v1 z1 = some (r, vlE, z9) → W p l e R s m args below meth c H1 locs1 (dca vl0 v1) (dsl vl0 v1) Q (F0 m (pc + 6) ls rest)) : W p l e R s m args below meth c H locs (dca vl0 vl) (dsl vl0 vl) Q (F0 m pc ls (.int n :: .ref (u (n0 + 1 + k)) :: .ref (u n0) :: rest)) := by
  obtain ⟨hi, hq⟩ := tw_gdn hq
  obtain ⟨hle, hq⟩ := dd_ch hq
  have hph := dPhi_us (v := vl) (n := n.toNatClampNeg) hdk (by omega)
  have hc := dca_new (a := vl0) (v := vl) (n := n.toNatClampNeg) hdk h0 (by omega)
  have hs := dsl_new (a := vl0) (v := vl) (n := n.toNatClampNeg) hdk h0 (by omega)
  have hc2 := dca_le (a := vl0) hle
  have hs2 := dsl_le (a := vl0) hle
  have hin0 : tw_in (cX vl) (n0 + 1 + k) 0 := by
    have key : ∀ h, h ∈ dynL → (h ∈ cX0.1 ∧ (cX0.2 h).1 = 0) := by decide +kernel
    exact cX_in (key _ hdk)
  obtain ⟨k0, hk0, _⟩ := uw_at (cX_ok (vl := vl)) hin0.1
  have h1 := hk0 q u z
  rw [uw_c0 q u z hin0] at h1
  have elen : uw_len (cX vl) z (n0 + 1 + k) = vl (n0 + 1 + k) := by
    unfold uw_len cX
    dsimp only
    rw [if_pos (List.contains_iff_mem.mpr hdk)]
  rw [elen] at h1
  have hPc : va_P D vwCl [(u (n0 + 1 + k), .inl (q 0, vl (n0 + 1 + k), .inl (z.2.1 (n0 + 1 + k))))] H := by
    intro j x hj
    cases j with
    | zero =>
      obtain rfl := Option.some.inj hj
      exact hM.1 k0 _ h1
    | succ j => cases hj
  have hDc : va_D (fun _ => True) [(u (n0 + 1 + k), (.inl (q 0, vl (n0 + 1 + k), .inl (z.2.1 (n0 + 1 + k))) : va_E))] := by
    refine ⟨fun i j x y hi hj _ => ?_, fun _ _ _ => trivial⟩
    cases i with
    | zero =>
      cases j with
      | zero => rfl
      | succ j => cases hj
    | succ i => cases hi
  have hAc : ∀ a, va_A [(u (n0 + 1 + k), (.inl (q 0, vl (n0 + 1 + k), .inl (z.2.1 (n0 + 1 + k))) : va_E))] H.size a → A a := by
    intro a h
    rcases h with ⟨j, x, hj⟩ | h
    · cases j with
      | zero =>
        have : u (n0 + 1 + k) = a := congrArg Prod.fst (Option.some.inj hj)
        rw [← this]
        exact hU.2 _ hin0.1
      | succ j => cases hj
    · exact hA a (Nat.le_trans hM.2.1 h)
  refine va_callr (va_runS (As := [.ref (u (n0 + 1 + k)), .int n]) (rest := .ref (u n0) :: rest) ⟨hx, hb, hml, hown, hts⟩ (kd_copyOf l D q (u (n0 + 1 + k)) (vl (n0 + 1 + k)) (z.2.1 (n0 + 1 + k)) n (fun e9 => hi (Or.inl e9)) (by omega) (by omega) H.size) (va_cwS 2 hts hg rfl rfl rfl (by decide +kernel) ⟨hfr, hlo⟩) ⟨fun a U g mk q => by obtain ⟨q0, q1, qP, qK, qD⟩ := q; exact ⟨q0, q1, qP, va_K.moved (u := U) (U := U.calling g mk a) (Vm.Alike.refl U.vm) qK, qD⟩, fun U hU hW => ⟨rfl, by rw [hU], by rw [hU]; exact hPc, va_K.moved hW.alike hK, hDc⟩⟩ rfl rfl hls rfl hro d1 ⟨by rw [hR1]; omega, by rw [hR2]; omega⟩) hM.2 (fun a _ h => hAc a h) hAc (fun _ ra t H1 locs1 ht _ _ hB hz1 hk1 hS => ?_)
  obtain ⟨hP1, hD1⟩ := hB
  rw [ht] at hP1
  refine W.widen (k := dca vl0 (usV vl (n0 + 1 + k) n.toNatClampNeg)) (n := dsl vl0 (usV vl (n0 + 1 + k) n.toNatClampNeg)) hc hs ?_
  have hra : H.size ≤ ra := by
    rcases hD1.2 1 _ rfl with ⟨j, x, hj⟩ | h
    · cases j with
      | zero =>
        have e9 : u (n0 + 1 + k) = ra := congrArg Prod.fst (Option.some.inj hj)
        have := hD1.1 0 1 _ _ rfl rfl e9
        omega
      | succ j => cases hj
    · exact h
  have hkept : ∀ g, g ∈ cX_l → g ≠ n0 + 1 + k → H1[u g]? = H[u g]? := by
    intro g hg hne
    obtain ⟨j, hj, _⟩ := uw_at (cX_ok (vl := vl)) hg
    have hlt := (hM.1 j _ (hj q u z)).lt
    refine hk1 (u g) hlt (fun h => ?_)
    rcases h with ⟨j, x, hj⟩ | h
    · cases j with
      | zero =>
        have e9 : u (n0 + 1 + k) = u g := congrArg Prod.fst (Option.some.inj hj)
        exact hne (hU.1 _ hin0.1 g hg e9).symm
      | succ j => cases hj
    · exact Nat.not_le_of_gt hlt h
  have hPn : va_P D vwCl (uw (cX vl) q u z ++ [dd_row q ra n.toNatClampNeg (va_cpy (z.2.1 (n0 + 1 + k)) (fun _ => 0) 0 0 (vl (n0 + 1 + k)))]) H1 := by
    refine va_P.app ?_ ?_
    · intro j x hj
      have hj0 := hj
      unfold uw at hj
      rw [List.getElem?_map] at hj
      cases hm : (cX vl).1[j]? with
      | none => rw [hm] at hj; cases hj
      | some g =>
        rw [hm] at hj
        obtain rfl := Option.some.inj hj
        by_cases e9 : g = n0 + 1 + k
        · subst e9
          show va_at D vwCl (u (n0 + 1 + k), uw_cell (cX vl) q u z (n0 + 1 + k)) H1
          rw [uw_c0 q u z hin0, elen]
          exact hP1 0 _ rfl
        · exact (hM.1 j _ hj0).kept (hkept g (List.mem_of_getElem? hm) e9)
    · intro j x hj
      cases j with
      | zero =>
        obtain rfl := Option.some.inj hj
        exact hP1 1 _ rfl
      | succ j => cases hj
  have hDn : va_D A (uw (cX vl) q u z ++ [dd_row q ra n.toNatClampNeg (va_cpy (z.2.1 (n0 + 1 + k)) (fun _ => 0) 0 0 (vl (n0 + 1 + k)))]) := by
    have hD0 := uw_D (cX_ok (vl := vl)) (q := q) hU z
    have far : ∀ (j : Nat) (x : Nat × va_E), (uw (cX vl) q u z)[j]? = some x → x.1 ≠ ra := by
      intro j x hj e9
      have := (hM.1 j x hj).lt
      omega
    constructor
    · intro i j x y hi hj exy
      rw [List.getElem?_append] at hi hj
      by_cases h3 : i < (uw (cX vl) q u z).length
      · rw [if_pos h3] at hi
        by_cases h4 : j < (uw (cX vl) q u z).length
        · rw [if_pos h4] at hj
          exact hD0.1 i j x y hi hj exy
        · rw [if_neg h4] at hj
          cases hjj : j - (uw (cX vl) q u z).length with
          | zero =>
            rw [hjj] at hj
            obtain rfl := Option.some.inj hj
            exact absurd exy (far i x hi)
          | succ j9 => rw [hjj] at hj; cases hj
      · rw [if_neg h3] at hi
        cases hii : i - (uw (cX vl) q u z).length with
        | succ j9 => rw [hii] at hi; cases hi
        | zero =>
          rw [hii] at hi
          obtain rfl := Option.some.inj hi
          by_cases h4 : j < (uw (cX vl) q u z).length
          · rw [if_pos h4] at hj
            exact absurd exy.symm (far j y hj)
          · rw [if_neg h4] at hj
            cases hjj : j - (uw (cX vl) q u z).length with
            | zero => omega
            | succ j9 => rw [hjj] at hj; cases hj
    · intro i x hi
      rw [List.getElem?_append] at hi
      by_cases h3 : i < (uw (cX vl) q u z).length
      · rw [if_pos h3] at hi
        exact hD0.2 i x hi
      · rw [if_neg h3] at hi
        cases hii : i - (uw (cX vl) q u z).length with
        | succ j9 => rw [hii] at hi; cases hi
        | zero =>
          rw [hii] at hi
          obtain rfl := Option.some.inj hi
          exact hA _ (Nat.le_trans hM.2.1 hra)
  refine dd_put (Ts := c0 :: wD) hx hb hts (fun w h => List.mem_cons_of_mem _ (List.mem_cons_of_mem _ (wC_X1 w h))) hown hK hPn hDn hS hn0 hk hdk hlink hsame hfin hd d2 (fun H2 locs2 hU2 hM2 => ?_)
  exact kk _ _ _ H2 locs2 hU2 (fun h hh => if_neg (fun e9 => hh (by rw [e9]; exact hdk))) (by omega) hle hM2 hq
end DCALL
