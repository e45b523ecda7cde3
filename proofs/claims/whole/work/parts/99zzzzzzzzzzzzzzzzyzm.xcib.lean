-- CHAIN: the class's compute, exactly; its numbers told by the list
def clT (p : Nat) (sg : Nat → Bool) (A0 : rn_L) (c0 : Nat) (z : ow_MS) (ans : Int32) : Prop := ∃ (T : ow_NT) (z6 : ow_MS) (Ls : Nat → Nat → Nat) (ns : Nat → Nat), tyI T ∧ tdJ p sg A0 c0 T ∧ LpY z6 T.2.2.1 T.2.2.2 T.1 Ls ns ∧ tabT z (fun o => cirF T.2.1 (fun d => bq9 p T.1 T.2.2.1 T.2.2.2 Ls ns o d)) ∧ ans = iI (sN9 (fun i => cirF T.2.1 (fun d => bq9 p T.1 T.2.2.1 T.2.2.2 Ls ns (i / 56) d) (((i % 56 : Nat) : Int) - 20)) 504) ∧ z.1 43019 = np_sum T.2.2.2 T.1 ∧ z.1 43020 = (nI T.1 - np_sum T.2.2.2 T.1) / 2
section XCJA
variable {vl : Nat → Nat} {y : ow_MS} {W C : Nat} {sg : Nat → Bool} {A0 : rn_L} {c0 : Nat}
theorem tdJ_cp {T Q : ow_NT} {q : Int} (h : tdJ q sg A0 c0 T) : tdJ q sg A0 c0 (nt_copy Q T) := by
  obtain ⟨h1, A, f, w, h3, h4⟩ := h
  have key : ∀ {β : Type} (f g : Nat → β) (n k : Nat), k < n → va_cpy f g 0 0 n k = f k := fun f g n k hk => by
    rw [pk_cpy_in (Nat.zero_le k) (by omega), Nat.zero_add, Nat.sub_zero]
  have g1 : ∀ x, x < T.1 → (nt_copy Q T).2.2.2 x = T.2.2.2 x := fun x hx => key _ _ _ _ hx
  exact ⟨fun x hx => by rw [g1 x hx]; exact h1 x hx, A, f, w, isoV_cg h3 rfl rfl (fun k hk => ⟨key _ _ _ _ hk, key _ _ _ _ hk⟩) g1, h4⟩
theorem td_cu {T : ow_NT} {q : Int} (hp : pr9 q) (hi : iv9 q) (h : tdJ q sg A0 c0 T) : cu9 T.1 2000 (fun g => g < 2 * T.1) (fun x => 2 * x) (fun x => T.2.2.1.2 (2 * x)) (fun x => T.2.2.1.2 (2 * x)) (relC9 T.2.2.1 T.2.2.2 T.1) := by
  obtain ⟨h1, A, f, w, h3, h4, h5, -⟩ := h
  obtain ⟨n1, hn⟩ := nmT_ex h3
  refine (cls_ph9 h5 h3 (fun x hx => ?_) hn (cuA hp hi h3 h1 h4 h5 (nm_O h3 hn))).1
  rcases h1 x hx with e | e <;> rw [e] <;> decide
theorem te_compute {p : Nat} {R : ow_NT} (hv : vI vl W C) (h4 : cAt y 4000 R) (h44 : ∃ T, cAt y 44000 T ∧ ow_b24 T.2.2.1) (hR : tyI R) (hJ : tdJ p sg A0 c0 R) (htb : tbP y) (hch : chP y) (hp : prT p) (hp2 : p ≤ 997) : Te (fun K => de_X1_compute K 43000 4000 (nI p) vl y) (gQ vl (fun r => (∃ T, cAt r.2.2 44000 T ∧ ow_b24 T.2.2.1) ∧ fr cmG y r.2.2 ∧ (∃ W' C', vI r.2.1 W' C') ∧ clT p sg A0 c0 r.2.2 r.1)) := by
  obtain ⟨T0, t1, t2⟩ := h44
  have hpr := prp_of hp
  have hiv := iv_of hp
  have hcp := tc_copy (vl := vl) nH44 nH4 (Or.inr (by omega)) t1 h4 hR.1.2.1
  refine e_X1_compute ?_
  refine u_X1_compute_0 ?_; unfold dm_X1_compute_0
  refine w_cs0 hcp ?_
  rintro z1 ⟨a1, a2⟩
  refine w_cs0 (te_tidy (J := tdJ p sg A0 c0) (fun T x h _ hx e => tdJ_1 hpr hiv h hx e) (fun T x u h _ hx hu e => tdJ_2 hpr hiv h hx hu e) a1 (tyI_cp hR t2) (tdJ_cp hJ)) ?_
  rintro z2 ⟨⟨⟨c, ci, S, G⟩, b1, b2, b4⟩, b3⟩
  have hC := td_cu hpr hiv b4
  have hb24 : ow_b24 S := b2.1.2.2.1
  have hc12 : c ≤ 12 := b2.1.2.1
  have f2 : fr cmG y z2 := fr_tr (fr_mono (fun g hg => cmG_c hg) a2) (fr_mono (fun g hg => cmG_c hg) b3)
  refine w_wrF ?_
  have c3 : cAt (usF z2 (43000 + 10) (nI p)) 44000 (c, ci, S, G) := cAt_fr (fr_F (P := fun g => g = 43010) rfl) (fun g hg h9 => by unfold cP at hg; omega) b1
  refine w_cs1 (tc_writhe nH44 c3 hc12) ?_
  rintro wr z3 ⟨g2, g3⟩
  dsimp only at g2 g3
  subst g3
  refine w_wrF ?_
  have c4 : cAt (usF (usF z2 (43000 + 10) (nI p)) (43000 + 19) wr) 44000 (c, ci, S, G) := cAt_fr (fr_F (P := fun g => g = 43019) rfl) (fun g hg h9 => by unfold cP at hg; omega) c3
  refine w_rdF c4.1 (w_rdF po_usF_at (w_nzI (by decide) (w_wrF ?_)))
  have f5 : ∀ x, fr (fun g => g = 43010 ∨ g = 43019 ∨ g = 43020) z2 (usF (usF (usF z2 (43000 + 10) (nI p)) (43000 + 19) wr) (43000 + 20) x) := fun x => fr_F2 (fr_F2 (fr_F (Or.inl rfl)) (Or.inr (Or.inl rfl))) (Or.inr (Or.inr rfl))
  have g5 : ∀ g, (g = 43010 ∨ g = 43019 ∨ g = 43020) → cmG g := fun g hg => by unfold cmG; omega
  have g6 : ∀ g, cmH g → cmG g := fun g hg => by unfold cmG; unfold cmH at hg; omega
  have n5 : ¬ cmG 43005 := by unfold cmG cP; omega
  have c5 : ∀ x, cAt (usF (usF (usF z2 (43000 + 10) (nI p)) (43000 + 19) wr) (43000 + 20) x) 44000 (c, ci, S, G) := fun x => cAt_fr (f5 x) (fun g hg h9 => by unfold cP at hg; omega) b1
  have p5 : ∀ x, (usF (usF (usF z2 (43000 + 10) (nI p)) (43000 + 19) wr) (43000 + 20) x).1 43010 = nI p := fun x => rf_ot (by omega) (rf_ot (by omega) po_usF_at)
  refine w_mono (te_cmp0 b2 (c5 _) (tbP_fr (fr_tr f2 (fr_mono g5 (f5 _))) n5 htb) (chP_fr (fr_tr f2 (fr_mono g5 (f5 _))) (fun g hg => by unfold cmG cP at hg; omega) hch) (p5 _) hp hp2 hv hC) ?_
  rintro r ⟨r1, r2, r3, z6, Ls, ns, r4, r5, r6⟩
  refine ⟨r1, ⟨_, cAt_fr r2 (fun g hg h9 => by unfold cP at hg; unfold cmH at h9; omega) (c5 _), hb24⟩, fr_tr (fr_tr f2 (fr_mono g5 (f5 _))) (fr_mono g6 r2), r3, (c, ci, S, G), z6, Ls, ns, b2, b4, r4, r5, r6, ?_, ?_⟩
  · rw [(r2 43019 (by unfold cmH; omega)).1]
    exact (rf_ot (by omega) po_usF_at).trans g2
  · rw [(r2 43020 (by unfold cmH; omega)).1]
    refine po_usF_at.trans ?_
    rw [g2]
end XCJA
/-- what the class's table says of the list -/
def clN (p : Nat) (sg : Nat → Bool) (A0 : rn_L) (c0 : Nat) (z : ow_MS) (ans : Int32) : Prop := ∃ (c' n' κ : Nat) (CT : Nat → Int → Int), (n' ≤ c' ∧ c' ≤ 8 ∧ c' + κ ≤ c0 ∧ ng9 A0 sg = n' + κ) ∧ z.1 43019 = iI ((c' : Int) - 2 * n') ∧ z.1 43020 = nI n' ∧ tabT z CT ∧ ans = iI (sN9 (fun i => CT (i / 56) (((i % 56 : Nat) : Int) - 20)) 504) ∧ (∀ o d, (c' < o ∨ d < -16 ∨ 24 < d) → CT o d = 0) ∧ ∀ nm, nmO A0 nm c0 → ∀ r d b, bL9 p A0 sg nm c0 1 d r b → b = if r < κ then 0 else CT (r - κ) (d + c0 - c' - 3 * κ)
section XCJB
variable {A : rn_L} {sg : Nat → Bool} {nm f : Nat → Nat} {c : Nat} {T : ow_NT}
theorem ng_ons (hn : A.flatten.Nodup) (h2 : ∀ p, p ∈ A.flatten → p.2 < 2) (hO : nmO A nm c) : ng9 A sg = ons9 (fun y => sg (nm y)) c := by
  have pm : (A.flatten.filter (fun p => decide (p.2 = 0))).Perm ((List.range c).map (fun y => (nm y, 0))) := by
    refine (List.perm_ext_iff_of_nodup (hn.filter _) (nodup_map List.nodup_range (fun i j hi hj e => hO.2.1 i j (List.mem_range.mp hi) (List.mem_range.mp hj) (congrArg Prod.fst e)))).mpr (fun q => ?_)
    rw [List.mem_filter, List.mem_map]
    constructor
    · rintro ⟨a, b⟩
      obtain ⟨y, y1, y2⟩ := hO.2.2 q a
      exact ⟨y, List.mem_range.mpr y1, Prod.ext y2 (of_decide_eq_true b).symm⟩
    · rintro ⟨y, y1, rfl⟩
      exact ⟨(hO.1 y (List.mem_range.mp y1)).1, rfl⟩
  have e1 : ng9 A sg = ((A.flatten.filter (fun p => decide (p.2 = 0))).filter (fun p => sg p.1)).length := by
    unfold ng9
    rw [List.filter_filter]
    congr 2
    funext p
    rw [Bool.and_comm]
  rw [e1, (pm.filter _).length_eq]
  have key : ∀ n, (((List.range n).map (fun y => (nm y, 0))).filter (fun p : vT => sg p.1)).length = ons9 (fun y => sg (nm y)) n := by
    intro n
    induction n with
    | zero => rfl
    | succ n ih =>
      rw [List.range_succ, List.map_append, List.filter_append, List.length_append, ih]
      show _ = ons9 (fun y => sg (nm y)) n + if sg (nm n) = true then 1 else 0
      by_cases s : sg (nm n) = true
      · rw [if_pos s]
        simp [s]
      · rw [if_neg s]
        simp [s]
  exact key c
theorem sum_ng (h : isoV A sg f T) (hT : pm1 T) : np_sum T.2.2.2 T.1 = iI ((T.1 : Int) - 2 * ng9 A sg) ∧ ng9 A sg ≤ T.1 := by
  obtain ⟨nm, hm⟩ := nmT_ex h
  rw [ng_ons h.1.1.1 (fun p hp => (h.1.1.2 p hp).2.1) (nm_O h hm)]
  have key : ∀ n, n ≤ T.1 → np_sum T.2.2.2 n = iI ((n : Int) - 2 * ons9 (fun y => sg (nm y)) n) ∧ ons9 (fun y => sg (nm y)) n ≤ n := by
    intro n
    induction n with
    | zero => exact fun _ => ⟨rfl, Nat.le_refl 0⟩
    | succ n ih =>
      intro hn
      obtain ⟨i1, i2⟩ := ih (by omega)
      obtain ⟨e, m⟩ := hm n (by omega)
      have h7 := h.1.2.2.2.2.2.2.1 _ m
      simp only [] at h7
      rw [e] at h7
      show np_sum T.2.2.2 n + T.2.2.2 n = iI (((n + 1 : Nat) : Int) - 2 * ((ons9 (fun y => sg (nm y)) n + (if sg (nm n) = true then 1 else 0) : Nat) : Int)) ∧ ons9 (fun y => sg (nm y)) n + (if sg (nm n) = true then 1 else 0) ≤ n + 1
      rcases hT n (by omega) with q | q
      · have s : ¬ sg (nm n) = true := fun h9 => by
          have := h7.mpr h9
          rw [q] at this
          exact absurd this (by decide)
        rw [if_neg s, i1, q, show (1 : Int32) = iI 1 by decide, iI_add]
        exact ⟨congrArg iI (by omega), by omega⟩
      · have s : sg (nm n) = true := h7.mp (by rw [q]; decide)
        rw [if_pos s, i1, q, show (-1 : Int32) = iI (-1) by decide, iI_add]
        exact ⟨congrArg iI (by omega), by omega⟩
  exact key T.1 (Nat.le_refl _)
theorem half_ng : ∀ c : Fin 13, ∀ n : Fin 13, n.val ≤ c.val → (nI c.val - iI ((c.val : Int) - 2 * (n.val : Int))) / 2 = nI n.val := by decide +kernel
theorem clN_of {p : Nat} {A0 : rn_L} {c0 : Nat} {z : ow_MS} {ans : Int32} (hp : prT p) (h : clT p sg A0 c0 z ans) (hex : ∃ nm, nmO A0 nm c0) : clN p sg A0 c0 z ans := by
  have hpr := prp_of hp
  have hiv := iv_of hp
  obtain ⟨T, z6, Ls, ns, t1, ⟨t2, A, f, w, t3, t4, t5, κ, ⟨k1, k2⟩, k3⟩, t6, t7, t8, t9, t10⟩ := h
  obtain ⟨s1, s2⟩ := sum_ng t3 t2
  obtain ⟨hc8, -⟩ := tyI_sz t1
  have hcr : cirs A = T.2.1 := t3.1.2.2.2.2.2.2.2
  have hci : T.2.1 ≤ 6 := by
    have h9 : np_rg T.1 T.2.2.1 + T.2.1 ≤ 6 := t1.1.2.2.2
    omega
  have hn9 : ∀ s, s < 2 ^ T.1 → ns s ≤ 9 := fun s hs => (t6 s hs).2
  refine ⟨T.1, ng9 A sg, κ, fun o => cirF T.2.1 (fun d => bq9 p T.1 T.2.2.1 T.2.2.2 Ls ns o d), ⟨s2, hc8, k2, k1⟩, by rw [t9, s1], ?_, t7, t8, fun o d h9 => ?_, fun nm hO r d b hB => ?_⟩
  · rw [t10, s1]
    exact half_ng ⟨T.1, by omega⟩ ⟨ng9 A sg, by omega⟩ s2
  · by_cases q : T.1 < o
    · have z0 : ∀ j d, cirF j (fun d => bq9 p T.1 T.2.2.1 T.2.2.2 Ls ns o d) d = 0 := by
        intro j
        induction j with
        | zero => exact fun d => bq_0 hn9 hc8 (Or.inl q)
        | succ j ih =>
          intro d
          show cirF j _ (d - 1) + cirF j _ (d + 1) = 0
          rw [ih, ih]
          rfl
      exact z0 _ _
    · exact cir_0 (fun d h8 => bq_0 hn9 hc8 (Or.inr h8)) _ _ (by omega)
  · obtain ⟨n1, hn⟩ := nmT_ex t3
    have o1 := nm_O t3 hn
    have B := k3 nm n1 hO o1 1 d r b (Nat.le_refl 1) hB
    have e := bL_cl hpr hiv t3 t2 t4 t5 o1 t6 B
    rw [e, hcr]
    by_cases q : r < κ
    · rw [if_pos q]
      have z0 : ∀ j d, cirF j (fun d => if r + 1 < 1 + κ then 0 else bq9 p T.1 T.2.2.1 T.2.2.2 Ls ns (r + 1 - (1 + κ)) d) d = 0 := by
        intro j
        induction j with
        | zero => exact fun d => if_pos (by omega)
        | succ j ih =>
          intro d
          show cirF j _ (d - 1) + cirF j _ (d + 1) = 0
          rw [ih, ih]
          rfl
      exact z0 _ _
    · rw [if_neg q]
      have ef : (fun d => if r + 1 < 1 + κ then 0 else bq9 p T.1 T.2.2.1 T.2.2.2 Ls ns (r + 1 - (1 + κ)) d) = (fun d => bq9 p T.1 T.2.2.1 T.2.2.2 Ls ns (r - κ) d) := funext (fun d => by
        rw [if_neg (by omega), show r + 1 - (1 + κ) = r - κ by omega])
      rw [ef]
end XCJB
