/-! the moves of both sides: kind 1; places of kind 3 -/
section XP1
variable {A : rn_L} {g h i j : Nat} {P P0 P1 L : List vT} {p q : vT}
theorem fm_pt {α β : Type} {f f' : α → List β} {L : List α} (h : ∀ r, r ∈ L → f r = f' r) : L.flatMap f = L.flatMap f' := by
  rw [List.flatMap_def, List.flatMap_def]
  exact congrArg List.flatten (List.map_congr_left h)
theorem isG_c (h : isG A g) : g < A.flatten.length ∨ ∃ i, g = A.flatten.length + i ∧ A[i]? = some [] := by
  rcases h with h | ⟨h1, h2, h3⟩
  · exact Or.inl h
  · refine Or.inr ⟨g - A.flatten.length, by omega, ?_⟩
    have := gD_len (A := A) h2
    rw [h3, Nat.sub_self, List.getD_eq_getElem?_getD, List.getElem?_eq_getElem h2] at this
    rw [List.getElem?_eq_getElem h2]
    exact congrArg some (List.eq_nil_of_length_eq_zero this)
theorem isG_E (h : A[i]? = some []) : isG A (A.flatten.length + i) := by
  obtain ⟨h1, h2⟩ := List.getElem?_eq_some_iff.mp h
  have := gD_len (A := A) h1
  rw [List.getD_eq_getElem?_getD, h] at this
  have this : 0 = _ := this
  have h3 := rn_b_mono A i
  refine Or.inr ⟨by omega, by omega, ?_⟩
  rw [show A.flatten.length + i - A.flatten.length = i by omega]
  omega
theorem vAt_ij (hn : A.flatten.Nodup) {x y : Nat} (hx : x < A.flatten.length) (hy : y < A.flatten.length) : vAt A x = vAt A y ↔ x = y := ⟨fun e => nodup_at hn (vAt_of hx) (by rw [e]; exact vAt_of hy), fun e => by rw [e]⟩
theorem insL_in2 (hpq : p ≠ q) (hq : q ∉ P0) : insL q P1 (insL p P0 L) = L.flatMap (fun r => r :: ((if r = p then P0 else []) ++ (if r = q then P1 else []))) := by
  unfold insL
  rw [List.flatMap_assoc]
  refine fm_pt (fun r hr => ?_)
  by_cases e : r = p
  · rw [if_pos e, if_pos e, if_neg (fun e9 => hpq (e.symm.trans e9)), List.append_nil]
    have : insL q P1 (r :: P0) = r :: P0 := insL_no (fun h9 => by
      rcases List.mem_cons.mp h9 with h9 | h9
      · exact hpq (e.symm.trans h9.symm)
      · exact hq h9)
    exact this
  · rw [if_neg e, if_neg e, List.nil_append]
    by_cases e2 : r = q
    · rw [if_pos e2]
      show List.flatMap _ [r] = _
      rw [List.flatMap_cons, if_pos e2]
      exact List.append_nil _
    · rw [if_neg e2]
      show List.flatMap _ [r] = _
      rw [List.flatMap_cons, if_neg e2]
      rfl
theorem insL_1 : insL p P L = L.flatMap (fun r => r :: (if r = p then P else [])) := by
  unfold insL
  refine fm_pt (fun r hr => ?_)
  by_cases e : r = p
  · rw [if_pos e, if_pos e]
  · rw [if_neg e, if_neg e]
theorem insV_g : (insV A p P)[i]? = A[i]?.map (insL p P) := List.getElem?_map
theorem insV_l : (insV A p P).length = A.length := List.length_map ..
theorem b_VV (hn : A.flatten.Nodup) (hg : g < A.flatten.length) (hh : h < A.flatten.length) (hgh : g ≠ h) (hq : vAt A h ∉ P0) : bldA A (insG g h P0 P1) = insV (insV A (vAt A g) P0) (vAt A h) P1 := by
  refine bldA_is (F := fun r => (if r = vAt A g then P0 else []) ++ (if r = vAt A h then P1 else [])) (fun v hv => ?_) (by rw [insV_l, insV_l]) (fun i hi => ?_) (fun i L hi hL => ?_)
  · unfold insG
    by_cases e1 : v = g
    · rw [if_pos e1, if_neg (show ¬ v = h by omega), if_pos (show vAt A v = vAt A g by rw [e1]), if_neg (show ¬ vAt A v = vAt A h from fun e => hgh (e1.symm.trans ((vAt_ij hn hv hh).mp e)))]
    · rw [if_neg e1, if_neg (show ¬ vAt A v = vAt A g from fun e => e1 ((vAt_ij hn hv hg).mp e))]
      by_cases e2 : v = h
      · rw [if_pos e2, if_pos (show vAt A v = vAt A h by rw [e2])]
      · rw [if_neg e2, if_neg (show ¬ vAt A v = vAt A h from fun e => e2 ((vAt_ij hn hv hh).mp e))]
  · rw [insV_g, insV_g, hi]
    unfold insG
    rw [if_neg (by omega), if_neg (by omega)]
    rfl
  · rw [insV_g, insV_g, hi]
    show some (insL _ _ (insL _ _ L)) = _
    rw [insL_in2 (fun e => hgh ((vAt_ij hn hg hh).mp e)) hq]
theorem b_V2 (hn : A.flatten.Nodup) (hg : g < A.flatten.length) : bldA A (insG g g P0 P1) = insV A (vAt A g) (P0 ++ P1) := by
  refine bldA_is (F := fun r => if r = vAt A g then P0 ++ P1 else []) (fun v hv => ?_) insV_l (fun i hi => ?_) (fun i L hi hL => ?_)
  · unfold insG
    by_cases e1 : v = g
    · rw [if_pos e1, if_pos e1, if_pos (by rw [e1])]
    · rw [if_neg e1, if_neg e1, if_neg (fun e => e1 ((vAt_ij hn hv hg).mp e))]
      rfl
  · rw [insV_g, hi]
    unfold insG
    rw [if_neg (by omega), if_neg (by omega)]
    rfl
  · rw [insV_g, hi, ← insL_1]
    rfl
theorem set_g {B : rn_L} {C : List vT} (hi : i < B.length) : (B.set i C)[j]? = if i = j then some C else B[j]? := by
  rw [List.getElem?_set]
  by_cases e : i = j
  · rw [if_pos e, if_pos e, if_pos hi]
  · rw [if_neg e, if_neg e]
theorem i_lt (h : A[i]? = some L) : i < A.length := (List.getElem?_eq_some_iff.mp h).1
theorem b_VE (hn : A.flatten.Nodup) (hg : g < A.flatten.length) (hi : A[i]? = some []) : bldA A (insG g (A.flatten.length + i) P0 P1) = (insV A (vAt A g) P0).set i P1 := by
  have hil := i_lt hi
  refine bldA_is (F := fun r => if r = vAt A g then P0 else []) (fun v hv => ?_) (by rw [List.length_set, insV_l]) (fun j hj => ?_) (fun j L hj hL => ?_)
  · unfold insG
    rw [if_neg (show ¬ v = A.flatten.length + i by omega), List.append_nil]
    by_cases e1 : v = g
    · rw [if_pos e1, if_pos (by rw [e1])]
    · rw [if_neg e1, if_neg (fun e => e1 ((vAt_ij hn hv hg).mp e))]
  · rw [set_g (by rw [insV_l]; exact hil), insV_g, hj]
    unfold insG
    rw [if_neg (show ¬ A.flatten.length + j = g by omega), List.nil_append]
    by_cases e : i = j
    · rw [if_pos e, if_pos (by omega)]
    · rw [if_neg e, if_neg (by omega)]
      rfl
  · rw [set_g (by rw [insV_l]; exact hil), insV_g, hj, if_neg (fun e => hL (by rw [e] at hi; exact Option.some.inj (hj.symm.trans hi))), ← insL_1]
    rfl
theorem b_EV (hn : A.flatten.Nodup) (hh : h < A.flatten.length) (hi : A[i]? = some []) (hq : vAt A h ∉ P0) : bldA A (insG (A.flatten.length + i) h P0 P1) = insV (A.set i P0) (vAt A h) P1 := by
  have hil := i_lt hi
  refine bldA_is (F := fun r => if r = vAt A h then P1 else []) (fun v hv => ?_) (by rw [insV_l, List.length_set]) (fun j hj => ?_) (fun j L hj hL => ?_)
  · unfold insG
    rw [if_neg (show ¬ v = A.flatten.length + i by omega), List.nil_append]
    by_cases e1 : v = h
    · rw [if_pos e1, if_pos (by rw [e1])]
    · rw [if_neg e1, if_neg (fun e => e1 ((vAt_ij hn hv hh).mp e))]
  · rw [insV_g, set_g hil, hj]
    unfold insG
    rw [if_neg (show ¬ A.flatten.length + j = h by omega), List.append_nil]
    by_cases e : i = j
    · rw [if_pos e, if_pos (by omega)]
      show some (insL _ _ P0) = _
      rw [insL_no hq]
    · rw [if_neg e, if_neg (by omega)]
      rfl
  · rw [insV_g, set_g hil, hj, if_neg (fun e => hL (by rw [e] at hi; exact Option.some.inj (hj.symm.trans hi))), ← insL_1]
    rfl
theorem b_EE (hi : A[i]? = some []) (hj : A[j]? = some []) (hij : i ≠ j) : bldA A (insG (A.flatten.length + i) (A.flatten.length + j) P0 P1) = (A.set i P0).set j P1 := by
  have hil := i_lt hi
  have hjl := i_lt hj
  refine bldA_is (F := fun r => []) (fun v hv => ?_) (by rw [List.length_set, List.length_set]) (fun k hk => ?_) (fun k L hk hL => ?_)
  · unfold insG
    rw [if_neg (by omega), if_neg (by omega)]
    rfl
  · rw [set_g (by rw [List.length_set]; exact hjl), set_g hil, hk]
    unfold insG
    by_cases e : j = k
    · rw [if_pos e, if_neg (by omega), if_pos (by omega)]
      rfl
    · rw [if_neg e, if_neg (show ¬ A.flatten.length + k = A.flatten.length + j by omega)]
      by_cases e2 : i = k
      · rw [if_pos e2, if_pos (by omega), List.append_nil]
      · rw [if_neg e2, if_neg (by omega)]
        rfl
  · rw [set_g (by rw [List.length_set]; exact hjl), set_g hil, hk, if_neg (fun e => hL (by rw [e] at hj; exact Option.some.inj (hk.symm.trans hj))), if_neg (fun e => hL (by rw [e] at hi; exact Option.some.inj (hk.symm.trans hi)))]
    congr 1
    rw [List.flatMap_singleton']
theorem b_E2 (hi : A[i]? = some []) : bldA A (insG (A.flatten.length + i) (A.flatten.length + i) P0 P1) = A.set i (P0 ++ P1) := by
  have hil := i_lt hi
  refine bldA_is (F := fun r => []) (fun v hv => ?_) (by rw [List.length_set]) (fun k hk => ?_) (fun k L hk hL => ?_)
  · unfold insG
    rw [if_neg (by omega), if_neg (by omega)]
    rfl
  · rw [set_g hil, hk]
    unfold insG
    by_cases e : i = k
    · rw [if_pos e, if_pos (by omega), if_pos (by omega)]
    · rw [if_neg e, if_neg (by omega), if_neg (by omega)]
      rfl
  · rw [set_g hil, hk, if_neg (fun e => hL (by rw [e] at hi; exact Option.some.inj (hk.symm.trans hi)))]
    congr 1
    rw [List.flatMap_singleton']
theorem insG_1 : insG g 1000 P [] = insG g g P [] := by
  funext gp
  unfold insG
  rw [ite_self, ite_self]
/-- two visits come at a place -/
def inQ (A B : rn_L) (af : Option Nat) (γ : vT → Nat) (r r' : vT) : Prop := (∃ p, p ∈ A.flatten ∧ B = insV A p [r, r'] ∧ af = some (γ p)) ∨ ∃ i, A[i]? = some [] ∧ B = A.set i [r, r'] ∧ af = none
theorem inQ_pm {B : rn_L} {af : Option Nat} {γ : vT → Nat} {r r' : vT} (hn : A.flatten.Nodup) (h : inQ A B af γ r r') : B.flatten.Perm (A.flatten ++ [r, r']) := by
  rcases h with ⟨p, h1, rfl, -⟩ | ⟨i, h1, rfl, -⟩
  · exact insV_pm hn h1
  · exact setE_pm h1
theorem inQ_sh {B : rn_L} {af : Option Nat} {γ : vT → Nat} {r r' : vT} {T : ow_NT} (hn : A.flatten.Nodup) (h : inQ A B af γ r r') (hnB : B.flatten.Nodup) (hg : gin γ B.flatten) (hS : shP T.2.2.1 γ A) (hC : cirs A = T.2.1) : shP (nt_pair T af (γ r) (γ r')).2.2.1 γ B ∧ cirs B = (nt_pair T af (γ r) (γ r')).2.1 := by
  rcases h with ⟨p, h1, rfl, rfl⟩ | ⟨i, h1, rfl, rfl⟩
  · exact ⟨shP_V hn h1 hnB hg hS, (insV_cirs hn h1).trans hC⟩
  · refine ⟨shP_E h1 hnB hg hS, ?_⟩
    have := setE_cirs (P := [r, r']) h1 (by simp)
    show cirs _ = T.2.1 - 1
    omega
theorem shP_gcg {S : ow_NP} {γ γ' : vT → Nat} (hn : A.flatten.Nodup) (he : ∀ p, p ∈ A.flatten → γ' p = γ p) (h : shP S γ A) : shP S γ' A := fun L hL => shL_k (L_nd hn hL) (fun p hp => he p (List.mem_flatten.mpr ⟨L, hL, hp⟩)) (fun _ _ => ⟨rfl, rfl⟩) (h L hL)
theorem cir_ex (h : 0 < cirs A) : ∃ i : Nat, A[i]? = some [] := by
  unfold cirs at h
  obtain ⟨L, hL, e⟩ := List.countP_pos_iff.mp h
  obtain ⟨i, hi, e2⟩ := List.getElem_of_mem hL
  refine ⟨i, ?_⟩
  rw [List.getElem?_eq_getElem hi, e2, List.isEmpty_iff.mp e]
theorem cir_ps (h : A[i]? = some []) : 0 < cirs A := by
  unfold cirs
  exact List.countP_pos_iff.mpr ⟨[], List.mem_of_getElem? h, rfl⟩
end XP1
section XP1b
variable {A : rn_L} {sg : Nat → Bool} {R Q : ow_NT}
theorem isoV_ok (h : isoV A sg idN R) : okF A.flatten R.1 := by
  refine ⟨h.1.1.1, fun p => ⟨fun hp => ⟨h.1.2.2.2.1 p hp, (h.1.1.2 p hp).2.1⟩, fun hp => ?_⟩⟩
  obtain ⟨v, hv, e1, e2, -⟩ := vis_of h hp.1 hp.2
  have := vAt_mem hv
  rw [show vAt A v = p from Prod.ext e1 e2] at this
  exact this
theorem su_at {f : Nat → Int32} {c x : Nat} {s : Int32} : su f c s x = if x = c then s else f x := rfl
/-- kind 1: a place on both sides -/
theorem mb_1 (h : isoV A sg idN R) (hA : A.length ≤ 6) : mBi 1 A sg R := by
  have ho := isoV_ok h
  have hn := h.1.1.1
  have hV := h.1.2.1
  have hc0 := h.1.2.2.1
  have hC : cirs A = R.2.1 := h.1.2.2.2.2.2.2.2
  -- what stands on both sides
  have main : ∀ {g k gap : Nat} {Q : ow_NT}, R.1 + 1 ≤ 12 → isG A g → k < 4 → (g < A.flatten.length ∧ gap = lbv A idN g ∨ A.flatten.length ≤ g ∧ gap = 2 * R.1) → mv_b1 R gap = true ∧ isoV (bldA A (insG g 1000 [(R.1, k % 2), (R.1, 1 - k % 2)] [])) (fun i => if i = R.1 then decide (2 ≤ k) else sg i) idN (mv_t1 Q R gap k) := by
    intro g k gap Q hc hg hk hgap
    have hok := o1_ok ho hA (by omega) hg hk
    have hin : inQ A (bldA A (insG g 1000 [(R.1, k % 2), (R.1, 1 - k % 2)] [])) (mv_af R gap) (gl idN) (R.1, k % 2) (R.1, 1 - k % 2) := by
      rw [insG_1]
      rcases hgap with ⟨g1, g2⟩ | ⟨g1, g2⟩
      · refine Or.inl ⟨vAt A g, vAt_mem g1, ?_, ?_⟩
        · rw [b_V2 hn g1, List.append_nil]
        · have := lbv_lt (isoS_iff.mp h.1) g1
          have this : lbv A idN g < 2 * R.1 := this
          unfold mv_af
          rw [if_neg (by omega), g2]
          rfl
      · rcases isG_c hg with h9 | ⟨i, e, hi⟩
        · omega
        · refine Or.inr ⟨i, hi, ?_, ?_⟩
          · rw [e, b_E2 hi, List.append_nil]
          · unfold mv_af
            rw [if_pos g2]
    have hb : mv_b1 R gap = true := by
      unfold mv_b1
      rcases hgap with ⟨g1, g2⟩ | ⟨g1, g2⟩
      · have := lbv_lt (isoS_iff.mp h.1) g1
        have this : lbv A idN g < 2 * R.1 := this
        rw [decide_eq_false (show ¬ gap = 2 * R.1 by omega)]
        rfl
      · rcases isG_c hg with h9 | ⟨i, e, hi⟩
        · omega
        · have := cir_ps hi
          rw [decide_eq_false (show ¬ R.2.1 = 0 by omega), Bool.and_false]
          rfl
    refine ⟨hb, ?_⟩
    unfold mv_t1
    rw [if_pos hb]
    have gg : gin (gl idN) (bldA A (insG g 1000 [(R.1, k % 2), (R.1, 1 - k % 2)] [])).flatten := by
      intro p q hp hq e
      have h1 := (hok.2 p).mp hp
      have h2 := (hok.2 q).mp hq
      have e : 2 * p.1 + p.2 = 2 * q.1 + q.2 := e
      exact Prod.ext (by omega) (by omega)
    have hcp := isoV_cpy (Q := Q) h
    obtain ⟨s1, s2⟩ := inQ_sh (T := nt_add (nt_copy Q R) (mv_sg k)) hn hin hok.1 gg hcp.2 hC
    have e1 : gl idN (R.1, k % 2) = 2 * R.1 + k % 2 := rfl
    have e2 : gl idN (R.1, 1 - k % 2) = mt (2 * R.1 + k % 2) := by
      show 2 * R.1 + (1 - k % 2) = _
      unfold mt
      rcases (show k % 2 = 0 ∨ k % 2 = 1 by omega) with e | e <;> rw [e]
      · rw [if_pos (by omega)]
      · rw [if_neg (by omega)]
        omega
    rw [e1, e2] at s1 s2
    have hT1 : (nt_pair (nt_add (nt_copy Q R) (mv_sg k)) (mv_af R gap) (2 * R.1 + k % 2) (mt (2 * R.1 + k % 2))).1 = R.1 + 1 := by
      cases mv_af R gap <;> rfl
    have hTG : (nt_pair (nt_add (nt_copy Q R) (mv_sg k)) (mv_af R gap) (2 * R.1 + k % 2) (mt (2 * R.1 + k % 2))).2.2.2 = su (nt_copy Q R).2.2.2 R.1 (mv_sg k) := by
      cases mv_af R gap <;> rfl
    refine iso_mk hok hc hT1 (fun x hx => hx) (fun x y _ _ e => e) s1 (fun x hx => ?_) s2
    rw [hTG, su_at]
    show (if x = R.1 then _ else _) < 0 ↔ (if x = R.1 then _ else _) = true
    by_cases e : x = R.1
    · rw [if_pos e, if_pos e, decide_eq_true_iff]
      unfold mv_sg
      rcases (show k = 0 ∨ k = 1 ∨ k = 2 ∨ k = 3 by omega) with rfl | rfl | rfl | rfl <;> decide
    · rw [if_neg e, if_neg e]
      have := hcp.1.2.2.2.2.2.2.1 (x, 0) ((ho.2 _).mpr ⟨show x < R.1 by omega, show 0 < 2 by omega⟩)
      exact this
  constructor
  · rintro j hj ⟨F, P, Q, hmk, hQ, hB⟩
    have hB : mv_b1 R (j / 4) = true := hB
    have hj : j < if R.1 + 1 ≤ 12 then (2 * R.1 + 1) * 4 else 0 := hj
    by_cases hc : R.1 + 1 ≤ 12
    · rw [if_pos hc] at hj
      have hgap : ∃ g, isG A g ∧ (g < A.flatten.length ∧ j / 4 = lbv A idN g ∨ A.flatten.length ≤ g ∧ j / 4 = 2 * R.1) := by
        by_cases e : j / 4 < 2 * R.1
        · obtain ⟨v, hv, e2⟩ := lbv_sur (isoS_iff.mp h.1) e
          exact ⟨v, Or.inl hv, Or.inl ⟨hv, e2.symm⟩⟩
        · have e : j / 4 = 2 * R.1 := by omega
          unfold mv_b1 at hB
          rw [decide_eq_true e] at hB
          have h0 : R.2.1 ≠ 0 := fun e9 => by
            rw [e9] at hB
            exact absurd hB (by decide)
          obtain ⟨i, hi⟩ := cir_ex (A := A) (by omega)
          exact ⟨A.flatten.length + i, isG_E hi, Or.inr ⟨by omega, e⟩⟩
      obtain ⟨g, hg, hgap⟩ := hgap
      exact ⟨_, _, ⟨hc, g, j % 4, hg, by omega, rfl, rfl⟩, fun F' P' Q' _ _ => ⟨hB, idN, (main (Q := Q') hc hg (k := j % 4) (by omega) hgap).2⟩⟩
    · rw [if_neg hc] at hj
      omega
  · rintro A' sg' ⟨hc, g, k, hg, hk, rfl, rfl⟩
    have hcn : mv_cnt R.1 1 = (2 * R.1 + 1) * 4 := if_pos hc
    rw [hcn]
    have fin : ∀ gap, gap ≤ 2 * R.1 → (g < A.flatten.length ∧ gap = lbv A idN g ∨ A.flatten.length ≤ g ∧ gap = 2 * R.1) → ∃ j, j < (2 * R.1 + 1) * 4 ∧ ∀ (F P : Nat → Int32) (Q : ow_NT), mv_mk 1 R F P → ow_b24 Q.2.2.1 → mv_B 1 j Q R F P = true ∧ ∃ f, isoV (bldA A (insG g 1000 [(R.1, k % 2), (R.1, 1 - k % 2)] [])) (fun i => if i = R.1 then decide (2 ≤ k) else sg i) f (mv_T 1 j Q R F P) := by
      intro gap h1 h2
      refine ⟨gap * 4 + k, by omega, fun F P Q hmk hQ => ?_⟩
      show mv_b1 R ((gap * 4 + k) / 4) = true ∧ ∃ f, isoV _ _ f (mv_t1 Q R ((gap * 4 + k) / 4) ((gap * 4 + k) % 4))
      rw [show (gap * 4 + k) / 4 = gap by omega, show (gap * 4 + k) % 4 = k by omega]
      have := main (Q := Q) hc hg hk h2
      exact ⟨this.1, idN, this.2⟩
    rcases isG_c hg with h9 | ⟨i, e, hi⟩
    · have := lbv_lt (isoS_iff.mp h.1) h9
      have this : lbv A idN g < 2 * R.1 := this
      exact fin _ (by omega) (Or.inl ⟨h9, rfl⟩)
    · exact fin _ (Nat.le_refl _) (Or.inr ⟨by omega, rfl⟩)
end XP1b
