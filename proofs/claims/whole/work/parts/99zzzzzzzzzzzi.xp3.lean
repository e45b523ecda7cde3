/-! the moves of both sides: kind 3 -/
def f9 (c b x : Nat) : Nat := if x = c then c + b else if x = c + 1 then c + 1 - b else x
section XP3
variable {A : rn_L} {sg : Nat → Bool} {R Q : ow_NT} {g h i k o u c b0 b1 ch : Nat} {P P1 L : List vT} {p o1 o2 : vT}
theorem f9_lt (hb : b0 < 2) {x : Nat} (hx : x < c + 2) : f9 c b0 x < c + 2 := by
  unfold f9
  repeat' split
  all_goals omega
theorem f9_inj (hb : b0 < 2) {x y : Nat} (hx : x < c + 2) (hy : y < c + 2) (e : f9 c b0 x = f9 c b0 y) : x = y := by
  unfold f9 at e
  repeat' split at e
  all_goals omega
theorem f9_id {x : Nat} (hx : x < c) : f9 c b0 x = x := by
  unfold f9
  rw [if_neg (by omega), if_neg (by omega)]
theorem insV_pp (hp : p ∉ P) : insV (insV A p P) p P1 = insV A p (P1 ++ P) := by
  unfold insV
  rw [List.map_map]
  refine List.map_congr_left (fun L hL => ?_)
  show insL p P1 (insL p P L) = _
  unfold insL
  rw [List.flatMap_assoc]
  refine fm_pt (fun r hr => ?_)
  by_cases e : r = p
  · rw [if_pos e, if_pos e, List.flatMap_cons, if_pos e]
    have : insL p P1 P = P := insL_no hp
    show (r :: P1) ++ insL p P1 P = _
    rw [this]
    rfl
  · rw [if_neg e, if_neg e, List.flatMap_cons, if_neg e]
    rfl
theorem insV_lt (h2 : o2 ∉ A.flatten) (h12 : o1 ≠ o2) (hp : p ∈ A.flatten) : insV (insV A p [o1, o2]) o2 P1 = insV A p ([o1, o2] ++ P1) := by
  unfold insV
  rw [List.map_map]
  refine List.map_congr_left (fun L hL => ?_)
  show insL o2 P1 (insL p [o1, o2] L) = _
  unfold insL
  rw [List.flatMap_assoc]
  refine fm_pt (fun r hr => ?_)
  have hr2 : r ≠ o2 := fun e => h2 (by rw [← e]; exact List.mem_flatten.mpr ⟨L, hL, hr⟩)
  by_cases e : r = p
  · rw [if_pos e, if_pos e, List.flatMap_cons, if_neg hr2, List.flatMap_cons, if_neg h12, List.flatMap_cons, if_pos rfl]
    show r :: o1 :: (o2 :: P1 ++ []) = _
    rw [List.append_nil]
    rfl
  · rw [if_neg e, if_neg e, List.flatMap_cons, if_neg hr2]
    rfl
theorem insV_set (h2 : o2 ∉ A.flatten) (h12 : o1 ≠ o2) (hi : A[i]? = some []) : insV (A.set i [o1, o2]) o2 P1 = A.set i ([o1, o2] ++ P1) := by
  have hil := i_lt hi
  refine List.ext_getElem? (fun j => ?_)
  rw [insV_g, set_g hil, set_g hil]
  by_cases e : i = j
  · rw [if_pos e, if_pos e]
    show some (insL o2 P1 [o1, o2]) = _
    unfold insL
    rw [List.flatMap_cons, if_neg h12, List.flatMap_cons, if_pos rfl]
    show some (o1 :: (o2 :: P1 ++ [])) = _
    rw [List.append_nil]
    rfl
  · rw [if_neg e, if_neg e]
    by_cases hj : j < A.length
    · rw [List.getElem?_eq_getElem hj]
      show some (insL o2 P1 _) = _
      rw [insL_no (fun h9 => h2 (List.mem_flatten.mpr ⟨_, List.getElem_mem hj, h9⟩))]
    · rw [List.getElem?_eq_none (by omega)]
      rfl
theorem t3_lo (hk : k < 4) : t3P c k = [(c + k % 2, 0), (2 * c + 1 - (c + k % 2), 0)] ∧ t3Q c k = [(c + k / 2 % 2, 1), (2 * c + 1 - (c + k / 2 % 2), 1)] := by
  have e : k / 4 = 0 := by omega
  unfold t3P t3Q
  rw [e]
  exact ⟨rfl, rfl⟩
theorem t3_hi (hk : 4 ≤ k) (hk8 : k < 8) : t3P c k = [(c + k / 2 % 2, 1), (2 * c + 1 - (c + k / 2 % 2), 1)] ∧ t3Q c k = [(c + k % 2, 0), (2 * c + 1 - (c + k % 2), 0)] := by
  have e : k / 4 = 1 := by omega
  unfold t3P t3Q
  rw [e]
  exact ⟨rfl, rfl⟩
/-- the places of both sides -/
def plcR (A : rn_L) (c g h k o u : Nat) : Prop := (g < A.flatten.length ∧ o = lbv A idN g ∨ (∃ i, g = A.flatten.length + i ∧ A[i]? = some []) ∧ o = 2 * c) ∧ ((g ≠ h ∧ k < 4 ∧ (h < A.flatten.length ∧ u = lbv A idN h ∨ (∃ i, h = A.flatten.length + i ∧ A[i]? = some []) ∧ u = 2 * c + 1)) ∨ (g = h ∧ k < 4 ∧ u = 2 * c) ∨ (g = h ∧ 4 ≤ k ∧ (g < A.flatten.length ∧ u = lbv A idN g ∨ A.flatten.length ≤ g ∧ u = 2 * c)))
theorem pl_in (hV : isoV A sg idN R) (hk : k < 8) (hpl : plcR A R.1 g h k o u) : ∃ A1 A2, inQ A A1 (mv_af R o) (gl (f9 R.1 (k % 2))) (R.1 + k % 2, 0) (2 * R.1 + 1 - (R.1 + k % 2), 0) ∧ inQ A1 A2 (mv_au R u) (gl (f9 R.1 (k % 2))) (R.1 + k / 2 % 2, 1) (2 * R.1 + 1 - (R.1 + k / 2 % 2), 1) ∧ (t3A A R.1 g h k = A2 ∨ ∃ i Z W, A[i]? = some [] ∧ A2 = A.set i (Z ++ W) ∧ t3A A R.1 g h k = A.set i (W ++ Z)) := by
  have ho := isoV_ok hV
  have hn := hV.1.1.1
  have hlb : ∀ {v : Nat}, v < A.flatten.length → lbv A idN v < 2 * R.1 ∧ lbv A idN v = gl (f9 R.1 (k % 2)) (vAt A v) := by
    intro v hv
    have h1 := lb_un hV hv
    refine ⟨lbv_lt (isoS_iff.mp hV.1) hv, ?_⟩
    show _ = 2 * f9 R.1 (k % 2) (crs A v) + uns A v
    rw [f9_id h1.2.2.1]
    exact h1.1
  have nw : ∀ {q : vT}, q ∈ A.flatten → q.1 < R.1 := fun hq => ((ho.2 _).mp hq).1
  have o2n : ((2 * R.1 + 1 - (R.1 + k % 2), 0) : vT) ∉ A.flatten := fun h9 => by
    have := nw h9
    have this : 2 * R.1 + 1 - (R.1 + k % 2) < R.1 := this
    omega
  have o12 : ((R.1 + k % 2, 0) : vT) ≠ (2 * R.1 + 1 - (R.1 + k % 2), 0) := fun e => by
    have := congrArg Prod.fst e
    have this : R.1 + k % 2 = 2 * R.1 + 1 - (R.1 + k % 2) := this
    omega
  have qno : ∀ {q : vT}, q ∈ A.flatten → q ∉ [((R.1 + k % 2, 0) : vT), (2 * R.1 + 1 - (R.1 + k % 2), 0)] := by
    intro q hq h9
    have h1 := nw hq
    rcases List.mem_cons.mp h9 with h9 | h9
    · have := congrArg Prod.fst h9
      have this : q.1 = R.1 + k % 2 := this
      omega
    · have := congrArg Prod.fst (List.mem_singleton.mp h9)
      have this : q.1 = 2 * R.1 + 1 - (R.1 + k % 2) := this
      omega
  have go2 : gl (f9 R.1 (k % 2)) (2 * R.1 + 1 - (R.1 + k % 2), 0) = 2 * R.1 + 2 := by
    show 2 * f9 R.1 (k % 2) (2 * R.1 + 1 - (R.1 + k % 2)) + 0 = _
    unfold f9
    rcases (show k % 2 = 0 ∨ k % 2 = 1 by omega) with e | e <;> rw [e]
    · rw [if_neg (by omega), if_pos (by omega)]
      omega
    · rw [if_pos (by omega)]
      omega
  have au_v : ∀ {v : Nat}, v < A.flatten.length → mv_au R (lbv A idN v) = some (gl (f9 R.1 (k % 2)) (vAt A v)) := by
    intro v hv
    obtain ⟨e1, e2⟩ := hlb hv
    unfold mv_au
    rw [if_pos e1, e2]
  have au_2 : mv_au R (2 * R.1) = some (gl (f9 R.1 (k % 2)) (2 * R.1 + 1 - (R.1 + k % 2), 0)) := by
    unfold mv_au
    rw [if_neg (by omega), if_pos rfl, go2]
  have au_n : mv_au R (2 * R.1 + 1) = none := by
    unfold mv_au
    rw [if_neg (by omega), if_neg (by omega)]
  obtain ⟨hg, hu⟩ := hpl
  rcases hg with ⟨hg, eo⟩ | ⟨⟨i, eg, hi⟩, eo⟩
  · obtain ⟨e1, e2⟩ := hlb hg
    have pin : inQ A (insV A (vAt A g) [(R.1 + k % 2, 0), (2 * R.1 + 1 - (R.1 + k % 2), 0)]) (mv_af R o) (gl (f9 R.1 (k % 2))) (R.1 + k % 2, 0) (2 * R.1 + 1 - (R.1 + k % 2), 0) := Or.inl ⟨vAt A g, vAt_mem hg, rfl, by
      unfold mv_af
      rw [if_neg (by omega), eo, e2]⟩
    have pm := inQ_pm hn pin
    have inA : ∀ {q : vT}, q ∈ A.flatten → q ∈ (insV A (vAt A g) [(R.1 + k % 2, 0), (2 * R.1 + 1 - (R.1 + k % 2), 0)]).flatten := fun hq => pm.mem_iff.mpr (List.mem_append_left _ hq)
    refine ⟨insV A (vAt A g) [(R.1 + k % 2, 0), (2 * R.1 + 1 - (R.1 + k % 2), 0)], ?_⟩
    rcases hu with ⟨hgh, hk4, hu⟩ | ⟨rfl, hk4, rfl⟩ | ⟨rfl, hk4, hu⟩
    · obtain ⟨eP, eQ⟩ := t3_lo (c := R.1) hk4
      rcases hu with ⟨hh, rfl⟩ | ⟨⟨j, rfl, hj⟩, rfl⟩
      · refine ⟨_, pin, Or.inl ⟨vAt A h, inA (vAt_mem hh), rfl, au_v hh⟩, Or.inl ?_⟩
        unfold t3A
        rw [eP, eQ, b_VV hn hg hh hgh (qno (vAt_mem hh))]
      · refine ⟨_, pin, Or.inr ⟨j, by rw [insV_g, hj]; rfl, rfl, au_n⟩, Or.inl ?_⟩
        unfold t3A
        rw [eP, eQ, b_VE hn hg hj]
    · obtain ⟨eP, eQ⟩ := t3_lo (c := R.1) hk4
      refine ⟨_, pin, Or.inl ⟨_, pm.mem_iff.mpr (List.mem_append_right _ (List.mem_cons_of_mem _ List.mem_cons_self)), rfl, au_2⟩, Or.inl ?_⟩
      unfold t3A
      rw [eP, eQ, b_V2 hn hg, insV_lt o2n o12 (vAt_mem hg)]
    · obtain ⟨eP, eQ⟩ := t3_hi (c := R.1) hk4 hk
      rcases hu with ⟨-, rfl⟩ | ⟨h9, -⟩
      · refine ⟨_, pin, Or.inl ⟨vAt A g, inA (vAt_mem hg), rfl, au_v hg⟩, Or.inl ?_⟩
        unfold t3A
        rw [eP, eQ, b_V2 hn hg, insV_pp (qno (vAt_mem hg))]
      · omega
  · subst eg
    have pin : inQ A (A.set i [(R.1 + k % 2, 0), (2 * R.1 + 1 - (R.1 + k % 2), 0)]) (mv_af R o) (gl (f9 R.1 (k % 2))) (R.1 + k % 2, 0) (2 * R.1 + 1 - (R.1 + k % 2), 0) := Or.inr ⟨i, hi, rfl, by
      unfold mv_af
      rw [if_pos eo]⟩
    have pm := inQ_pm hn pin
    have inA : ∀ {q : vT}, q ∈ A.flatten → q ∈ (A.set i [(R.1 + k % 2, 0), (2 * R.1 + 1 - (R.1 + k % 2), 0)]).flatten := fun hq => pm.mem_iff.mpr (List.mem_append_left _ hq)
    refine ⟨A.set i [(R.1 + k % 2, 0), (2 * R.1 + 1 - (R.1 + k % 2), 0)], ?_⟩
    rcases hu with ⟨hgh, hk4, hu⟩ | ⟨rfl, hk4, rfl⟩ | ⟨rfl, hk4, hu⟩
    · obtain ⟨eP, eQ⟩ := t3_lo (c := R.1) hk4
      rcases hu with ⟨hh, rfl⟩ | ⟨⟨j, rfl, hj⟩, rfl⟩
      · refine ⟨_, pin, Or.inl ⟨vAt A h, inA (vAt_mem hh), rfl, au_v hh⟩, Or.inl ?_⟩
        unfold t3A
        rw [eP, eQ, b_EV hn hh hi (qno (vAt_mem hh))]
      · have hij : i ≠ j := fun e => hgh (by rw [e])
        refine ⟨_, pin, Or.inr ⟨j, by rw [set_g (i_lt hi), if_neg hij]; exact hj, rfl, au_n⟩, Or.inl ?_⟩
        unfold t3A
        rw [eP, eQ, b_EE hi hj hij]
    · obtain ⟨eP, eQ⟩ := t3_lo (c := R.1) hk4
      refine ⟨_, pin, Or.inl ⟨_, pm.mem_iff.mpr (List.mem_append_right _ (List.mem_cons_of_mem _ List.mem_cons_self)), rfl, au_2⟩, Or.inl ?_⟩
      unfold t3A
      rw [eP, eQ, b_E2 hi, insV_set o2n o12 hi]
    · obtain ⟨eP, eQ⟩ := t3_hi (c := R.1) hk4 hk
      rcases hu with ⟨h9, -⟩ | ⟨-, rfl⟩
      · omega
      · refine ⟨_, pin, Or.inl ⟨_, pm.mem_iff.mpr (List.mem_append_right _ (List.mem_cons_of_mem _ List.mem_cons_self)), rfl, au_2⟩, Or.inr ⟨i, [(R.1 + k % 2, 0), (2 * R.1 + 1 - (R.1 + k % 2), 0)], [(R.1 + k / 2 % 2, 1), (2 * R.1 + 1 - (R.1 + k / 2 % 2), 1)], hi, ?_, ?_⟩⟩
        · rw [insV_set o2n o12 hi]
        · unfold t3A
          rw [eP, eQ, b_E2 hi]
theorem pl_of (hV : isoV A sg idN R) (hg : isG A g) (hh : isG A h) (hk : k < 4 ∨ g = h ∧ k < 8) : ∃ o u, plcR A R.1 g h k o u ∧ o ≤ 2 * R.1 ∧ u ≤ 2 * R.1 + 1 ∧ mv_nd R o u ≤ R.2.1 := by
  have hC : cirs A = R.2.1 := hV.1.2.2.2.2.2.2.2
  have hl : ∀ {v : Nat}, v < A.flatten.length → lbv A idN v < 2 * R.1 := fun hv => lbv_lt (isoS_iff.mp hV.1) hv
  unfold mv_nd
  rcases isG_c hg with hg | ⟨i, hg, hi⟩
  · have hlg := hl hg
    by_cases hgh : g = h
    · by_cases hk4 : k < 4
      · exact ⟨lbv A idN g, 2 * R.1, ⟨Or.inl ⟨hg, rfl⟩, Or.inr (Or.inl ⟨hgh, hk4, rfl⟩)⟩, by omega, by omega, by rw [if_neg (by omega), if_neg (by omega)]; omega⟩
      · exact ⟨lbv A idN g, lbv A idN g, ⟨Or.inl ⟨hg, rfl⟩, Or.inr (Or.inr ⟨hgh, by omega, Or.inl ⟨hg, rfl⟩⟩)⟩, by omega, by omega, by rw [if_neg (by omega), if_neg (by omega)]; omega⟩
    · have hk4 : k < 4 := by omega
      rcases isG_c hh with hh | ⟨j, hh, hj⟩
      · have := hl hh
        exact ⟨lbv A idN g, lbv A idN h, ⟨Or.inl ⟨hg, rfl⟩, Or.inl ⟨hgh, hk4, Or.inl ⟨hh, rfl⟩⟩⟩, by omega, by omega, by rw [if_neg (by omega), if_neg (by omega)]; omega⟩
      · have := cir_ps hj
        exact ⟨lbv A idN g, 2 * R.1 + 1, ⟨Or.inl ⟨hg, rfl⟩, Or.inl ⟨hgh, hk4, Or.inr ⟨⟨j, hh, hj⟩, rfl⟩⟩⟩, by omega, by omega, by rw [if_neg (by omega), if_pos rfl]; omega⟩
  · have c1 := cir_ps hi
    by_cases hgh : g = h
    · by_cases hk4 : k < 4
      · exact ⟨2 * R.1, 2 * R.1, ⟨Or.inr ⟨⟨i, hg, hi⟩, rfl⟩, Or.inr (Or.inl ⟨hgh, hk4, rfl⟩)⟩, by omega, by omega, by rw [if_pos rfl, if_neg (by omega)]; omega⟩
      · exact ⟨2 * R.1, 2 * R.1, ⟨Or.inr ⟨⟨i, hg, hi⟩, rfl⟩, Or.inr (Or.inr ⟨hgh, by omega, Or.inr ⟨by omega, rfl⟩⟩)⟩, by omega, by omega, by rw [if_pos rfl, if_neg (by omega)]; omega⟩
    · have hk4 : k < 4 := by omega
      rcases isG_c hh with hh | ⟨j, hh, hj⟩
      · have := hl hh
        exact ⟨2 * R.1, lbv A idN h, ⟨Or.inr ⟨⟨i, hg, hi⟩, rfl⟩, Or.inl ⟨hgh, hk4, Or.inl ⟨hh, rfl⟩⟩⟩, by omega, by omega, by rw [if_pos rfl, if_neg (by omega)]; omega⟩
      · have hij : i ≠ j := fun e => hgh (by rw [hg, hh, e])
        have c2 := setE_cirs (P := [((0, 0) : vT)]) hi (by simp)
        have c3 : 0 < cirs (A.set i [((0, 0) : vT)]) := cir_ps (i := j) (by rw [set_g (i_lt hi), if_neg hij]; exact hj)
        exact ⟨2 * R.1, 2 * R.1 + 1, ⟨Or.inr ⟨⟨i, hg, hi⟩, rfl⟩, Or.inl ⟨hgh, hk4, Or.inr ⟨⟨j, hh, hj⟩, rfl⟩⟩⟩, by omega, by omega, by rw [if_pos rfl, if_pos rfl]; omega⟩
theorem pl_to (hV : isoV A sg idN R) (ho : o ≤ 2 * R.1) (hu : u ≤ 2 * R.1 + 1) (hnd : mv_nd R o u ≤ R.2.1) : ∃ g h, isG A g ∧ isG A h ∧ (plcR A R.1 g h 0 o u ∨ g = h ∧ plcR A R.1 g h 4 o u) := by
  have hC : cirs A = R.2.1 := hV.1.2.2.2.2.2.2.2
  have sur : ∀ {x : Nat}, x < 2 * R.1 → ∃ v, v < A.flatten.length ∧ x = lbv A idN v := fun hx => by
    obtain ⟨v, hv, e⟩ := lbv_sur (isoS_iff.mp hV.1) hx
    exact ⟨v, hv, e.symm⟩
  have h4 : ∀ k, k < 4 → k < 4 := fun k hk => hk
  unfold mv_nd at hnd
  by_cases eo : o = 2 * R.1
  · rw [if_pos eo] at hnd
    obtain ⟨i, hi⟩ := cir_ex (A := A) (by omega)
    by_cases eu : u = 2 * R.1 + 1
    · rw [if_pos eu] at hnd
      have c2 := setE_cirs (P := [((0, 0) : vT)]) hi (by simp)
      obtain ⟨j, hj⟩ := cir_ex (A := A.set i [((0, 0) : vT)]) (by omega)
      rw [set_g (i_lt hi)] at hj
      by_cases hij : i = j
      · rw [if_pos hij] at hj
        cases hj
      · rw [if_neg hij] at hj
        exact ⟨_, _, isG_E hi, isG_E hj, Or.inl ⟨Or.inr ⟨⟨i, rfl, hi⟩, eo⟩, Or.inl ⟨by omega, by omega, Or.inr ⟨⟨j, rfl, hj⟩, eu⟩⟩⟩⟩
    · by_cases eu2 : u = 2 * R.1
      · exact ⟨_, _, isG_E hi, isG_E hi, Or.inl ⟨Or.inr ⟨⟨i, rfl, hi⟩, eo⟩, Or.inr (Or.inl ⟨rfl, by omega, eu2⟩)⟩⟩
      · obtain ⟨w, hw, e⟩ := sur (x := u) (by omega)
        exact ⟨_, w, isG_E hi, Or.inl hw, Or.inl ⟨Or.inr ⟨⟨i, rfl, hi⟩, eo⟩, Or.inl ⟨by omega, by omega, Or.inl ⟨hw, e⟩⟩⟩⟩
  · obtain ⟨v, hv, e⟩ := sur (x := o) (by omega)
    by_cases eu : u = 2 * R.1 + 1
    · rw [if_pos eu] at hnd
      obtain ⟨j, hj⟩ := cir_ex (A := A) (by omega)
      exact ⟨v, _, Or.inl hv, isG_E hj, Or.inl ⟨Or.inl ⟨hv, e⟩, Or.inl ⟨by omega, by omega, Or.inr ⟨⟨j, rfl, hj⟩, eu⟩⟩⟩⟩
    · by_cases eu2 : u = 2 * R.1
      · exact ⟨v, v, Or.inl hv, Or.inl hv, Or.inl ⟨Or.inl ⟨hv, e⟩, Or.inr (Or.inl ⟨rfl, by omega, eu2⟩)⟩⟩
      · by_cases euo : u = o
        · exact ⟨v, v, Or.inl hv, Or.inl hv, Or.inr ⟨rfl, Or.inl ⟨hv, e⟩, Or.inr (Or.inr ⟨rfl, by omega, Or.inl ⟨hv, by rw [euo]; exact e⟩⟩)⟩⟩
        · obtain ⟨w, hw, e2⟩ := sur (x := u) (by omega)
          exact ⟨v, w, Or.inl hv, Or.inl hw, Or.inl ⟨Or.inl ⟨hv, e⟩, Or.inl ⟨fun e9 => euo (by rw [e2, e, e9]), by omega, Or.inl ⟨hw, e2⟩⟩⟩⟩
theorem pl_k (hpl : plcR A c g h k o u) {k' : Nat} (hk : k < 4 ↔ k' < 4) : plcR A c g h k' o u := by
  obtain ⟨h1, h2⟩ := hpl
  refine ⟨h1, ?_⟩
  rcases h2 with ⟨a, b, d⟩ | ⟨a, b, d⟩ | ⟨a, b, d⟩
  · exact Or.inl ⟨a, hk.mp b, d⟩
  · exact Or.inr (Or.inl ⟨a, hk.mp b, d⟩)
  · exact Or.inr (Or.inr ⟨a, Nat.le_of_not_lt (fun h9 => absurd (hk.mpr h9) (Nat.not_lt.mpr b)), d⟩)
end XP3
