section
/-! 99zzzzzzzzzzzi.xp3 -/
/-! the moves of both sides: kind 3 -/
def f9 (c b x : Nat) : Nat := if x = c then c + b else if x = c + 1 then c + 1 - b else x
section XP3
variable {A : rn_L} {sg : Nat → Bool} {R Q : ow_NT} {g h i k o u c b0 b1 ch : Nat} {P P1 L : List vT} {p o1 o2 : vT}
theorem f9_lt (hb : b0 < 2) {x : Nat} (hx : x < c + 2) : f9 c b0 x < c + 2 := by
  unfold f9
  repeat' split
  all_goals omega
theorem f9_inj (hb : b0 < 2) {x y : Nat} (hx : x < c + 2) (hy : y < c + 2) (e : f9 c b0 x = f9 c b0 y) : x = y := by
  unfold f9 at e
  repeat' split at e
  all_goals omega
theorem f9_id {x : Nat} (hx : x < c) : f9 c b0 x = x := by
  unfold f9
  rw [if_neg (by omega), if_neg (by omega)]
theorem insV_pp (hp : p ∉ P) : insV (insV A p P) p P1 = insV A p (P1 ++ P) := by
  unfold insV
  rw [List.map_map]
  refine List.map_congr_left (fun L hL => ?_)
  show insL p P1 (insL p P L) = _
  unfold insL
  rw [List.flatMap_assoc]
  refine fm_pt (fun r hr => ?_)
  by_cases e : r = p
  · rw [if_pos e, if_pos e, List.flatMap_cons, if_pos e]
    have : insL p P1 P = P := insL_no hp
    show (r :: P1) ++ insL p P1 P = _
    rw [this]
    rfl
  · rw [if_neg e, if_neg e, List.flatMap_cons, if_neg e]
    rfl
theorem insV_lt (h2 : o2 ∉ A.flatten) (h12 : o1 ≠ o2) (hp : p ∈ A.flatten) : insV (insV A p [o1, o2]) o2 P1 = insV A p ([o1, o2] ++ P1) := by
  unfold insV
  rw [List.map_map]
  refine List.map_congr_left (fun L hL => ?_)
  show insL o2 P1 (insL p [o1, o2] L) = _
  unfold insL
  rw [List.flatMap_assoc]
  refine fm_pt (fun r hr => ?_)
  have hr2 : r ≠ o2 := fun e => h2 (by rw [← e]; exact List.mem_flatten.mpr ⟨L, hL, hr⟩)
  by_cases e : r = p
  · rw [if_pos e, if_pos e, List.flatMap_cons, if_neg hr2, List.flatMap_cons, if_neg h12, List.flatMap_cons, if_pos rfl]
    show r :: o1 :: (o2 :: P1 ++ []) = _
    rw [List.append_nil]
    rfl
  · rw [if_neg e, if_neg e, List.flatMap_cons, if_neg hr2]
    rfl
theorem insV_set (h2 : o2 ∉ A.flatten) (h12 : o1 ≠ o2) (hi : A[i]? = some []) : insV (A.set i [o1, o2]) o2 P1 = A.set i ([o1, o2] ++ P1) := by
  have hil := i_lt hi
  refine List.ext_getElem? (fun j => ?_)
  rw [insV_g, set_g hil, set_g hil]
  by_cases e : i = j
  · rw [if_pos e, if_pos e]
    show some (insL o2 P1 [o1, o2]) = _
    unfold insL
    rw [List.flatMap_cons, if_neg h12, List.flatMap_cons, if_pos rfl]
    show some (o1 :: (o2 :: P1 ++ [])) = _
    rw [List.append_nil]
    rfl
  · rw [if_neg e, if_neg e]
    by_cases hj : j < A.length
    · rw [List.getElem?_eq_getElem hj]
      show some (insL o2 P1 _) = _
      rw [insL_no (fun h9 => h2 (List.mem_flatten.mpr ⟨_, List.getElem_mem hj, h9⟩))]
    · rw [List.getElem?_eq_none (by omega)]
      rfl
theorem t3_lo (hk : k < 4) : t3P c k = [(c + k % 2, 0), (2 * c + 1 - (c + k % 2), 0)] ∧ t3Q c k = [(c + k / 2 % 2, 1), (2 * c + 1 - (c + k / 2 % 2), 1)] := by
  have e : k / 4 = 0 := by omega
  unfold t3P t3Q
  rw [e]
  exact ⟨rfl, rfl⟩
theorem t3_hi (hk : 4 ≤ k) (hk8 : k < 8) : t3P c k = [(c + k / 2 % 2, 1), (2 * c + 1 - (c + k / 2 % 2), 1)] ∧ t3Q c k = [(c + k % 2, 0), (2 * c + 1 - (c + k % 2), 0)] := by
  have e : k / 4 = 1 := by omega
  unfold t3P t3Q
  rw [e]
  exact ⟨rfl, rfl⟩
/-- the places of both sides -/
def plcR (A : rn_L) (c g h k o u : Nat) : Prop := (g < A.flatten.length ∧ o = lbv A idN g ∨ (∃ i, g = A.flatten.length + i ∧ A[i]? = some []) ∧ o = 2 * c) ∧ ((g ≠ h ∧ k < 4 ∧ (h < A.flatten.length ∧ u = lbv A idN h ∨ (∃ i, h = A.flatten.length + i ∧ A[i]? = some []) ∧ u = 2 * c + 1)) ∨ (g = h ∧ k < 4 ∧ u = 2 * c) ∨ (g = h ∧ 4 ≤ k ∧ (g < A.flatten.length ∧ u = lbv A idN g ∨ A.flatten.length ≤ g ∧ u = 2 * c)))
theorem pl_in (hV : isoV A sg idN R) (hk : k < 8) (hpl : plcR A R.1 g h k o u) : ∃ A1 A2, inQ A A1 (mv_af R o) (gl (f9 R.1 (k % 2))) (R.1 + k % 2, 0) (2 * R.1 + 1 - (R.1 + k % 2), 0) ∧ inQ A1 A2 (mv_au R u) (gl (f9 R.1 (k % 2))) (R.1 + k / 2 % 2, 1) (2 * R.1 + 1 - (R.1 + k / 2 % 2), 1) ∧ (t3A A R.1 g h k = A2 ∨ ∃ i Z W, A[i]? = some [] ∧ A2 = A.set i (Z ++ W) ∧ t3A A R.1 g h k = A.set i (W ++ Z)) := by
  have ho := isoV_ok hV
  have hn := hV.1.1.1
  have hlb : ∀ {v : Nat}, v < A.flatten.length → lbv A idN v < 2 * R.1 ∧ lbv A idN v = gl (f9 R.1 (k % 2)) (vAt A v) := by
    intro v hv
    have h1 := lb_un hV hv
    refine ⟨lbv_lt (isoS_iff.mp hV.1) hv, ?_⟩
    show _ = 2 * f9 R.1 (k % 2) (crs A v) + uns A v
    rw [f9_id h1.2.2.1]
    exact h1.1
  have nw : ∀ {q : vT}, q ∈ A.flatten → q.1 < R.1 := fun hq => ((ho.2 _).mp hq).1
  have o2n : ((2 * R.1 + 1 - (R.1 + k % 2), 0) : vT) ∉ A.flatten := fun h9 => by
    have := nw h9
    have this : 2 * R.1 + 1 - (R.1 + k % 2) < R.1 := this
    omega
  have o12 : ((R.1 + k % 2, 0) : vT) ≠ (2 * R.1 + 1 - (R.1 + k % 2), 0) := fun e => by
    have := congrArg Prod.fst e
    have this : R.1 + k % 2 = 2 * R.1 + 1 - (R.1 + k % 2) := this
    omega
  have qno : ∀ {q : vT}, q ∈ A.flatten → q ∉ [((R.1 + k % 2, 0) : vT), (2 * R.1 + 1 - (R.1 + k % 2), 0)] := by
    intro q hq h9
    have h1 := nw hq
    rcases List.mem_cons.mp h9 with h9 | h9
    · have := congrArg Prod.fst h9
      have this : q.1 = R.1 + k % 2 := this
      omega
    · have := congrArg Prod.fst (List.mem_singleton.mp h9)
      have this : q.1 = 2 * R.1 + 1 - (R.1 + k % 2) := this
      omega
  have go2 : gl (f9 R.1 (k % 2)) (2 * R.1 + 1 - (R.1 + k % 2), 0) = 2 * R.1 + 2 := by
    show 2 * f9 R.1 (k % 2) (2 * R.1 + 1 - (R.1 + k % 2)) + 0 = _
    unfold f9
    rcases (show k % 2 = 0 ∨ k % 2 = 1 by omega) with e | e <;> rw [e]
    · rw [if_neg (by omega), if_pos (by omega)]
      omega
    · rw [if_pos (by omega)]
      omega
  have au_v : ∀ {v : Nat}, v < A.flatten.length → mv_au R (lbv A idN v) = some (gl (f9 R.1 (k % 2)) (vAt A v)) := by
    intro v hv
    obtain ⟨e1, e2⟩ := hlb hv
    unfold mv_au
    rw [if_pos e1, e2]
  have au_2 : mv_au R (2 * R.1) = some (gl (f9 R.1 (k % 2)) (2 * R.1 + 1 - (R.1 + k % 2), 0)) := by
    unfold mv_au
    rw [if_neg (by omega), if_pos rfl, go2]
  have au_n : mv_au R (2 * R.1 + 1) = none := by
    unfold mv_au
    rw [if_neg (by omega), if_neg (by omega)]
  obtain ⟨hg, hu⟩ := hpl
  rcases hg with ⟨hg, eo⟩ | ⟨⟨i, eg, hi⟩, eo⟩
  · obtain ⟨e1, e2⟩ := hlb hg
    have pin : inQ A (insV A (vAt A g) [(R.1 + k % 2, 0), (2 * R.1 + 1 - (R.1 + k % 2), 0)]) (mv_af R o) (gl (f9 R.1 (k % 2))) (R.1 + k % 2, 0) (2 * R.1 + 1 - (R.1 + k % 2), 0) := Or.inl ⟨vAt A g, vAt_mem hg, rfl, by
      unfold mv_af
      rw [if_neg (by omega), eo, e2]⟩
    have pm := inQ_pm hn pin
    have inA : ∀ {q : vT}, q ∈ A.flatten → q ∈ (insV A (vAt A g) [(R.1 + k % 2, 0), (2 * R.1 + 1 - (R.1 + k % 2), 0)]).flatten := fun hq => pm.mem_iff.mpr (List.mem_append_left _ hq)
    refine ⟨insV A (vAt A g) [(R.1 + k % 2, 0), (2 * R.1 + 1 - (R.1 + k % 2), 0)], ?_⟩
    rcases hu with ⟨hgh, hk4, hu⟩ | ⟨rfl, hk4, rfl⟩ | ⟨rfl, hk4, hu⟩
    · obtain ⟨eP, eQ⟩ := t3_lo (c := R.1) hk4
      rcases hu with ⟨hh, rfl⟩ | ⟨⟨j, rfl, hj⟩, rfl⟩
      · refine ⟨_, pin, Or.inl ⟨vAt A h, inA (vAt_mem hh), rfl, au_v hh⟩, Or.inl ?_⟩
        unfold t3A
        rw [eP, eQ, b_VV hn hg hh hgh (qno (vAt_mem hh))]
      · refine ⟨_, pin, Or.inr ⟨j, by rw [insV_g, hj]; rfl, rfl, au_n⟩, Or.inl ?_⟩
        unfold t3A
        rw [eP, eQ, b_VE hn hg hj]
    · obtain ⟨eP, eQ⟩ := t3_lo (c := R.1) hk4
      refine ⟨_, pin, Or.inl ⟨_, pm.mem_iff.mpr (List.mem_append_right _ (List.mem_cons_of_mem _ List.mem_cons_self)), rfl, au_2⟩, Or.inl ?_⟩
      unfold t3A
      rw [eP, eQ, b_V2 hn hg, insV_lt o2n o12 (vAt_mem hg)]
    · obtain ⟨eP, eQ⟩ := t3_hi (c := R.1) hk4 hk
      rcases hu with ⟨-, rfl⟩ | ⟨h9, -⟩
      · refine ⟨_, pin, Or.inl ⟨vAt A g, inA (vAt_mem hg), rfl, au_v hg⟩, Or.inl ?_⟩
        unfold t3A
        rw [eP, eQ, b_V2 hn hg, insV_pp (qno (vAt_mem hg))]
      · omega
  · subst eg
    have pin : inQ A (A.set i [(R.1 + k % 2, 0), (2 * R.1 + 1 - (R.1 + k % 2), 0)]) (mv_af R o) (gl (f9 R.1 (k % 2))) (R.1 + k % 2, 0) (2 * R.1 + 1 - (R.1 + k % 2), 0) := Or.inr ⟨i, hi, rfl, by
      unfold mv_af
      rw [if_pos eo]⟩
    have pm := inQ_pm hn pin
    have inA : ∀ {q : vT}, q ∈ A.flatten → q ∈ (A.set i [(R.1 + k % 2, 0), (2 * R.1 + 1 - (R.1 + k % 2), 0)]).flatten := fun hq => pm.mem_iff.mpr (List.mem_append_left _ hq)
    refine ⟨A.set i [(R.1 + k % 2, 0), (2 * R.1 + 1 - (R.1 + k % 2), 0)], ?_⟩
    rcases hu with ⟨hgh, hk4, hu⟩ | ⟨rfl, hk4, rfl⟩ | ⟨rfl, hk4, hu⟩
    · obtain ⟨eP, eQ⟩ := t3_lo (c := R.1) hk4
      rcases hu with ⟨hh, rfl⟩ | ⟨⟨j, rfl, hj⟩, rfl⟩
      · refine ⟨_, pin, Or.inl ⟨vAt A h, inA (vAt_mem hh), rfl, au_v hh⟩, Or.inl ?_⟩
        unfold t3A
        rw [eP, eQ, b_EV hn hh hi (qno (vAt_mem hh))]
      · have hij : i ≠ j := fun e => hgh (by rw [e])
        refine ⟨_, pin, Or.inr ⟨j, by rw [set_g (i_lt hi), if_neg hij]; exact hj, rfl, au_n⟩, Or.inl ?_⟩
        unfold t3A
        rw [eP, eQ, b_EE hi hj hij]
    · obtain ⟨eP, eQ⟩ := t3_lo (c := R.1) hk4
      refine ⟨_, pin, Or.inl ⟨_, pm.mem_iff.mpr (List.mem_append_right _ (List.mem_cons_of_mem _ List.mem_cons_self)), rfl, au_2⟩, Or.inl ?_⟩
      unfold t3A
      rw [eP, eQ, b_E2 hi, insV_set o2n o12 hi]
    · obtain ⟨eP, eQ⟩ := t3_hi (c := R.1) hk4 hk
      rcases hu with ⟨h9, -⟩ | ⟨-, rfl⟩
      · omega
      · refine ⟨_, pin, Or.inl ⟨_, pm.mem_iff.mpr (List.mem_append_right _ (List.mem_cons_of_mem _ List.mem_cons_self)), rfl, au_2⟩, Or.inr ⟨i, [(R.1 + k % 2, 0), (2 * R.1 + 1 - (R.1 + k % 2), 0)], [(R.1 + k / 2 % 2, 1), (2 * R.1 + 1 - (R.1 + k / 2 % 2), 1)], hi, ?_, ?_⟩⟩
        · rw [insV_set o2n o12 hi]
        · unfold t3A
          rw [eP, eQ, b_E2 hi]
theorem pl_of (hV : isoV A sg idN R) (hg : isG A g) (hh : isG A h) (hk : k < 4 ∨ g = h ∧ k < 8) : ∃ o u, plcR A R.1 g h k o u ∧ o ≤ 2 * R.1 ∧ u ≤ 2 * R.1 + 1 ∧ mv_nd R o u ≤ R.2.1 := by
  have hC : cirs A = R.2.1 := hV.1.2.2.2.2.2.2.2
  have hl : ∀ {v : Nat}, v < A.flatten.length → lbv A idN v < 2 * R.1 := fun hv => lbv_lt (isoS_iff.mp hV.1) hv
  unfold mv_nd
  rcases isG_c hg with hg | ⟨i, hg, hi⟩
  · have hlg := hl hg
    by_cases hgh : g = h
    · by_cases hk4 : k < 4
      · exact ⟨lbv A idN g, 2 * R.1, ⟨Or.inl ⟨hg, rfl⟩, Or.inr (Or.inl ⟨hgh, hk4, rfl⟩)⟩, by omega, by omega, by rw [if_neg (by omega), if_neg (by omega)]; omega⟩
      · exact ⟨lbv A idN g, lbv A idN g, ⟨Or.inl ⟨hg, rfl⟩, Or.inr (Or.inr ⟨hgh, by omega, Or.inl ⟨hg, rfl⟩⟩)⟩, by omega, by omega, by rw [if_neg (by omega), if_neg (by omega)]; omega⟩
    · have hk4 : k < 4 := by omega
      rcases isG_c hh with hh | ⟨j, hh, hj⟩
      · have := hl hh
        exact ⟨lbv A idN g, lbv A idN h, ⟨Or.inl ⟨hg, rfl⟩, Or.inl ⟨hgh, hk4, Or.inl ⟨hh, rfl⟩⟩⟩, by omega, by omega, by rw [if_neg (by omega), if_neg (by omega)]; omega⟩
      · have := cir_ps hj
        exact ⟨lbv A idN g, 2 * R.1 + 1, ⟨Or.inl ⟨hg, rfl⟩, Or.inl ⟨hgh, hk4, Or.inr ⟨⟨j, hh, hj⟩, rfl⟩⟩⟩, by omega, by omega, by rw [if_neg (by omega), if_pos rfl]; omega⟩
  · have c1 := cir_ps hi
    by_cases hgh : g = h
    · by_cases hk4 : k < 4
      · exact ⟨2 * R.1, 2 * R.1, ⟨Or.inr ⟨⟨i, hg, hi⟩, rfl⟩, Or.inr (Or.inl ⟨hgh, hk4, rfl⟩)⟩, by omega, by omega, by rw [if_pos rfl, if_neg (by omega)]; omega⟩
      · exact ⟨2 * R.1, 2 * R.1, ⟨Or.inr ⟨⟨i, hg, hi⟩, rfl⟩, Or.inr (Or.inr ⟨hgh, by omega, Or.inr ⟨by omega, rfl⟩⟩)⟩, by omega, by omega, by rw [if_pos rfl, if_neg (by omega)]; omega⟩
    · have hk4 : k < 4 := by omega
      rcases isG_c hh with hh | ⟨j, hh, hj⟩
      · have := hl hh
        exact ⟨2 * R.1, lbv A idN h, ⟨Or.inr ⟨⟨i, hg, hi⟩, rfl⟩, Or.inl ⟨hgh, hk4, Or.inl ⟨hh, rfl⟩⟩⟩, by omega, by omega, by rw [if_pos rfl, if_neg (by omega)]; omega⟩
      · have hij : i ≠ j := fun e => hgh (by rw [hg, hh, e])
        have c2 := setE_cirs (P := [((0, 0) : vT)]) hi (by simp)
        have c3 : 0 < cirs (A.set i [((0, 0) : vT)]) := cir_ps (i := j) (by rw [set_g (i_lt hi), if_neg hij]; exact hj)
        exact ⟨2 * R.1, 2 * R.1 + 1, ⟨Or.inr ⟨⟨i, hg, hi⟩, rfl⟩, Or.inl ⟨hgh, hk4, Or.inr ⟨⟨j, hh, hj⟩, rfl⟩⟩⟩, by omega, by omega, by rw [if_pos rfl, if_pos rfl]; omega⟩
theorem pl_to (hV : isoV A sg idN R) (ho : o ≤ 2 * R.1) (hu : u ≤ 2 * R.1 + 1) (hnd : mv_nd R o u ≤ R.2.1) : ∃ g h, isG A g ∧ isG A h ∧ (plcR A R.1 g h 0 o u ∨ g = h ∧ plcR A R.1 g h 4 o u) := by
  have hC : cirs A = R.2.1 := hV.1.2.2.2.2.2.2.2
  have sur : ∀ {x : Nat}, x < 2 * R.1 → ∃ v, v < A.flatten.length ∧ x = lbv A idN v := fun hx => by
    obtain ⟨v, hv, e⟩ := lbv_sur (isoS_iff.mp hV.1) hx
    exact ⟨v, hv, e.symm⟩
  have h4 : ∀ k, k < 4 → k < 4 := fun k hk => hk
  unfold mv_nd at hnd
  by_cases eo : o = 2 * R.1
  · rw [if_pos eo] at hnd
    obtain ⟨i, hi⟩ := cir_ex (A := A) (by omega)
    by_cases eu : u = 2 * R.1 + 1
    · rw [if_pos eu] at hnd
      have c2 := setE_cirs (P := [((0, 0) : vT)]) hi (by simp)
      obtain ⟨j, hj⟩ := cir_ex (A := A.set i [((0, 0) : vT)]) (by omega)
      rw [set_g (i_lt hi)] at hj
      by_cases hij : i = j
      · rw [if_pos hij] at hj
        cases hj
      · rw [if_neg hij] at hj
        exact ⟨_, _, isG_E hi, isG_E hj, Or.inl ⟨Or.inr ⟨⟨i, rfl, hi⟩, eo⟩, Or.inl ⟨by omega, by omega, Or.inr ⟨⟨j, rfl, hj⟩, eu⟩⟩⟩⟩
    · by_cases eu2 : u = 2 * R.1
      · exact ⟨_, _, isG_E hi, isG_E hi, Or.inl ⟨Or.inr ⟨⟨i, rfl, hi⟩, eo⟩, Or.inr (Or.inl ⟨rfl, by omega, eu2⟩)⟩⟩
      · obtain ⟨w, hw, e⟩ := sur (x := u) (by omega)
        exact ⟨_, w, isG_E hi, Or.inl hw, Or.inl ⟨Or.inr ⟨⟨i, rfl, hi⟩, eo⟩, Or.inl ⟨by omega, by omega, Or.inl ⟨hw, e⟩⟩⟩⟩
  · obtain ⟨v, hv, e⟩ := sur (x := o) (by omega)
    by_cases eu : u = 2 * R.1 + 1
    · rw [if_pos eu] at hnd
      obtain ⟨j, hj⟩ := cir_ex (A := A) (by omega)
      exact ⟨v, _, Or.inl hv, isG_E hj, Or.inl ⟨Or.inl ⟨hv, e⟩, Or.inl ⟨by omega, by omega, Or.inr ⟨⟨j, rfl, hj⟩, eu⟩⟩⟩⟩
    · by_cases eu2 : u = 2 * R.1
      · exact ⟨v, v, Or.inl hv, Or.inl hv, Or.inl ⟨Or.inl ⟨hv, e⟩, Or.inr (Or.inl ⟨rfl, by omega, eu2⟩)⟩⟩
      · by_cases euo : u = o
        · exact ⟨v, v, Or.inl hv, Or.inl hv, Or.inr ⟨rfl, Or.inl ⟨hv, e⟩, Or.inr (Or.inr ⟨rfl, by omega, Or.inl ⟨hv, by rw [euo]; exact e⟩⟩)⟩⟩
        · obtain ⟨w, hw, e2⟩ := sur (x := u) (by omega)
          exact ⟨v, w, Or.inl hv, Or.inl hw, Or.inl ⟨Or.inl ⟨hv, e⟩, Or.inl ⟨fun e9 => euo (by rw [e2, e, e9]), by omega, Or.inl ⟨hw, e2⟩⟩⟩⟩
theorem pl_k (hpl : plcR A c g h k o u) {k' : Nat} (hk : k < 4 ↔ k' < 4) : plcR A c g h k' o u := by
  obtain ⟨h1, h2⟩ := hpl
  refine ⟨h1, ?_⟩
  rcases h2 with ⟨a, b, d⟩ | ⟨a, b, d⟩ | ⟨a, b, d⟩
  · exact Or.inl ⟨a, hk.mp b, d⟩
  · exact Or.inr (Or.inl ⟨a, hk.mp b, d⟩)
  · exact Or.inr (Or.inr ⟨a, Nat.le_of_not_lt (fun h9 => absurd (hk.mpr h9) (Nat.not_lt.mpr b)), d⟩)
end XP3
end
section
/-! 99zzzzzzzzzzzj.xp3b -/
/-! the moves of both sides: kind 3, whole -/
section XP3B
variable {A A1 A2 : rn_L} {sg : Nat → Bool} {R Q : ow_NT} {g h i k o u ch : Nat} {f : Nat → Nat} {T : ow_NT}
theorem iso_ro {Z W : List vT} (hi : A[i]? = some []) (h : isoV (A.set i (Z ++ W)) sg f T) : isoV (A.set i (W ++ Z)) sg f T := by
  obtain ⟨Pre, Post, rfl, e⟩ := set_at hi
  rw [e] at h ⊢
  have hn := h.1.1.1
  have nC : (Z ++ W).Nodup := L_nd hn (by simp)
  refine isoV_lists h ?_ ?_ (fun L hL p hp => ?_)
  · rw [List.flatten_append, List.flatten_append, List.flatten_cons, List.flatten_cons]
    exact List.Perm.append_left _ (List.Perm.append_right _ List.perm_append_comm)
  · rw [cirs_app2, cirs_app2, cirs_cons, cirs_cons]
    have : (W ++ Z = []) ↔ (Z ++ W = []) := by
      rw [List.append_eq_nil_iff, List.append_eq_nil_iff]
      exact ⟨fun h => ⟨h.2, h.1⟩, fun h => ⟨h.2, h.1⟩⟩
    by_cases e9 : Z ++ W = []
    · rw [if_pos e9, if_pos (this.mpr e9)]
    · rw [if_neg e9, if_neg (fun h9 => e9 (this.mp h9))]
  · rcases List.mem_append.mp hL with h9 | h9
    · exact ⟨L, List.mem_append_left _ h9, hp, rfl⟩
    · rcases List.mem_cons.mp h9 with h9 | h9
      · rw [h9] at hp ⊢
        have hp' : p ∈ Z ++ W := by
          rcases List.mem_append.mp hp with h8 | h8
          · exact List.mem_append_right _ h8
          · exact List.mem_append_left _ h8
        exact ⟨Z ++ W, by simp, hp', sc_rot nC hp'⟩
      · exact ⟨L, List.mem_append_right _ (List.mem_cons_of_mem _ h9), hp, rfl⟩
theorem t3b_1 : (mv_t3b Q R o u ch).1 = R.1 + 2 := by
  unfold mv_t3b mv_t3a
  cases mv_au R u <;> cases mv_af R o <;> rfl
theorem t3b_G : (mv_t3b Q R o u ch).2.2.2 = su (su (nt_copy Q R).2.2.2 R.1 (mv_s1 ch)) (R.1 + 1) (mv_s2 ch) := by
  unfold mv_t3b mv_t3a
  cases mv_au R u <;> cases mv_af R o <;> rfl
theorem cpy_G {x : Nat} (hx : x < R.1) : (nt_copy Q R).2.2.2 x = R.2.2.2 x := by
  show va_cpy R.2.2.2 Q.2.2.2 0 0 R.1 x = _
  rw [pk_cpy_in (Nat.zero_le x) (by omega), Nat.zero_add, Nat.sub_zero]
theorem t3b_p (hp : pm1 R) : pm1 (mv_t3b Q R o u ch) := by
  intro x hx
  rw [t3b_1] at hx
  rw [t3b_G, su_at]
  by_cases e1 : x = R.1 + 1
  · rw [if_pos e1]
    unfold mv_s2
    split
    · exact Or.inr rfl
    · exact Or.inl rfl
  · rw [if_neg e1, su_at]
    by_cases e2 : x = R.1
    · rw [if_pos e2]
      unfold mv_s1
      split
      · exact Or.inl rfl
      · exact Or.inr rfl
    · rw [if_neg e2, cpy_G (by omega)]
      exact hp x (by omega)
theorem iso_3 (hV : isoV A sg idN R) (hc : R.1 + 2 ≤ 12) (e0 : ch % 2 = k % 2) (e1 : ch / 2 % 2 = if k % 2 = k / 2 % 2 then 0 else 1) (i1 : inQ A A1 (mv_af R o) (gl (f9 R.1 (k % 2))) (R.1 + k % 2, 0) (2 * R.1 + 1 - (R.1 + k % 2), 0)) (i2 : inQ A1 A2 (mv_au R u) (gl (f9 R.1 (k % 2))) (R.1 + k / 2 % 2, 1) (2 * R.1 + 1 - (R.1 + k / 2 % 2), 1)) : isoV A2 (t3S sg R.1) (f9 R.1 (k % 2)) (mv_t3b Q R o u ch) := by
  have ho := isoV_ok hV
  have hn := hV.1.1.1
  have hC : cirs A = R.2.1 := hV.1.2.2.2.2.2.2.2
  have b0 : k % 2 < 2 := by omega
  have b1 : k / 2 % 2 < 2 := by omega
  have ok2 := okB_F ho (two_ok (c := R.1) (a := k % 2) (b := k / 2 % 2) (u := 0) b0 b1 (by omega))
  have pm1' := inQ_pm hn i1
  have nA : (A.flatten ++ [((R.1 + k % 2, 0) : vT), (2 * R.1 + 1 - (R.1 + k % 2), 0)] ++ [((R.1 + k / 2 % 2, 1) : vT), (2 * R.1 + 1 - (R.1 + k / 2 % 2), 1)]).Nodup := by
    have := ok2.1
    rw [List.append_assoc]
    exact this
  have n1 : A1.flatten.Nodup := pm1'.nodup_iff.mpr (List.nodup_append.mp nA).1
  have pm2 := (inQ_pm n1 i2).trans (List.Perm.append_right _ pm1')
  have hok : okF A2.flatten (R.1 + 2) := by
    refine okF_pm pm2 ?_
    rw [List.append_assoc]
    exact ok2
  have gin2 : gin (gl (f9 R.1 (k % 2))) A2.flatten := by
    intro p q hp hq e
    have h1 := (hok.2 p).mp hp
    have h2 := (hok.2 q).mp hq
    have e : 2 * f9 R.1 (k % 2) p.1 + p.2 = 2 * f9 R.1 (k % 2) q.1 + q.2 := e
    exact Prod.ext (f9_inj b0 h1.1 h2.1 (by omega)) (by omega)
  have gin1 : gin (gl (f9 R.1 (k % 2))) A1.flatten := gin_sub gin2 (fun a ha => (inQ_pm n1 i2).mem_iff.mpr (List.mem_append_left _ ha))
  have hcp := isoV_cpy (Q := Q) hV
  have sA : shP (nt_copy Q R).2.2.1 (gl (f9 R.1 (k % 2))) A := shP_gcg hn (fun p hp => by
    show 2 * f9 R.1 (k % 2) p.1 + p.2 = 2 * p.1 + p.2
    rw [f9_id ((ho.2 p).mp hp).1]) hcp.2
  have l1 : gl (f9 R.1 (k % 2)) (R.1 + k % 2, 0) = 2 * R.1 := by
    show 2 * f9 R.1 (k % 2) (R.1 + k % 2) + 0 = _
    unfold f9
    rcases (show k % 2 = 0 ∨ k % 2 = 1 by omega) with e | e <;> rw [e]
    · rw [if_pos (by omega)]
      omega
    · rw [if_neg (by omega), if_pos (by omega)]
      omega
  have l2 : gl (f9 R.1 (k % 2)) (2 * R.1 + 1 - (R.1 + k % 2), 0) = 2 * R.1 + 2 := by
    show 2 * f9 R.1 (k % 2) (2 * R.1 + 1 - (R.1 + k % 2)) + 0 = _
    unfold f9
    rcases (show k % 2 = 0 ∨ k % 2 = 1 by omega) with e | e <;> rw [e]
    · rw [if_neg (by omega), if_pos (by omega)]
      omega
    · rw [if_pos (by omega)]
      omega
  have l34 : gl (f9 R.1 (k % 2)) (R.1 + k / 2 % 2, 1) = (if ch / 2 % 2 = 0 then 2 * R.1 + 1 else 2 * R.1 + 3) ∧ gl (f9 R.1 (k % 2)) (2 * R.1 + 1 - (R.1 + k / 2 % 2), 1) = if ch / 2 % 2 = 0 then 2 * R.1 + 3 else 2 * R.1 + 1 := by
    show 2 * f9 R.1 (k % 2) (R.1 + k / 2 % 2) + 1 = _ ∧ 2 * f9 R.1 (k % 2) (2 * R.1 + 1 - (R.1 + k / 2 % 2)) + 1 = _
    rcases (show k % 2 = 0 ∨ k % 2 = 1 by omega) with e | e <;> rcases (show k / 2 % 2 = 0 ∨ k / 2 % 2 = 1 by omega) with e2 | e2 <;> rw [e, e2] at e1 ⊢ <;> unfold f9
    · have e1 : ch / 2 % 2 = 0 := e1
      rw [e1, if_pos (show R.1 + 0 = R.1 by omega), if_pos rfl, if_neg (show ¬ 2 * R.1 + 1 - (R.1 + 0) = R.1 by omega), if_pos (show 2 * R.1 + 1 - (R.1 + 0) = R.1 + 1 by omega), if_pos rfl]
      omega
    · have e1 : ch / 2 % 2 = 1 := e1
      rw [e1, if_neg (show ¬ R.1 + 1 = R.1 by omega), if_pos rfl, if_neg (show ¬ 1 = 0 by omega), if_pos (show 2 * R.1 + 1 - (R.1 + 1) = R.1 by omega), if_neg (show ¬ 1 = 0 by omega)]
      omega
    · have e1 : ch / 2 % 2 = 1 := e1
      rw [e1, if_pos (show R.1 + 0 = R.1 by omega), if_neg (show ¬ 1 = 0 by omega), if_neg (show ¬ 2 * R.1 + 1 - (R.1 + 0) = R.1 by omega), if_pos (show 2 * R.1 + 1 - (R.1 + 0) = R.1 + 1 by omega), if_neg (show ¬ 1 = 0 by omega)]
      omega
    · have e1 : ch / 2 % 2 = 0 := e1
      rw [e1, if_neg (show ¬ R.1 + 1 = R.1 by omega), if_pos rfl, if_pos rfl, if_pos (show 2 * R.1 + 1 - (R.1 + 1) = R.1 by omega), if_pos rfl]
      omega
  obtain ⟨l3, l4⟩ := l34
  obtain ⟨s1, s2⟩ := inQ_sh (T := nt_add (nt_add (nt_copy Q R) (mv_s1 ch)) (mv_s2 ch)) hn i1 n1 gin1 sA hC
  rw [l1, l2] at s1 s2
  obtain ⟨s3, s4⟩ := inQ_sh (T := mv_t3a Q R o ch) n1 i2 hok.1 gin2 s1 s2
  rw [l3, l4] at s3 s4
  refine iso_mk hok hc t3b_1 (fun x hx => f9_lt b0 hx) (fun x y hx hy e => f9_inj b0 hx hy e) s3 (fun x hx => ?_) s4
  rw [t3b_G, su_at]
  unfold t3S f9 mv_s1 mv_s2
  rw [e0]
  rcases (show k % 2 = 0 ∨ k % 2 = 1 by omega) with e | e <;> rw [e]
  · by_cases x1 : x = R.1
    · rw [if_pos x1, if_pos x1, if_neg (by omega), su_at, if_pos (by omega)]
      decide
    · by_cases x2 : x = R.1 + 1
      · rw [if_neg x1, if_pos x2, if_neg x1, if_pos x2, if_pos (by omega)]
        decide
      · rw [if_neg x1, if_neg x2, if_neg x1, if_neg x2, if_neg x2, su_at, if_neg x1]
        exact hcp.1.2.2.2.2.2.2.1 (x, 0) ((ho.2 _).mpr ⟨show x < R.1 by omega, show 0 < 2 by omega⟩)
  · by_cases x1 : x = R.1
    · rw [if_pos x1, if_pos x1, if_pos (by omega)]
      decide
    · by_cases x2 : x = R.1 + 1
      · rw [if_neg x1, if_pos x2, if_neg x1, if_pos x2, if_neg (by omega), su_at, if_pos (by omega)]
        decide
      · rw [if_neg x1, if_neg x2, if_neg x1, if_neg x2, if_neg x2, su_at, if_neg x1]
        exact hcp.1.2.2.2.2.2.2.1 (x, 0) ((ho.2 _).mpr ⟨show x < R.1 by omega, show 0 < 2 by omega⟩)
theorem iso_3t (hV : isoV A sg idN R) (hc : R.1 + 2 ≤ 12) (hk : k < 8) (e0 : ch % 2 = k % 2) (e1 : ch / 2 % 2 = if k % 2 = k / 2 % 2 then 0 else 1) (hpl : plcR A R.1 g h k o u) : isoV (t3A A R.1 g h k) (t3S sg R.1) (f9 R.1 (k % 2)) (mv_t3b Q R o u ch) := by
  obtain ⟨A1, A2, i1, i2, i3⟩ := pl_in hV hk hpl
  have := iso_3 (Q := Q) hV hc e0 e1 i1 i2
  rcases i3 with i3 | ⟨i, Z, W, h1, h2, h3⟩
  · rw [i3]
    exact this
  · rw [h3]
    rw [h2] at this
    exact iso_ro h1 this
/-- pushed arcs that stay plane meet -/
def mM3 (R : ow_NT) : Prop := ∀ (F P : Nat → Int32) (Q : ow_NT) (o u ch : Nat), mv_mk 3 R F P → ow_b24 Q.2.2.1 → R.1 + 2 ≤ 12 → ch < 4 → o < 2 * R.1 → u < 2 * R.1 → nt_plane (mv_t3b Q R o u ch) = true → mv_meet F P o u = true
theorem mb_3 (hV : isoV A sg idN R) (hp : pm1 R) (hM : mM3 R) : mBi 3 A sg R := by
  constructor
  · rintro j hj ⟨F, P, Q, hmk, hQ, hB⟩
    have hj : j < if R.1 + 2 ≤ 12 then (2 * R.1 + 1) * (2 * R.1 + 2) * 4 else 0 := hj
    by_cases hc : R.1 + 2 ≤ 12
    · rw [if_pos hc] at hj
      have hB : (mv_b3 R F P (j / 4 / (2 * R.1 + 2)) (j / 4 % (2 * R.1 + 2)) && nt_plane (mv_t3b Q R (j / 4 / (2 * R.1 + 2)) (j / 4 % (2 * R.1 + 2)) (j % 4))) = true := hB
      obtain ⟨o, eo⟩ : ∃ o, o = j / 4 / (2 * R.1 + 2) := ⟨_, rfl⟩
      obtain ⟨u, eu⟩ : ∃ u, u = j / 4 % (2 * R.1 + 2) := ⟨_, rfl⟩
      have hol : o < 2 * R.1 + 1 := by
        rw [eo]
        refine Nat.div_lt_of_lt_mul ?_
        rw [Nat.mul_comm]
        omega
      have hul : u < 2 * R.1 + 2 := by
        rw [eu]
        exact Nat.mod_lt _ (by omega)
      rw [← eo, ← eu] at hB
      obtain ⟨hb3, hpl⟩ := Bool.and_eq_true_iff.mp hB
      have hnd : mv_nd R o u ≤ R.2.1 := by
        unfold mv_b3 at hb3
        exact of_decide_eq_true (Bool.and_eq_true_iff.mp hb3).1
      have hb39 : ∀ (F' P' : Nat → Int32) (Q' : ow_NT), mv_mk 3 R F' P' → ow_b24 Q'.2.2.1 → nt_plane (mv_t3b Q' R o u (j % 4)) = true → mv_b3 R F' P' o u = true := by
        intro F' P' Q' hmk' hQ' hpl'
        unfold mv_b3
        rw [decide_eq_true hnd, Bool.true_and]
        by_cases h1 : o < 2 * R.1
        · by_cases h2 : u < 2 * R.1
          · rw [hM F' P' Q' o u (j % 4) hmk' hQ' hc (by omega) h1 h2 hpl']
            rw [Bool.not_true, Bool.and_false, Bool.and_false]
            rfl
          · rw [decide_eq_false h2, Bool.false_and, Bool.and_false]
            rfl
        · rw [decide_eq_false h1, Bool.false_and]
          rfl
      have eT : ∀ (F' P' : Nat → Int32) (Q' : ow_NT), mv_mk 3 R F' P' → ow_b24 Q'.2.2.1 → nt_plane (mv_t3b Q' R o u (j % 4)) = true → mv_B 3 j Q' R F' P' = true ∧ mv_T 3 j Q' R F' P' = mv_t3b Q' R o u (j % 4) := by
        intro F' P' Q' hmk' hQ' hpl'
        have hb := hb39 F' P' Q' hmk' hQ' hpl'
        constructor
        · show (mv_b3 R F' P' (j / 4 / (2 * R.1 + 2)) (j / 4 % (2 * R.1 + 2)) && nt_plane (mv_t3b Q' R (j / 4 / (2 * R.1 + 2)) (j / 4 % (2 * R.1 + 2)) (j % 4))) = true
          rw [← eo, ← eu, hb, hpl']
          rfl
        · show mv_t3 Q' R F' P' (j / 4 / (2 * R.1 + 2)) (j / 4 % (2 * R.1 + 2)) (j % 4) = _
          rw [← eo, ← eu]
          exact if_pos hb
      clear hB eo eu
      obtain ⟨g, h, hg, hh, hpc⟩ := pl_to hV (by omega) (by omega) hnd
      have key : ∀ k, k < 8 → (k < 4 ∨ g = h) → (j % 4) % 2 = k % 2 → (j % 4) / 2 % 2 = (if k % 2 = k / 2 % 2 then 0 else 1) → plcR A R.1 g h k o u → ∃ A' sg', OM A sg R.1 3 A' sg' ∧ ∀ (F P : Nat → Int32) (Q : ow_NT), mv_mk 3 R F P → ow_b24 Q.2.2.1 → mv_B 3 j Q R F P = true ∧ ∃ f, isoV A' sg' f (mv_T 3 j Q R F P) := by
        intro k hk8 hk e0 e1 hpc
        have hi : ∀ Q : ow_NT, isoV _ _ _ (mv_t3b Q R o u (j % 4)) := fun Q => iso_3t (Q := Q) hV hc hk8 e0 e1 hpc
        have hpn := plnA_of (hi Q) (t3b_p hp) hpl
        refine ⟨_, _, ⟨hc, g, h, k, hg, hh, ?_, rfl, rfl, hpn⟩, fun F' P' Q' hmk' hQ' => by
          obtain ⟨t1, t2⟩ := eT F' P' Q' hmk' hQ' (hpn _ _ (hi Q') (t3b_p hp))
          rw [t2]
          exact ⟨t1, _, hi Q'⟩⟩
        rcases hk with h9 | h9
        · exact Or.inl h9
        · exact Or.inr ⟨h9, hk8⟩
      have c4 : j % 4 = 0 ∨ j % 4 = 1 ∨ j % 4 = 2 ∨ j % 4 = 3 := by omega
      rcases hpc with hpc | ⟨hgh, hpc⟩
      · rcases c4 with e | e | e | e <;> rw [e] at key
        · exact key 0 (by decide) (Or.inl (by decide)) rfl rfl (pl_k hpc (by decide))
        · exact key 3 (by decide) (Or.inl (by decide)) rfl rfl (pl_k hpc (by decide))
        · exact key 2 (by decide) (Or.inl (by decide)) rfl rfl (pl_k hpc (by decide))
        · exact key 1 (by decide) (Or.inl (by decide)) rfl rfl (pl_k hpc (by decide))
      · rcases c4 with e | e | e | e <;> rw [e] at key
        · exact key 4 (by decide) (Or.inr hgh) rfl rfl (pl_k hpc (by decide))
        · exact key 7 (by decide) (Or.inr hgh) rfl rfl (pl_k hpc (by decide))
        · exact key 6 (by decide) (Or.inr hgh) rfl rfl (pl_k hpc (by decide))
        · exact key 5 (by decide) (Or.inr hgh) rfl rfl (pl_k hpc (by decide))
    · rw [if_neg hc] at hj
      omega
  · rintro A' sg' ⟨hc, g, h, k, hg, hh, hk, rfl, rfl, hpln⟩
    obtain ⟨o, u, hpc, hol, hul, hnd⟩ := pl_of hV hg hh hk
    have hk8 : k < 8 := by omega
    obtain ⟨ch, hch, e0, e1⟩ : ∃ ch, ch < 4 ∧ ch % 2 = k % 2 ∧ ch / 2 % 2 = if k % 2 = k / 2 % 2 then 0 else 1 := by
      rcases (show k % 2 = 0 ∨ k % 2 = 1 by omega) with e | e <;> rcases (show k / 2 % 2 = 0 ∨ k / 2 % 2 = 1 by omega) with e2 | e2 <;> rw [e, e2]
      · exact ⟨0, by decide, rfl, rfl⟩
      · exact ⟨2, by decide, rfl, rfl⟩
      · exact ⟨3, by decide, rfl, rfl⟩
      · exact ⟨1, by decide, rfl, rfl⟩
    have hcn : mv_cnt R.1 3 = (2 * R.1 + 1) * (2 * R.1 + 2) * 4 := if_pos hc
    refine ⟨(o * (2 * R.1 + 2) + u) * 4 + ch, ?_, fun F P Q hmk hQ => ?_⟩
    · rw [hcn]
      have m1 := Nat.mul_le_mul_right (2 * R.1 + 2) hol
      have m2 : (2 * R.1 + 1) * (2 * R.1 + 2) = 2 * R.1 * (2 * R.1 + 2) + (2 * R.1 + 2) := Nat.succ_mul _ _
      generalize (2 * R.1 + 1) * (2 * R.1 + 2) = m3 at m2 ⊢
      generalize 2 * R.1 * (2 * R.1 + 2) = m4 at m1 m2
      generalize o * (2 * R.1 + 2) = m5 at m1 ⊢
      omega
    · have d1 : ((o * (2 * R.1 + 2) + u) * 4 + ch) / 4 = o * (2 * R.1 + 2) + u := by omega
      have d2 : ((o * (2 * R.1 + 2) + u) * 4 + ch) % 4 = ch := by omega
      have d3 : (o * (2 * R.1 + 2) + u) / (2 * R.1 + 2) = o := by
        rw [Nat.mul_comm, Nat.mul_add_div (by omega), Nat.div_eq_of_lt (by omega), Nat.add_zero]
      have d4 : (o * (2 * R.1 + 2) + u) % (2 * R.1 + 2) = u := by
        rw [Nat.mul_comm, Nat.mul_add_mod, Nat.mod_eq_of_lt (by omega)]
      have hi := iso_3t (Q := Q) hV hc hk8 e0 e1 hpc
      have hpl : nt_plane (mv_t3b Q R o u ch) = true := hpln _ _ hi (t3b_p hp)
      have hb3 : mv_b3 R F P o u = true := by
        unfold mv_b3
        rw [decide_eq_true hnd, Bool.true_and]
        by_cases h1 : o < 2 * R.1
        · by_cases h2 : u < 2 * R.1
          · rw [hM F P Q o u ch hmk hQ hc hch h1 h2 hpl]
            rw [Bool.not_true, Bool.and_false, Bool.and_false]
            rfl
          · rw [decide_eq_false h2, Bool.false_and, Bool.and_false]
            rfl
        · rw [decide_eq_false h1, Bool.false_and]
          rfl
      show (mv_b3 R F P (((o * (2 * R.1 + 2) + u) * 4 + ch) / 4 / (2 * R.1 + 2)) (((o * (2 * R.1 + 2) + u) * 4 + ch) / 4 % (2 * R.1 + 2)) && nt_plane (mv_t3b Q R (((o * (2 * R.1 + 2) + u) * 4 + ch) / 4 / (2 * R.1 + 2)) (((o * (2 * R.1 + 2) + u) * 4 + ch) / 4 % (2 * R.1 + 2)) (((o * (2 * R.1 + 2) + u) * 4 + ch) % 4))) = true ∧ ∃ f, isoV _ _ f (mv_t3 Q R F P (((o * (2 * R.1 + 2) + u) * 4 + ch) / 4 / (2 * R.1 + 2)) (((o * (2 * R.1 + 2) + u) * 4 + ch) / 4 % (2 * R.1 + 2)) (((o * (2 * R.1 + 2) + u) * 4 + ch) % 4))
      rw [d1, d2, d3, d4, hb3, hpl]
      refine ⟨rfl, f9 R.1 (k % 2), ?_⟩
      unfold mv_t3
      rw [if_pos hb3]
      exact hi
end XP3B
end
section
/-! 99zzzzzzzzzzzk.xpush -/
/-! pushed arcs that stay plane share a face -/
section PU
variable {c v w k x y e1 b1 b2 : Nat} {S St : ow_NP} {b bt : Nat → Bool} {f : Nat → Nat} {X : List Nat} {P : Nat → Bool} {ph : Nat → Nat}
theorem pu_abs (hX : ∀ d, d ∈ X → d < 4 * c + 8) (hdv : pm_dv f X) (hk : k + 2 ≤ X.length) (hx : x < 4 * c) (hy : y < 4 * c) (hold : ∀ d, d < 4 * c + 8 → f d = f e1 ∨ ∃ d', d' < 4 * c ∧ f d' = f d) (hlt : ∀ d, d < 4 * c → ph d < 4 * c) (hinv : ∀ d, d < 4 * c → f (ph d) = f d ∨ (d = x ∧ f (ph d) = f y) ∨ (d = y ∧ f (ph d) = f x)) (hP : ∀ d, d < 4 * c → P (ph d) = P d) (hPx : P x = true) (hPy : P y = false) : ∃ (g : Nat → Nat) (Y : List Nat), (∀ d, d < 4 * c → g (ph d) = g d) ∧ (∀ d, d ∈ Y → d < 4 * c) ∧ pm_dv g Y ∧ k + 1 ≤ Y.length := by
  classical
  have r1 := pm_rest hdv (f e1)
  have d1 := pm_fil (fun x => !decide (f x = f e1)) hdv
  obtain ⟨X1, hX1⟩ : ∃ X1, X1 = X.filter (fun x => !decide (f x = f e1)) := ⟨_, rfl⟩
  rw [← hX1] at r1 d1
  have m1 : ∀ d, d ∈ X1 → ∃ d', d' < 4 * c ∧ f d' = f d := by
    intro d hd
    rw [hX1] at hd
    obtain ⟨h1, h2⟩ := List.mem_filter.mp hd
    rcases hold d (hX d h1) with h9 | h9
    · rw [decide_eq_true h9] at h2
      cases h2
    · exact h9
  have reps : ∀ L : List Nat, (∀ d, d ∈ L → ∃ d', d' < 4 * c ∧ f d' = f d) → ∃ Z : List Nat, Z.map f = L.map f ∧ ∀ d, d ∈ Z → d < 4 * c := by
    intro L
    induction L with
    | nil => exact fun _ => ⟨[], rfl, fun d hd => absurd hd List.not_mem_nil⟩
    | cons a L ih =>
      intro hL
      obtain ⟨Z, z1, z2⟩ := ih (fun d hd => hL d (List.mem_cons_of_mem _ hd))
      obtain ⟨a', a1, a2⟩ := hL a List.mem_cons_self
      refine ⟨a' :: Z, by rw [List.map_cons, List.map_cons, z1, a2], fun d hd => ?_⟩
      rcases List.mem_cons.mp hd with h9 | h9
      · rw [h9]
        exact a1
      · exact z2 d h9
  obtain ⟨Z, z1, z2⟩ := reps X1 m1
  have zl : Z.length = X1.length := by
    have := congrArg List.length z1
    rw [List.length_map, List.length_map] at this
    exact this
  have zd : pm_dv f Z := by
    unfold pm_dv at d1 ⊢
    rw [z1]
    exact d1
  obtain ⟨Z', q1, q2, q3⟩ := pm_mg_dv zd (f x) (f y)
  have gxy : pm_mg f (f x) (f y) x = pm_mg f (f x) (f y) y := pm_mg_m
  obtain ⟨Y, y1, y2, y3⟩ := pm_sp_dv q3 hPx hPy gxy
  have gi : ∀ d, d < 4 * c → pm_mg f (f x) (f y) (ph d) = pm_mg f (f x) (f y) d := by
    intro d hd
    rcases hinv d hd with h9 | ⟨h8, h9⟩ | ⟨h8, h9⟩
    · exact pm_mg_e h9
    · rw [pm_mg_e h9, h8, gxy]
    · rw [pm_mg_e h9, h8, gxy]
  refine ⟨_, Y, fun d hd => ?_, fun d hd => ?_, y3, by omega⟩
  · unfold pm_sp
    rw [gi d hd, hP d hd]
  · rcases y1 d hd with h9 | h9 | h9
    · rw [h9]; exact hx
    · rw [h9]; exact hy
    · exact z2 d (q1 d h9)
theorem ph_e : pn_ph S b (2 * x) = if b (S.1 x) = true then 2 * mt (S.1 x) else 2 * mt (S.1 x) + 1 := by
  unfold pn_ph pn_al
  rw [if_pos (by omega), show 2 * x / 2 = x by omega]
  unfold pn_rt
  rw [show (2 * S.1 x + 1) / 2 = S.1 x by omega, show (2 * S.1 x + 1) % 2 = 1 by omega]
  cases b (S.1 x) <;> rfl
theorem ph_o : pn_ph S b (2 * x + 1) = if b (S.2 x) = true then 2 * mt (S.2 x) + 1 else 2 * mt (S.2 x) := by
  unfold pn_ph pn_al
  rw [if_neg (by omega), show (2 * x + 1) / 2 = x by omega]
  unfold pn_rt
  rw [show 2 * S.2 x / 2 = S.2 x by omega, show 2 * S.2 x % 2 = 0 by omega]
  cases b (S.2 x) <;> rfl
/-- the arc from v goes over that from w, through new crossings c and c + 1 -/
def puN (c v w b1 b2 : Nat) (S St : ow_NP) : Prop := St.1 v = 2 * c ∧ St.1 (2 * c) = 2 * c + 2 ∧ St.1 (2 * c + 2) = S.1 v ∧ St.1 w = b1 ∧ St.1 b1 = b2 ∧ St.1 b2 = S.1 w ∧ (∀ x, x < 2 * c → x ≠ v → x ≠ w → St.1 x = S.1 x) ∧ St.2 (2 * c) = v ∧ St.2 (2 * c + 2) = 2 * c ∧ St.2 (S.1 v) = 2 * c + 2 ∧ St.2 b1 = w ∧ St.2 b2 = b1 ∧ St.2 (S.1 w) = b2 ∧ ∀ x, x < 2 * c → x ≠ S.1 v → x ≠ S.1 w → St.2 x = S.2 x
theorem pu_main (hv : vn c S) (hvw : v ≠ w) (h1 : v < 2 * c) (h2 : w < 2 * c) (hb : ∀ x, x < 2 * c → bt x = b x) (hB : bt (2 * c + 1) = !bt (2 * c) ∧ bt (2 * c + 2) = !bt (2 * c) ∧ bt (2 * c + 3) = bt (2 * c)) (hbb : b1 = 2 * c + 1 ∧ b2 = 2 * c + 3 ∨ b1 = 2 * c + 3 ∧ b2 = 2 * c + 1) (hN : puN c v w b1 b2 S St) (hf : ∀ d, d < 4 * c + 8 → f (pn_ph St bt d) = f d) : ∃ sx sy e1, (sx = 2 * v ∨ sx = 2 * v + 1) ∧ (sy = 2 * w ∨ sy = 2 * w + 1) ∧ (∀ d, d < 4 * c → f (pn_ph S b d) = f d ∨ (d = sdD S sx ∧ f (pn_ph S b d) = f (sdD S sy)) ∨ (d = sdD S sy ∧ f (pn_ph S b d) = f (sdD S sx))) ∧ ∀ d, d < 4 * c + 8 → f d = f e1 ∨ ∃ d', d' < 4 * c ∧ f d' = f d := by
  obtain ⟨n1, n2, n3, n4, n5, n6, n7, p1, p2, p3, p4, p5, p6, p7⟩ := hN
  obtain ⟨B1, B2, B3⟩ := hB
  obtain ⟨v1, v2, v3, v4⟩ := hv v h1
  obtain ⟨w1, w2, w3, w4⟩ := hv w h2
  have hvw' : S.1 v ≠ S.1 w := fun e => hvw (vn_inj hv h1 h2 e)
  -- the same turn, old and new
  have tA : pn_ph St bt (2 * (2 * c + 2)) = pn_ph S b (2 * v) := by rw [ph_e, ph_e, n3, hb _ v1]
  have tB : pn_ph St bt (2 * (2 * c) + 1) = pn_ph S b (2 * S.1 v + 1) := by rw [ph_o, ph_o, p1, v3, hb _ h1]
  have tC : pn_ph St bt (2 * b2) = pn_ph S b (2 * w) := by rw [ph_e, ph_e, n6, hb _ w1]
  have tD : pn_ph St bt (2 * b1 + 1) = pn_ph S b (2 * S.1 w + 1) := by rw [ph_o, ph_o, p4, w3, hb _ h2]
  have tO : ∀ d, d < 4 * c → d ≠ 2 * v → d ≠ 2 * S.1 v + 1 → d ≠ 2 * w → d ≠ 2 * S.1 w + 1 → f (pn_ph S b d) = f d := by
    intro d hd a1 a2 a3 a4
    rw [← hf d (by omega)]
    by_cases e : d % 2 = 0
    · obtain ⟨u, rfl⟩ : ∃ u, d = 2 * u := ⟨d / 2, by omega⟩
      rw [ph_e, ph_e, n7 u (by omega) (by omega) (by omega), hb _ (hv u (by omega)).1]
    · obtain ⟨u, rfl⟩ : ∃ u, d = 2 * u + 1 := ⟨d / 2, by omega⟩
      rw [ph_o, ph_o, p7 u (by omega) (by omega) (by omega), hb _ (hv u (by omega)).2.1]
  have m0 : mt (2 * c) = 2 * c + 1 := by unfold mt; rw [if_pos (by omega)]
  have m1 : mt (2 * c + 1) = 2 * c := by unfold mt; rw [if_neg (by omega)]; omega
  have m2 : mt (2 * c + 2) = 2 * c + 3 := by unfold mt; rw [if_pos (by omega)]
  have m3 : mt (2 * c + 3) = 2 * c + 2 := by unfold mt; rw [if_neg (by omega)]; omega
  have fv := hf (2 * v) (by omega)
  have fv' := hf (2 * S.1 v + 1) (by omega)
  have fw := hf (2 * w) (by omega)
  have fw' := hf (2 * S.1 w + 1) (by omega)
  have fa := hf (2 * (2 * c)) (by omega)
  have fa' := hf (2 * (2 * c) + 1) (by omega)
  have fe := hf (2 * (2 * c + 2)) (by omega)
  have fe' := hf (2 * (2 * c + 2) + 1) (by omega)
  have fb := hf (2 * b1) (by omega)
  have fb' := hf (2 * b1 + 1) (by omega)
  have fd := hf (2 * b2) (by omega)
  have fd' := hf (2 * b2 + 1) (by omega)
  rw [tA] at fe
  rw [tB] at fa'
  rw [tC] at fd
  rw [tD] at fb'
  rw [ph_e, n1, m0] at fv
  rw [ph_o, p3, m2, B2] at fv'
  rw [ph_e, n4] at fw
  rw [ph_o, p6] at fw'
  rw [ph_e, n2, m2, B2] at fa
  rw [ph_o, p2, m0] at fe'
  rw [ph_e, n5] at fb
  rw [ph_o, p5] at fd'
  -- from what is known of f
  have fin : ∀ sx sy e1, (sx = 2 * v ∨ sx = 2 * v + 1) → (sy = 2 * w ∨ sy = 2 * w + 1) → (∀ d, (d = 2 * v ∨ d = 2 * S.1 v + 1 ∨ d = 2 * w ∨ d = 2 * S.1 w + 1) → f (pn_ph S b d) = f d ∨ (d = sdD S sx ∧ f (pn_ph S b d) = f (sdD S sy)) ∨ (d = sdD S sy ∧ f (pn_ph S b d) = f (sdD S sx))) → (∀ d, (d = 2 * (2 * c) ∨ d = 2 * (2 * c) + 1 ∨ d = 2 * (2 * c + 1) ∨ d = 2 * (2 * c + 1) + 1 ∨ d = 2 * (2 * c + 2) ∨ d = 2 * (2 * c + 2) + 1 ∨ d = 2 * (2 * c + 3) ∨ d = 2 * (2 * c + 3) + 1) → f d = f e1 ∨ f d = f (2 * v) ∨ f d = f (2 * S.1 v + 1) ∨ f d = f (2 * w) ∨ f d = f (2 * S.1 w + 1)) → ∃ sx sy e1, (sx = 2 * v ∨ sx = 2 * v + 1) ∧ (sy = 2 * w ∨ sy = 2 * w + 1) ∧ (∀ d, d < 4 * c → f (pn_ph S b d) = f d ∨ (d = sdD S sx ∧ f (pn_ph S b d) = f (sdD S sy)) ∨ (d = sdD S sy ∧ f (pn_ph S b d) = f (sdD S sx))) ∧ ∀ d, d < 4 * c + 8 → f d = f e1 ∨ ∃ d', d' < 4 * c ∧ f d' = f d := by
    intro sx sy e1 hx hy k1 k2
    refine ⟨sx, sy, e1, hx, hy, fun d hd => ?_, fun d hd => ?_⟩
    · by_cases e : d = 2 * v ∨ d = 2 * S.1 v + 1 ∨ d = 2 * w ∨ d = 2 * S.1 w + 1
      · exact k1 d e
      · exact Or.inl (tO d hd (fun h => e (Or.inl h)) (fun h => e (Or.inr (Or.inl h))) (fun h => e (Or.inr (Or.inr (Or.inl h)))) (fun h => e (Or.inr (Or.inr (Or.inr h)))))
    · by_cases e : d < 4 * c
      · exact Or.inr ⟨d, e, rfl⟩
      · rcases k2 d (by omega) with h9 | h9 | h9 | h9 | h9
        · exact Or.inl h9
        · exact Or.inr ⟨_, by omega, h9.symm⟩
        · exact Or.inr ⟨_, by omega, h9.symm⟩
        · exact Or.inr ⟨_, by omega, h9.symm⟩
        · exact Or.inr ⟨_, by omega, h9.symm⟩
  have s0 : sdD S (2 * v) = 2 * v := by unfold sdD; rw [if_pos (by omega)]
  have s1 : sdD S (2 * v + 1) = 2 * S.1 v + 1 := by unfold sdD; rw [if_neg (by omega), show (2 * v + 1) / 2 = v by omega]
  have s2 : sdD S (2 * w) = 2 * w := by unfold sdD; rw [if_pos (by omega)]
  have s3 : sdD S (2 * w + 1) = 2 * S.1 w + 1 := by unfold sdD; rw [if_neg (by omega), show (2 * w + 1) / 2 = w by omega]
  clear n1 n2 n3 n4 n5 n6 n7 p1 p2 p3 p4 p5 p6 p7 tA tB tC tD tO hb hf
  rcases hbb with ⟨e1, e2⟩ | ⟨e1, e2⟩ <;> subst e1 <;> subst e2 <;> cases hbt : bt (2 * c) <;> simp only [hbt, B1, B2, B3, m0, m1, m2, m3, Bool.not_true, Bool.not_false, Bool.false_eq_true, if_true, if_false, ite_true, ite_false] at fv fv' fw fw' fa fe' fb fd'
  · refine fin (2 * v) (2 * w + 1) (2 * (2 * c + 1)) (Or.inl rfl) (Or.inr rfl) (fun d hd => ?_) (fun d hd => ?_)
    · rw [s0, s3]
      rcases hd with e | e | e | e <;> subst e
      · exact Or.inr (Or.inl ⟨rfl, by omega⟩)
      · exact Or.inl (by omega)
      · exact Or.inl (by omega)
      · exact Or.inr (Or.inr ⟨rfl, by omega⟩)
    · rcases hd with e | e | e | e | e | e | e | e <;> subst e <;> omega
  · refine fin (2 * v + 1) (2 * w) (2 * (2 * c)) (Or.inr rfl) (Or.inl rfl) (fun d hd => ?_) (fun d hd => ?_)
    · rw [s1, s2]
      rcases hd with e | e | e | e <;> subst e
      · exact Or.inl (by omega)
      · exact Or.inr (Or.inl ⟨rfl, by omega⟩)
      · exact Or.inr (Or.inr ⟨rfl, by omega⟩)
      · exact Or.inl (by omega)
    · rcases hd with e | e | e | e | e | e | e | e <;> subst e <;> omega
  · refine fin (2 * v + 1) (2 * w + 1) (2 * (2 * c)) (Or.inr rfl) (Or.inr rfl) (fun d hd => ?_) (fun d hd => ?_)
    · rw [s1, s3]
      rcases hd with e | e | e | e <;> subst e
      · exact Or.inl (by omega)
      · exact Or.inr (Or.inl ⟨rfl, by omega⟩)
      · exact Or.inl (by omega)
      · exact Or.inr (Or.inr ⟨rfl, by omega⟩)
    · rcases hd with e | e | e | e | e | e | e | e <;> subst e <;> omega
  · refine fin (2 * v) (2 * w) (2 * (2 * c + 1) + 1) (Or.inl rfl) (Or.inl rfl) (fun d hd => ?_) (fun d hd => ?_)
    · rw [s0, s2]
      rcases hd with e | e | e | e <;> subst e
      · exact Or.inr (Or.inl ⟨rfl, by omega⟩)
      · exact Or.inl (by omega)
      · exact Or.inr (Or.inr ⟨rfl, by omega⟩)
      · exact Or.inl (by omega)
    · rcases hd with e | e | e | e | e | e | e | e <;> subst e <;> omega
end PU
end
section
/-! 99zzzzzzzzzzzl.xmeet -/
/-! the filter of moves of kind 3 takes nothing away -/
section ME
variable {c v w a r r' b1 b2 : Nat} {S St : ow_NP} {R Q : ow_NT} {o u ch : Nat}
theorem dd1 (k : Nat) : (np_putBehind (np_putBehind S a r) r r').1 k = if k = r' then S.1 a else if k = r then r' else if k = a then r else S.1 k := by
  unfold np_putBehind
  rw [nl_1, nl_1, nl_1, if_pos rfl]
  by_cases e1 : k = r'
  · rw [if_pos e1, if_pos e1]
  · rw [if_neg e1, if_neg e1]
    by_cases e2 : k = r
    · rw [nl_1, if_pos e2, if_pos e2]
    · rw [nl_1, if_neg e2, if_neg e2, nl_1, if_neg e2, nl_1]
theorem dd2 (k : Nat) : (np_putBehind (np_putBehind S a r) r r').2 k = if k = S.1 a then r' else if k = r' then r else if k = r then a else S.2 k := by
  unfold np_putBehind
  rw [nl_2, nl_2, nl_1, if_pos rfl]
  by_cases e1 : k = S.1 a
  · rw [if_pos e1, if_pos e1]
  · rw [if_neg e1, if_neg e1]
    by_cases e2 : k = r'
    · rw [if_pos e2, if_pos e2]
    · rw [if_neg e2, if_neg e2, nl_2, if_neg e1, nl_2]
theorem pu_of (hv : vn c S) (hvw : v ≠ w) (h1 : v < 2 * c) (h2 : w < 2 * c) (hbb : b1 = 2 * c + 1 ∧ b2 = 2 * c + 3 ∨ b1 = 2 * c + 3 ∧ b2 = 2 * c + 1) {S' : ow_NP} (hS : ∀ k, k < 2 * c → S'.1 k = S.1 k ∧ S'.2 k = S.2 k) : puN c v w b1 b2 S (np_putBehind (np_putBehind (np_putBehind (np_putBehind S' v (2 * c)) (2 * c) (2 * c + 2)) w b1) b1 b2) := by
  obtain ⟨v1, -, -, -⟩ := hv v h1
  obtain ⟨w1, -, -, -⟩ := hv w h2
  have hne : S.1 v ≠ S.1 w := fun e => hvw (vn_inj hv h1 h2 e)
  have cv := (hS v h1).1
  have cw := (hS w h2).1
  have eD : (np_putBehind (np_putBehind S' v (2 * c)) (2 * c) (2 * c + 2)).1 w = S.1 w := by
    rw [dd1]
    repeat' split
    all_goals omega
  have f1 : ∀ k, (np_putBehind (np_putBehind (np_putBehind (np_putBehind S' v (2 * c)) (2 * c) (2 * c + 2)) w b1) b1 b2).1 k = if k = b2 then S.1 w else if k = b1 then b2 else if k = w then b1 else if k = 2 * c + 2 then S.1 v else if k = 2 * c then 2 * c + 2 else if k = v then 2 * c else S'.1 k := by
    intro k
    rw [dd1, eD, dd1, cv]
  have f2 : ∀ k, (np_putBehind (np_putBehind (np_putBehind (np_putBehind S' v (2 * c)) (2 * c) (2 * c + 2)) w b1) b1 b2).2 k = if k = S.1 w then b2 else if k = b2 then b1 else if k = b1 then w else if k = S.1 v then 2 * c + 2 else if k = 2 * c + 2 then 2 * c else if k = 2 * c then v else S'.2 k := by
    intro k
    rw [dd2, eD, dd2, cv]
  refine ⟨?_, ?_, ?_, ?_, ?_, ?_, fun x hx n1 n2 => ?_, ?_, ?_, ?_, ?_, ?_, ?_, fun x hx n1 n2 => ?_⟩
  · rw [f1]; repeat' split
    all_goals omega
  · rw [f1]; repeat' split
    all_goals omega
  · rw [f1]; repeat' split
    all_goals omega
  · rw [f1]; repeat' split
    all_goals omega
  · rw [f1]; repeat' split
    all_goals omega
  · rw [f1]; repeat' split
    all_goals omega
  · have := (hS x hx).1
    rw [f1]; repeat' split
    all_goals omega
  · rw [f2]; repeat' split
    all_goals omega
  · rw [f2]; repeat' split
    all_goals omega
  · rw [f2]; repeat' split
    all_goals omega
  · rw [f2]; repeat' split
    all_goals omega
  · rw [f2]; repeat' split
    all_goals omega
  · rw [f2]; repeat' split
    all_goals omega
  · have := (hS x hx).2
    rw [f2]; repeat' split
    all_goals omega
theorem pu_vn (hv : vn c S) (hvw : v ≠ w) (h1 : v < 2 * c) (h2 : w < 2 * c) (hbb : b1 = 2 * c + 1 ∧ b2 = 2 * c + 3 ∨ b1 = 2 * c + 3 ∧ b2 = 2 * c + 1) (hN : puN c v w b1 b2 S St) : vn (c + 2) St := by
  obtain ⟨n1, n2, n3, n4, n5, n6, n7, p1, p2, p3, p4, p5, p6, p7⟩ := hN
  obtain ⟨v1, v2, v3, v4⟩ := hv v h1
  obtain ⟨w1, w2, w3, w4⟩ := hv w h2
  have hne : S.1 v ≠ S.1 w := fun e => hvw (vn_inj hv h1 h2 e)
  intro k hk
  by_cases ho : k < 2 * c
  · obtain ⟨k1, k2, k3, k4⟩ := hv k ho
    have A : St.1 k < 2 * (c + 2) ∧ St.2 (St.1 k) = k := by
      by_cases e1 : k = v
      · rw [e1, n1, p1]
        omega
      · by_cases e2 : k = w
        · rw [e2, n4, p4]
          omega
        · rw [n7 k ho e1 e2, p7 _ k1 (fun e => e1 (vn_inj hv ho h1 e)) (fun e => e2 (vn_inj hv ho h2 e)), k3]
          omega
    have B : St.2 k < 2 * (c + 2) ∧ St.1 (St.2 k) = k := by
      by_cases e1 : k = S.1 v
      · rw [e1, p3, n3]
        omega
      · by_cases e2 : k = S.1 w
        · rw [e2, p6, n6]
          omega
        · rw [p7 k ho e1 e2, n7 _ k2 (fun e => e1 (by rw [← e, k4])) (fun e => e2 (by rw [← e, k4])), k4]
          omega
    exact ⟨A.1, B.1, A.2, B.2⟩
  · have hb4 : k = 2 * c ∨ k = 2 * c + 2 ∨ k = b1 ∨ k = b2 := by omega
    rcases hb4 with e | e | e | e
    · rw [e, n2, p1, p2, n1]
      omega
    · rw [e, n3, p2, p3, n2]
      omega
    · rw [e, n5, p4, p5, n4]
      omega
    · rw [e, n6, p5, p6, n5]
      omega
theorem pu_rch (hv : vn c S) (h1 : v < 2 * c) (h2 : w < 2 * c) (hvw : rch c S v w) (hbb : b1 = 2 * c + 1 ∧ b2 = 2 * c + 3 ∨ b1 = 2 * c + 3 ∧ b2 = 2 * c + 1) (hN : puN c v w b1 b2 S St) {x : Nat} (hr : r < 2 * (c + 2)) (h : rch (c + 2) St r x) : x < 2 * (c + 2) ∧ rch c S (if r < 2 * c then r else v) (if x < 2 * c then x else v) := by
  obtain ⟨n1, n2, n3, n4, n5, n6, n7, -⟩ := hN
  have hwv := rch_sy hv h1 hvw
  refine h (fun x => x < 2 * (c + 2) ∧ rch c S (if r < 2 * c then r else v) (if x < 2 * c then x else v)) ⟨hr, rch_rf _ _ _⟩ ?_ ?_
  · rintro j hj ⟨-, hD⟩
    by_cases ho : j < 2 * c
    · rw [if_pos ho] at hD
      by_cases e1 : j = v
      · rw [e1, n1]
        refine ⟨by omega, ?_⟩
        rw [if_neg (show ¬ 2 * c < 2 * c by omega)]
        rw [e1] at hD
        exact hD
      · by_cases e2 : j = w
        · rw [e2, n4]
          refine ⟨by omega, ?_⟩
          rw [if_neg (show ¬ b1 < 2 * c by omega)]
          rw [e2] at hD
          exact rch_tr hD hwv
        · rw [n7 j ho e1 e2]
          have := (hv j ho).1
          refine ⟨by omega, ?_⟩
          rw [if_pos this]
          exact rch_n hD ho
    · rw [if_neg ho] at hD
      have hv1 := (hv v h1).1
      have hw1 := (hv w h2).1
      have hb4 : j = 2 * c ∨ j = 2 * c + 2 ∨ j = b1 ∨ j = b2 := by omega
      rcases hb4 with e | e | e | e
      · rw [e, n2]
        refine ⟨by omega, ?_⟩
        rw [if_neg (show ¬ 2 * c + 2 < 2 * c by omega)]
        exact hD
      · rw [e, n3]
        refine ⟨by omega, ?_⟩
        rw [if_pos hv1]
        exact rch_n hD h1
      · rw [e, n5]
        refine ⟨by omega, ?_⟩
        rw [if_neg (show ¬ b2 < 2 * c by omega)]
        exact hD
      · rw [e, n6]
        refine ⟨by omega, ?_⟩
        rw [if_pos hw1]
        exact rch_n (rch_tr hD hvw) h2
  · rintro j hj ⟨-, hD⟩
    have hm : mt j < 2 * (c + 2) ∧ (mt j < 2 * c ↔ j < 2 * c) := by
      unfold mt
      split <;> omega
    refine ⟨hm.1, ?_⟩
    by_cases ho : j < 2 * c
    · rw [if_pos ho] at hD
      rw [if_pos (hm.2.mpr ho)]
      exact rch_m hD ho
    · rw [if_neg ho] at hD
      rw [if_neg (fun h9 => ho (hm.2.mp h9))]
      exact hD
theorem m3_meet (hv : vn R.1 R.2.2.1) (hc12 : R.1 ≤ 12) (hpl : nt_plane R = true) : mM3 R := by
  intro F P Q o u ch hmk hQ hc hch ho hu hT
  obtain ⟨mP, mF⟩ := hmk rfl
  unfold mv_meet
  by_cases eP : P o = P u
  · rw [decide_eq_false (fun h => h eP), Bool.false_or]
    by_cases eou : o = u
    · rw [eou, decide_eq_true rfl, Bool.true_or]
    · have hr : rch R.1 R.2.2.1 o u := (parts_iff hv hc12 ho hu).mp (by rw [← mP o ho, ← mP u hu]; exact eP)
      obtain ⟨b1, hb1⟩ : ∃ b1, b1 = if ch / 2 % 2 = 0 then 2 * R.1 + 1 else 2 * R.1 + 3 := ⟨_, rfl⟩
      obtain ⟨b2, hb2⟩ : ∃ b2, b2 = if ch / 2 % 2 = 0 then 2 * R.1 + 3 else 2 * R.1 + 1 := ⟨_, rfl⟩
      have hbb : b1 = 2 * R.1 + 1 ∧ b2 = 2 * R.1 + 3 ∨ b1 = 2 * R.1 + 3 ∧ b2 = 2 * R.1 + 1 := by
        by_cases e : ch / 2 % 2 = 0
        · rw [if_pos e] at hb1 hb2
          exact Or.inl ⟨hb1, hb2⟩
        · rw [if_neg e] at hb1 hb2
          exact Or.inr ⟨hb1, hb2⟩
      have key : ∀ {β : Type} (f g : Nat → β) (n k : Nat), k < n → va_cpy f g 0 0 n k = f k := fun f g n k hk => by
        rw [pk_cpy_in (Nat.zero_le k) (by omega), Nat.zero_add, Nat.sub_zero]
      have eS : (mv_t3b Q R o u ch).2.2.1 = np_putBehind (np_putBehind (np_putBehind (np_putBehind (nt_copy Q R).2.2.1 o (2 * R.1)) (2 * R.1) (2 * R.1 + 2)) u b1) b1 b2 := by
        have e1 : mv_af R o = some o := if_neg (by omega)
        have e2 : mv_au R u = some u := if_pos hu
        unfold mv_t3b mv_t3a
        rw [e1, e2, ← hb1, ← hb2]
        rfl
      have hN := pu_of hv eou ho hu hbb (S' := (nt_copy Q R).2.2.1) (fun k hk => ⟨key _ _ _ _ hk, key _ _ _ _ hk⟩)
      rw [← eS] at hN
      have hvT : vn (mv_t3b Q R o u ch).1 (mv_t3b Q R o u ch).2.2.1 := by
        rw [t3b_1]
        exact pu_vn hv eou ho hu hbb hN
      have hp := (plane_iff hvT (by rw [t3b_1]; exact hc)).mp hT
      rw [t3b_1] at hp
      obtain ⟨Rr, pP, f, X, f1, f2, f3, f4⟩ := hp
      have hG : ∀ x, x < R.1 → (mv_t3b Q R o u ch).2.2.2 x = R.2.2.2 x := by
        intro x hx
        rw [t3b_G, su_at, if_neg (by omega), su_at, if_neg (by omega), cpy_G hx]
      have hGc : (mv_t3b Q R o u ch).2.2.2 R.1 = mv_s1 ch := by
        rw [t3b_G, su_at, if_neg (by omega), su_at, if_pos rfl]
      have hGd : (mv_t3b Q R o u ch).2.2.2 (R.1 + 1) = mv_s2 ch := by
        rw [t3b_G, su_at, if_pos rfl]
      have hbt : ∀ x, x < 2 * R.1 → stG (mv_t3b Q R o u ch).2.2.2 x = stG R.2.2.2 x := by
        intro x hx
        unfold stG
        rw [hG (x / 2) (by omega)]
      have s12 : decide (0 < mv_s2 ch) = !decide (0 < mv_s1 ch) := by
        unfold mv_s1 mv_s2
        split <;> decide
      have hB : stG (mv_t3b Q R o u ch).2.2.2 (2 * R.1 + 1) = (!stG (mv_t3b Q R o u ch).2.2.2 (2 * R.1)) ∧ stG (mv_t3b Q R o u ch).2.2.2 (2 * R.1 + 2) = (!stG (mv_t3b Q R o u ch).2.2.2 (2 * R.1)) ∧ stG (mv_t3b Q R o u ch).2.2.2 (2 * R.1 + 3) = stG (mv_t3b Q R o u ch).2.2.2 (2 * R.1) := by
        unfold stG
        rw [show (2 * R.1 + 1) / 2 = R.1 by omega, show 2 * R.1 / 2 = R.1 by omega, show (2 * R.1 + 2) / 2 = R.1 + 1 by omega, show (2 * R.1 + 3) / 2 = R.1 + 1 by omega, hGc, hGd, s12, decide_eq_false (show ¬ (2 * R.1 + 1) % 2 = 0 by omega), decide_eq_true (show 2 * R.1 % 2 = 0 by omega), decide_eq_true (show (2 * R.1 + 2) % 2 = 0 by omega), decide_eq_false (show ¬ (2 * R.1 + 3) % 2 = 0 by omega)]
        cases decide (0 < mv_s1 ch) <;> exact ⟨rfl, rfl, rfl⟩
      obtain ⟨sx, sy, e1, hx, hy, k1, k2⟩ := pu_main hv eou ho hu hbt hB hbb hN (fun d hd => f1 d (by omega))
      have sxl : sx < 4 * R.1 := by omega
      have syl : sy < 4 * R.1 := by omega
      -- the faces of the two arcs
      have meet : F sx = F sy := by
        rcases Classical.em (F sx = F sy) with h9 | h9
        · exact h9
        · exfalso
          obtain ⟨M, hM⟩ : ∃ M, M = (np_faces R.1 R.2.2.1 R.2.2.2).1 := ⟨_, rfl⟩
          rw [mF sx sxl, mF sy syl, ← hM] at h9
          have hMC : ∀ k, k < 4 * R.1 → M (fc_on R.2.2.1 R.2.2.2 k) = M k := by
            have := mr_out_C (N := fc_on R.2.2.1 R.2.2.2) (vs := 4 * R.1) (fun a ha => fc_on_vn hv R.2.2.2 ha) (fun a b ha hb e => fc_on_inj hv ha hb e) (by omega) (F := fun _ => -1) (fun _ _ => rfl) (4 * R.1) (Nat.le_refl _)
            rw [hM]
            exact this
          obtain ⟨g, Y, g1, g2, g3, g4⟩ := pu_abs (k := R.1 + 2 * Rr.length) (P := fun d => decide (M (dSd R.2.2.1 d) = M sx)) (fun d hd => by have := f2 d hd; omega) f3 (by omega) (sdD_lt hv sxl) (sdD_lt hv syl) k2 (fun d hd => pn_ph_lt hv hd) k1 (fun d hd => by
            have hs := dSd_lt hv hd
            have e2 : pn_ph R.2.2.1 (stG R.2.2.2) d = sdD R.2.2.1 (fc_on R.2.2.1 R.2.2.2 (dSd R.2.2.1 d)) := by rw [sd_on hv hs, sd_ds hv hd]
            show decide (M (dSd R.2.2.1 (pn_ph R.2.2.1 (stG R.2.2.2) d)) = M sx) = decide (M (dSd R.2.2.1 d) = M sx)
            rw [e2, ds_sd hv (fc_on_vn hv _ hs), hMC _ hs]) (by
              show decide (M (dSd R.2.2.1 (sdD R.2.2.1 sx)) = M sx) = true
              rw [ds_sd hv sxl]
              exact decide_eq_true rfl) (by
              show decide (M (dSd R.2.2.1 (sdD R.2.2.1 sy)) = M sx) = false
              rw [ds_sd hv syl]
              exact decide_eq_false (fun e => h9 e.symm))
          have c1 := faces_le (G := R.2.2.2) hv hc12 (k := R.1 + 2 * Rr.length + 1) ⟨g, Y, g1, g2, g3, g4⟩
          unfold nt_plane at hpl
          have c2 := of_decide_eq_true hpl
          have c3 : (np_parts R.1 R.2.2.1.1).2 ≤ (Rr.map (fun r => if r < 2 * R.1 then r else o)).length := parts_ub hv hc12 (fun x hx9 => by
            obtain ⟨r, r1, r2, r3⟩ := pP x (by omega)
            have := (pu_rch hv ho hu hr hbb hN r2 r3).2
            rw [if_pos hx9] at this
            refine ⟨_, List.mem_map.mpr ⟨r, r1, rfl⟩, ?_, this⟩
            split <;> omega)
          rw [List.length_map] at c3
          omega
      have fin : (decide (F (2 * o) = F (2 * u)) || (decide (F (2 * o) = F (2 * u + 1)) || (decide (F (2 * o + 1) = F (2 * u)) || decide (F (2 * o + 1) = F (2 * u + 1))))) = true := by
        rw [Bool.or_eq_true, Bool.or_eq_true, Bool.or_eq_true, decide_eq_true_iff, decide_eq_true_iff, decide_eq_true_iff, decide_eq_true_iff]
        rcases hx with e | e <;> rcases hy with e2 | e2 <;> rw [e, e2] at meet
        · exact Or.inl meet
        · exact Or.inr (Or.inl meet)
        · exact Or.inr (Or.inr (Or.inl meet))
        · exact Or.inr (Or.inr (Or.inr meet))
      exact fin
  · rw [decide_eq_true eP, Bool.true_or]
end ME
theorem mb_all {A : rn_L} {sg : Nat → Bool} {R : ow_NT} {kd : Nat} (hV : isoV A sg idN R) (hp : pm1 R) (hA : A.length ≤ 6) (hpl : nt_plane R = true) (hk : kd < 5) : mBi kd A sg R := by
  match kd, hk with
  | 0, _ => exact mb_0 hV
  | 1, _ => exact mb_1 hV hA
  | 2, _ => exact mb_2 hV hp
  | 3, _ => exact mb_3 hV hp (m3_meet (isoV_vn hV) hV.1.2.2.1 hpl)
  | 4, _ => exact mb_4 hV hp
end
section
/-! 99zzzzzzzzzzzm.xjoin -/
/-! the moves of both sides: rows and codes, in order -/
def crP (C : cdT) (r : List Nat) : Prop := ∃ A sg c, okL A c ∧ C = clC sg A ∧ r = tk sg A ∧ A ≠ [] ∧ plnA A sg
theorem crP_R {C : cdT} {r : List Nat} (h : crP C r) : crR C r := by
  obtain ⟨A, sg, c, h1, h2, h3, -⟩ := h
  exact ⟨A, sg, c, h1, h2, h3⟩
theorem srt_join : ∀ (L2 : List cdT) (L1 : List (List Nat)), L2.Pairwise (fun a b => cmpC a b < 0) → L1.Pairwise (fun a b => lsr a b = true) → (∀ C, C ∈ L2 → ∃ r, r ∈ L1 ∧ crP C r) → (∀ r, r ∈ L1 → ∃ C, C ∈ L2 ∧ crP C r) → L2.length = L1.length ∧ ∀ (k : Nat) C r, L2[k]? = some C → L1[k]? = some r → crP C r
  | [], [], _, _, _, _ => ⟨rfl, fun k C r h => by rw [List.getElem?_nil] at h; cases h⟩
  | [], r :: L1, _, _, _, h => by
    obtain ⟨C, hC, -⟩ := h r List.mem_cons_self
    cases hC
  | C :: L2, [], _, _, h, _ => by
    obtain ⟨r, hr, -⟩ := h C List.mem_cons_self
    cases hr
  | C :: L2, r :: L1, p2, p1, h21, h12 => by
    obtain ⟨q2, p2'⟩ := List.pairwise_cons.mp p2
    obtain ⟨q1, p1'⟩ := List.pairwise_cons.mp p1
    have hCr : crP C r := by
      obtain ⟨r0, hr0, e0⟩ := h21 C List.mem_cons_self
      obtain ⟨C0, hC0, f0⟩ := h12 r List.mem_cons_self
      rcases List.mem_cons.mp hr0 with e | hr0
      · rw [← e]
        exact e0
      · rcases List.mem_cons.mp hC0 with e | hC0
        · rw [← e]
          exact f0
        · have h1 := q1 r0 hr0
          have h2 := (crR_lt (crP_R e0) (crP_R f0)).mpr (q2 C0 hC0)
          have h3 := lsr_tr h1 h2
          rw [lsr_irr] at h3
          cases h3
    obtain ⟨k1, k2⟩ := srt_join L2 L1 p2' p1' (fun C' hC' => by
      obtain ⟨r', hr', e'⟩ := h21 C' (List.mem_cons_of_mem _ hC')
      rcases List.mem_cons.mp hr' with e | hr'
      · rw [e] at e'
        have := crR_c (crP_R hCr) (crP_R e')
        have h9 := q2 C' hC'
        rw [← this, cmpC_rf] at h9
        omega
      · exact ⟨r', hr', e'⟩) (fun r' hr' => by
      obtain ⟨C', hC', e'⟩ := h12 r' (List.mem_cons_of_mem _ hr')
      rcases List.mem_cons.mp hC' with e | hC'
      · rw [e] at e'
        have := crR_r (crP_R hCr) (crP_R e')
        have h9 := q1 r' hr'
        rw [← this, lsr_irr] at h9
        cases h9
      · exact ⟨C', hC', e'⟩)
    refine ⟨by rw [List.length_cons, List.length_cons, k1], fun k D s hD hs => ?_⟩
    cases k with
    | zero =>
      cases hD
      cases hs
      exact hCr
    | succ k => exact k2 k D s hD hs
section XJ
variable {A : rn_L} {sg : Nat → Bool} {R : ow_NT} {kd : Nat} {Ms : List (List Nat)} {X : List cdT} {os : List Nat}
theorem OM_len {A' : rn_L} {sg' : Nat → Bool} {c : Nat} (h : OM A sg c kd A' sg') : A'.length = A.length := by
  have wo : ∀ x y, (woA x y A).length = A.length := fun x y => List.length_map ..
  match kd, h with
  | 0, h =>
    obtain ⟨-, v, -, -, rfl⟩ := h
    exact wo _ _
  | 1, h =>
    obtain ⟨-, g, k, -, -, rfl, -⟩ := h
    unfold bldA
    rw [List.length_map, List.length_range]
  | 2, h =>
    obtain ⟨-, v, -, -, rfl⟩ := h
    exact wo _ _
  | 3, h =>
    obtain ⟨-, g, h, k, -, -, -, rfl, -⟩ := h
    exact t3_len
  | _ + 4, h =>
    obtain ⟨s, -, -, -, -, -, rfl⟩ := h
    unfold t4A rsh
    rw [List.length_map, List.length_range]
theorem at_in (hl : X.length = os.length) (ho : ∀ (j s : Nat), os[j]? = some s → s < X.length) {k : Nat} (hk : k < os.length) : atC X os k ∈ X := by
  have h1 := ho k _ (List.getElem?_eq_getElem hk)
  unfold atC
  rw [List.getD_eq_getElem?_getD (l := os), List.getElem?_eq_getElem hk]
  show X.getD os[k] (0, []) ∈ X
  rw [List.getD_eq_getElem?_getD, List.getElem?_eq_getElem h1]
  exact List.getElem_mem h1
theorem at_sur (hl : X.length = os.length) (ho : ∀ (j s : Nat), os[j]? = some s → s < X.length) (hs : sts X os) {C : cdT} (hC : C ∈ X) : ∃ k, k < os.length ∧ atC X os k = C := by
  obtain ⟨i, hi, e⟩ := List.getElem_of_mem hC
  have nd : os.Nodup := by
    rw [List.nodup_iff_pairwise_ne, List.pairwise_iff_getElem]
    intro a b ha hb hab e9
    have h1 := hs a b hab hb
    have : atC X os a = atC X os b := by
      unfold atC
      rw [List.getD_eq_getElem?_getD (l := os), List.getD_eq_getElem?_getD (l := os), List.getElem?_eq_getElem ha, List.getElem?_eq_getElem hb, e9]
    rw [this, cmpC_rf] at h1
    omega
  have him : i ∈ os := by
    rcases Classical.em (i ∈ os) with h9 | h9
    · exact h9
    · exfalso
      have := nodup_le (i :: os) (List.range X.length) (List.nodup_cons.mpr ⟨h9, nd⟩) (fun a ha => by
        rw [List.mem_range]
        rcases List.mem_cons.mp ha with e | ha
        · rw [e]
          exact hi
        · obtain ⟨j, hj, e⟩ := List.getElem_of_mem ha
          exact ho j a (by rw [List.getElem?_eq_getElem hj, e]))
      rw [List.length_cons, List.length_range] at this
      omega
  obtain ⟨k, hk, e2⟩ := List.getElem_of_mem him
  refine ⟨k, hk, ?_⟩
  unfold atC
  rw [List.getD_eq_getElem?_getD (l := os), List.getElem?_eq_getElem hk]
  show X.getD os[k] (0, []) = C
  rw [e2, List.getD_eq_getElem?_getD, List.getElem?_eq_getElem hi]
  exact e
theorem cnt_le : ∀ c, c < 13 → ∀ kd, kd < 5 → mv_cnt c kd ≤ 1848 := by decide
theorem mv_join (hV : isoV A sg idN R) (hR : nv R) (hp : pm1 R) (hpl : nt_plane R = true) (h6 : A.length ≤ 6) (hne : A ≠ []) (hk : kd < 5) (hMs : Ms.Pairwise (fun a b => lsr a b = true)) (m1 : ∀ r, r ∈ Ms → ∃ A' sg', OM A sg R.1 kd A' sg' ∧ nfR A' sg' r) (m2 : ∀ A' sg', OM A sg R.1 kd A' sg' → ∃ r, r ∈ Ms ∧ nfR A' sg' r) (hl : X.length = os.length) (ho : ∀ (j s : Nat), os[j]? = some s → s < X.length) (hs : sts X os) (x1 : ∀ C, C ∈ X → ∃ j, j < mv_cnt R.1 kd ∧ mvD kd R j C) (x2 : ∀ j, j < mv_cnt R.1 kd → mvN kd R j ∨ ∃ C, mvD kd R j C ∧ (C ∈ X ∨ os.length = 1848)) : os.length = Ms.length ∧ ∀ (k : Nat) r, Ms[k]? = some r → crP (atC X os k) r := by
  have mb := mb_all hV hp h6 hpl hk
  -- a code and a row of one net
  have join : ∀ {A' : rn_L} {sg' : Nat → Bool} {f : Nat → Nat} {F P : Nat → Int32} {Q : ow_NT} {j : Nat} {Ds : List cdT} {qs : List Nat} {r : List Nat}, OM A sg R.1 kd A' sg' → j < mv_cnt R.1 kd → mv_mk kd R F P → ow_b24 Q.2.2.1 → mv_B kd j Q R F P = true → isoV A' sg' f (mv_T kd j Q R F P) → cpZ (mv_T kd j Q R F P) (np_parts (mv_T kd j Q R F P).1 (mv_T kd j Q R F P).2.2.1.1).2 Ds qs → nfR A' sg' r → crP (enC (mv_T kd j Q R F P) Ds qs) r := by
    rintro A' sg' f F P Q j Ds qs r hO hj hmk hQ hB hi hZ ⟨m, Pp, hmk9, rfl⟩
    have hl9 := OM_len hO
    have hnv := (mv_nv hR hk F P Q j hmk hQ hj).2 hB
    obtain ⟨A2, sg2, e1, e2, e3, e4, f', e5⟩ := enc_iso (isoS_iff.mp hi.1) (by omega) hnv hmk9 hZ
    have hpp := mv_pl hR hp hpl hk hQ hj hB
    refine ⟨A2, sg2, _, e2, e3, e1, fun e => ?_, plnA_of e5 hpp.2 hpp.1⟩
    rw [e] at e4
    have : A.length ≠ 0 := fun e9 => hne (List.eq_nil_of_length_eq_zero e9)
    have e4 : 0 = _ := e4
    omega
  have c2r : ∀ {j : Nat} {C : cdT}, j < mv_cnt R.1 kd → mvD kd R j C → ∃ A' sg', OM A sg R.1 kd A' sg' ∧ ∀ C', mvD kd R j C' → ∀ r, nfR A' sg' r → crP C' r := by
    rintro j C hj ⟨F, P, Q, Ds, qs, d1, d2, d3, d4, rfl⟩
    obtain ⟨A', sg', hO, hall⟩ := mb.1 j hj ⟨F, P, Q, d1, d2, d3⟩
    refine ⟨A', sg', hO, ?_⟩
    rintro C' ⟨F', P', Q', Ds', qs', d1', d2', d3', d4', rfl⟩ r hr
    obtain ⟨-, f, hf⟩ := hall F' P' Q' d1' d2'
    exact join hO hj d1' d2' d3' hf d4' hr
  have det : ∀ {j : Nat} {C C' : cdT}, j < mv_cnt R.1 kd → mvD kd R j C → mvD kd R j C' → C = C' := by
    intro j C C' hj h1 h2
    obtain ⟨A', sg', hO, hall⟩ := c2r hj h1
    obtain ⟨r, -, hr⟩ := m2 A' sg' hO
    exact crR_c (crP_R (hall C h1 r hr)) (crP_R (hall C' h2 r hr))
  -- a full table holds all
  have full : ∀ {j : Nat} {C : cdT}, j < mv_cnt R.1 kd → mvD kd R j C → os.length = 1848 → C ∈ X := by
    intro j C hj hD h9
    have hch : ∀ n, n ≤ os.length → ∃ Js : List Nat, Js.length = n ∧ Js.Nodup ∧ (∀ i, i ∈ Js → i < mv_cnt R.1 kd ∧ ∃ k, k < n ∧ mvD kd R i (atC X os k)) := by
      intro n
      induction n with
      | zero => exact fun _ => ⟨[], rfl, List.nodup_nil, fun i hi => absurd hi List.not_mem_nil⟩
      | succ n ih =>
        intro hn
        obtain ⟨Js, j1, j2, j3⟩ := ih (by omega)
        obtain ⟨i, i1, i2⟩ := x1 _ (at_in hl ho (k := n) (by omega))
        refine ⟨i :: Js, by rw [List.length_cons, j1], List.nodup_cons.mpr ⟨fun h8 => ?_, j2⟩, fun a ha => ?_⟩
        · obtain ⟨-, k, k1, k2⟩ := j3 i h8
          have e := det i1 k2 i2
          have h7 := hs k n k1 (by omega)
          rw [e, cmpC_rf] at h7
          omega
        · rcases List.mem_cons.mp ha with e | ha
          · rw [e]
            exact ⟨i1, n, by omega, i2⟩
          · obtain ⟨a1, k, k1, k2⟩ := j3 a ha
            exact ⟨a1, k, by omega, k2⟩
    obtain ⟨Js, j1, j2, j3⟩ := hch _ (Nat.le_refl _)
    have him : j ∈ Js := by
      rcases Classical.em (j ∈ Js) with h8 | h8
      · exact h8
      · exfalso
        have h7 := nodup_le (j :: Js) (List.range (mv_cnt R.1 kd)) (List.nodup_cons.mpr ⟨h8, j2⟩) (fun a ha => by
          rw [List.mem_range]
          rcases List.mem_cons.mp ha with e | ha
          · rw [e]
            exact hj
          · exact (j3 a ha).1)
        rw [List.length_cons, List.length_range, j1, h9] at h7
        have := cnt_le R.1 (by have := hR.2.1; omega) kd hk
        omega
    obtain ⟨-, k, k1, k2⟩ := j3 j him
    rw [det hj hD k2]
    exact at_in hl ho k1
  have a1 : ∀ C, C ∈ X → ∃ r, r ∈ Ms ∧ crP C r := by
    intro C hC
    obtain ⟨j, hj, hD⟩ := x1 C hC
    obtain ⟨A', sg', hO, hall⟩ := c2r hj hD
    obtain ⟨r, r1, r2⟩ := m2 A' sg' hO
    exact ⟨r, r1, hall C hD r r2⟩
  have a2 : ∀ r, r ∈ Ms → ∃ C, C ∈ X ∧ crP C r := by
    intro r hr
    obtain ⟨A', sg', hO, hn⟩ := m1 r hr
    obtain ⟨j, hj, hall⟩ := mb.2 A' sg' hO
    rcases x2 j hj with ⟨F, P, Q, d1, d2, d3⟩ | ⟨C, hD, hx⟩
    · have := (hall F P Q d1 d2).1
      rw [d3] at this
      cases this
    · have hCX : C ∈ X := hx.elim id (fun h9 => full hj hD h9)
      obtain ⟨F, P, Q, Ds, qs, d1, d2, d3, d4, rfl⟩ := hD
      obtain ⟨-, f, hf⟩ := hall F P Q d1 d2
      exact ⟨_, hCX, join hO hj d1 d2 d3 hf d4 hn⟩
  obtain ⟨L2, hL2⟩ : ∃ L2, L2 = (List.range os.length).map (atC X os) := ⟨_, rfl⟩
  have l2 : L2.length = os.length := by rw [hL2, List.length_map, List.length_range]
  have g2 : ∀ k, k < os.length → L2[k]? = some (atC X os k) := fun k hk => by
    rw [hL2, List.getElem?_map, List.getElem?_range hk]
    rfl
  have mem2 : ∀ C, C ∈ L2 ↔ C ∈ X := by
    intro C
    rw [hL2, List.mem_map]
    constructor
    · rintro ⟨k, hk, rfl⟩
      exact at_in hl ho (List.mem_range.mp hk)
    · intro hC
      obtain ⟨k, hk, e⟩ := at_sur hl ho hs hC
      exact ⟨k, List.mem_range.mpr hk, e⟩
  have p2 : L2.Pairwise (fun a b => cmpC a b < 0) := by
    rw [List.pairwise_iff_getElem]
    intro i j hi hj hij
    have e1 := g2 i (by omega)
    have e2 := g2 j (by omega)
    rw [List.getElem?_eq_getElem hi] at e1
    rw [List.getElem?_eq_getElem hj] at e2
    rw [Option.some.inj e1, Option.some.inj e2]
    exact hs i j hij (by omega)
  obtain ⟨k1, k2⟩ := srt_join L2 Ms p2 hMs (fun C hC => a1 C ((mem2 C).mp hC)) (fun r hr => by
    obtain ⟨C, c1, c3⟩ := a2 r hr
    exact ⟨C, (mem2 C).mpr c1, c3⟩)
  refine ⟨by omega, fun k r hr => ?_⟩
  have := (List.getElem?_eq_some_iff.mp hr).1
  exact k2 k _ r (g2 k (by omega)) hr
/-- the lists that both sides keep -/
theorem mv_list (h : ∀ (k : Nat) r, Ms[k]? = some r → crP (atC X os k) r) : ∃ Ns : List (rn_L × (Nat → Bool)), Ns.length = Ms.length ∧ ∀ (k : Nat) A' sg', Ns[k]? = some (A', sg') → Ms[k]? = some (tk sg' A') ∧ atC X os k = clC sg' A' ∧ A' ≠ [] ∧ plnA A' sg' ∧ ∃ c, okL A' c := by
  have key : ∀ n, n ≤ Ms.length → ∃ Ns : List (rn_L × (Nat → Bool)), Ns.length = n ∧ ∀ (k : Nat) A' sg', Ns[k]? = some (A', sg') → Ms[k]? = some (tk sg' A') ∧ atC X os k = clC sg' A' ∧ A' ≠ [] ∧ plnA A' sg' ∧ ∃ c, okL A' c := by
    intro n
    induction n with
    | zero => exact fun _ => ⟨[], rfl, fun k A' sg' h9 => by rw [List.getElem?_nil] at h9; cases h9⟩
    | succ n ih =>
      intro hn
      obtain ⟨Ns, n1, n2⟩ := ih (by omega)
      have hr : Ms[n]? = some Ms[n] := List.getElem?_eq_getElem (by omega)
      obtain ⟨A', sg', c, k1, k2, k3, k4, k5⟩ := h n _ hr
      refine ⟨Ns ++ [(A', sg')], by rw [List.length_append, n1]; rfl, fun k B sgB hB => ?_⟩
      by_cases hkn : k < n
      · rw [List.getElem?_append_left (by omega)] at hB
        exact n2 k B sgB hB
      · have hkl := (List.getElem?_eq_some_iff.mp hB).1
        rw [List.length_append, n1] at hkl
        have hkl : k < n + 1 := hkl
        have e : k = n := by omega
        subst e
        rw [List.getElem?_append_right (by omega), n1, Nat.sub_self] at hB
        cases hB
        rw [hr, ← k3]
        exact ⟨rfl, k2, k4, k5, c, k1⟩
  exact key _ (Nat.le_refl _)
end XJ
end
