/-! maps: the number that the reference answers, of the net's visits -/
section XMF
variable {A : rn_L} {sg : Nat → Bool} {c ci : Nat} {S : ow_NP} {G : Nat → Int32} {V : Nat → Nat → Nat}
def vW9 (V : Nat → Nat → Nat) (w : Nat) : Nat := V (w / 2) (w % 2)
theorem vW_0 (hV : vU9 A V c) {w : Nat} (hw : w < 2 * c) : vW9 V w < A.flatten.length ∧ crs A (vW9 V w) = w / 2 ∧ uns A (vW9 V w) = w % 2 := hV (w / 2) (w % 2) (by omega) (by omega)
theorem vW_e {x : Nat} : vW9 V (2 * x) = V x 0 := by
  unfold vW9
  rw [show 2 * x / 2 = x by omega, show 2 * x % 2 = 0 by omega]
theorem vW_o {x : Nat} : vW9 V (2 * x + 1) = V x 1 := by
  unfold vW9
  rw [show (2 * x + 1) / 2 = x by omega, show (2 * x + 1) % 2 = 1 by omega]
theorem vW_l (hV : vU9 A V c) {w : Nat} (hw : w < 2 * c) : lbv A (fun x => x) (vW9 V w) = w := by
  obtain ⟨a1, a2, a3⟩ := vW_0 hV hw
  show 2 * crs A (vW9 V w) + uns A (vW9 V w) = w
  rw [a2, a3]
  omega
theorem vW_nx (hi : isoN A sg (fun x => x) (c, ci, S, G)) (hv : vn c S) (hV : vU9 A V c) {w : Nat} (hw : w < 2 * c) : rn_nx A (vW9 V (S.2 w)) = vW9 V w := by
  obtain ⟨-, b2, -, b4⟩ := hv w hw
  obtain ⟨a1, -, -⟩ := vW_0 hV b2
  obtain ⟨c1, -, -⟩ := vW_0 hV hw
  have h1 : S.1 (lbv A (fun x => x) (vW9 V (S.2 w))) = lbv A (fun x => x) (rn_nx A (vW9 V (S.2 w))) := hi.2.2.2.2.2.1 _ a1
  rw [vW_l hV b2, b4] at h1
  exact lbv_inj hi (rn_nx_lt a1) c1 (h1.symm.trans (vW_l hV hw).symm)
theorem vW_lb9 (hi : isoN A sg (fun x => x) (c, ci, S, G)) (hv : vn c S) (hok : okF A.flatten c) (hV : vU9 A V c) : lb9 (aK9 A A.length) c S (fun w => gR9 A (vW9 V w)) := by
  have hl : A.flatten.length = 2 * c := okF_len hok
  refine ⟨fun w hw => ?_, fun x hx => ?_, fun h hh v w hv1 hw1 e => ?_⟩
  · obtain ⟨a1, -, -⟩ := vW_0 hV hw
    obtain ⟨d1, d2, d3⟩ := rn_c_in A _ a1
    exact Nat.lt_of_lt_of_le (gK9_lt (A := A) (k := rn_c A (vW9 V w)) (u := vW9 V w + 1) (by omega)).2 (aK9_mono (A := A) (a := rn_c A (vW9 V w) + 1) A.length (by omega))
  · dsimp only
    obtain ⟨a1, a2, a3⟩ := vW_0 hV (show 2 * x < 2 * c by omega)
    have b2 := (hv (2 * x) (by omega)).2.1
    rw [gR9_ov (by rw [a3]; omega), ← vW_nx hi hv hV (show 2 * x < 2 * c by omega)]
    exact gA9_nx (vW_0 hV b2).1
  · have key := gR9_cn (A := A) (h := fun v => h (lbv A (fun x => x) v)) (fun u hu e0 => ?_) (vW_0 hV hv1).1 (vW_0 hV hw1).1 e
    · rw [vW_l hV hv1, vW_l hV hw1] at key
      exact key
    · have h1 : S.1 (lbv A (fun x => x) u) = lbv A (fun x => x) (rn_nx A u) := hi.2.2.2.2.2.1 u hu
      have l1 : lbv A (fun x => x) u < 2 * c := lbv_lt hi hu
      have e1 : lbv A (fun x => x) (rn_nx A u) = 2 * crs A (rn_nx A u) := by
        show 2 * crs A (rn_nx A u) + uns A (rn_nx A u) = _
        rw [e0]
        rfl
      have l2 : lbv A (fun x => x) (rn_nx A u) < 2 * c := lbv_lt hi (rn_nx_lt hu)
      have := hh (crs A (rn_nx A u)) (by omega)
      rw [← e1, ← h1, (hv _ l1).2.2.1] at this
      rw [← h1]
      exact this
theorem at9_some {L : List Nat} {b : Nat} (hb : b < L.length) : L[b]? = some (at9 L b) := by
  unfold at9
  rw [List.getElem?_eq_getElem hb]
  rfl
theorem sl_ar {m p P : Nat} {mm : Nat → Nat} (hi : isoN A sg (fun x => x) (c, ci, S, G)) (hv : vn c S) (hok : okF A.flatten c) (hV : vU9 A V c) (hk : mk A mm P) (L : List Nat) : mR9 A sg V c m mm p L ↔ ar9 (thM m) (fun x o i => opM m (sg x) o i) (aK9 A A.length) c S (fun w => decide (mm (rn_c A (vW9 V w)) = p)) (fun w => gR9 A (vW9 V w)) L := by
  have hlb := vW_lb9 hi hv hok hV
  have e1 : ∀ x, x < c → gA9 A (V x 0) = gR9 A (vW9 V (2 * x)) := fun x hx => by
    rw [vW_e, gR9_ov (hV x 0 hx (by omega)).2.2]
  have e2 : ∀ x, x < c → gA9 A (V x 1) = gR9 A (vW9 V (S.2 (2 * x + 1))) := fun x hx => by
    have b2 := (hv (2 * x + 1) (by omega)).2.1
    rw [← vW_o (V := V) (x := x), ← vW_nx hi hv hV (show 2 * x + 1 < 2 * c by omega)]
    exact gA9_nx (vW_0 hV b2).1
  have e3 : ∀ x, gR9 A (V x 1) = gR9 A (vW9 V (2 * x + 1)) := fun x => by rw [vW_o]
  have d1 : ∀ x, x < c → mm (rn_c A (vW9 V (2 * x + 1))) = mm (rn_c A (vW9 V (2 * x))) := fun x hx => by
    rw [vW_o, vW_e]
    exact vU_mk hV hk hx
  have d2 : ∀ w, w < 2 * c → mm (rn_c A (vW9 V (S.2 w))) = mm (rn_c A (vW9 V w)) := fun w hw => by
    rw [← vW_nx hi hv hV hw, c_nx (vW_0 hV (hv w hw).2.1).1]
  have us : ∀ b, usP c (fun x => gA9 A (V x 0)) (fun x => gA9 A (V x 1)) (fun x => gR9 A (V x 1)) (fun x => decide (mm (rn_c A (V x 0)) = p)) b ↔ us9 c (fun w => decide (mm (rn_c A (vW9 V w)) = p)) (fun w => gR9 A (vW9 V w)) b := by
    intro b
    constructor
    · rintro ⟨x, hx, hp, hb⟩
      have hp : mm (rn_c A (V x 0)) = p := of_decide_eq_true hp
      rw [← vW_e (V := V) (x := x)] at hp
      rcases hb with hb | hb | hb
      · exact ⟨2 * x, by omega, decide_eq_true hp, (e1 x hx).symm.trans hb.symm⟩
      · exact ⟨S.2 (2 * x + 1), (hv (2 * x + 1) (by omega)).2.1, decide_eq_true ((d2 _ (by omega)).trans ((d1 x hx).trans hp)), (e2 x hx).symm.trans hb.symm⟩
      · exact ⟨2 * x + 1, by omega, decide_eq_true ((d1 x hx).trans hp), (e3 x).symm.trans hb.symm⟩
    · rintro ⟨w, hw, hp, hb⟩
      have hp : mm (rn_c A (vW9 V w)) = p := of_decide_eq_true hp
      have hb : gR9 A (vW9 V w) = b := hb
      rcases (show w = 2 * (w / 2) ∨ w = 2 * (w / 2) + 1 by omega) with e | e
      · rw [e] at hp hb
        refine ⟨w / 2, by omega, decide_eq_true ?_, Or.inl ?_⟩
        · rw [← vW_e (V := V) (x := w / 2)]
          exact hp
        · exact hb.symm.trans (e1 _ (by omega)).symm
      · rw [e] at hp hb
        refine ⟨w / 2, by omega, decide_eq_true ?_, Or.inr (Or.inr ?_)⟩
        · rw [← vW_e (V := V) (x := w / 2), ← d1 _ (by omega)]
          exact hp
        · exact hb.symm.trans (e3 _).symm
  constructor
  · rintro ⟨h1, h2, h3⟩
    refine ⟨h1, fun b hb => ?_, fun x hx hp => ?_⟩
    · have := h2 b _ (at9_some (by omega))
      exact ⟨this.1, fun h9 => this.2 (fun h8 => h9 ((us b).mp h8))⟩
    · have hp : mm (rn_c A (vW9 V (2 * x))) = p := of_decide_eq_true hp
      rw [vW_e] at hp
      have l1 := hlb.1 (2 * x) (by omega)
      have l2 := hlb.1 (S.2 (2 * x + 1)) (hv (2 * x + 1) (by omega)).2.1
      have l3 := hlb.1 (2 * x + 1) (by omega)
      dsimp only at l1 l2 l3 ⊢
      refine h3 x hx (decide_eq_true hp) _ _ _ ?_ ?_ ?_
      · dsimp only
        rw [e1 x hx]
        exact at9_some (by omega)
      · dsimp only
        rw [e2 x hx]
        exact at9_some (by omega)
      · dsimp only
        rw [e3 x]
        exact at9_some (by omega)
  · rintro ⟨h1, h2, h3⟩
    refine ⟨h1, fun b q hb => ?_, fun x hx hp o i j ho hi9 hj => ?_⟩
    · have hl := (List.getElem?_eq_some_iff.mp hb).1
      have eb := Option.some.inj ((at9_some hl).symm.trans hb)
      have := h2 b (by omega)
      rw [eb] at this
      exact ⟨this.1, fun h9 => this.2 (fun h8 => h9 ((us b).mpr h8))⟩
    · have hp : mm (rn_c A (V x 0)) = p := of_decide_eq_true hp
      have k3 := h3 x hx (decide_eq_true (by rw [vW_e]; exact hp))
      dsimp only at k3 ho hi9 hj
      rw [e1 x hx] at ho
      rw [e2 x hx] at hi9
      rw [e3 x] at hj
      have f1 := Option.some.inj ((at9_some (List.getElem?_eq_some_iff.mp ho).1).symm.trans ho)
      have f2 := Option.some.inj ((at9_some (List.getElem?_eq_some_iff.mp hi9).1).symm.trans hi9)
      have f3 := Option.some.inj ((at9_some (List.getElem?_eq_some_iff.mp hj).1).symm.trans hj)
      rw [f1, f2, f3] at k3
      exact k3
theorem thM_pos (m : Nat) : 0 < thM m := by
  unfold thM
  split
  · decide
  · split
    · decide
    · split <;> decide
/-- what the reference answers: all colourings, and a factor for each circle -/
theorem mA_cl {m : Nat} {v : Int32} (hi : isoN A sg (fun x => x) (c, ci, S, G)) (hv : vn c S) (h : mA9 A sg m v) : ∃ N, cnt9 (cl9 (thM m) (fun x o i => opM m (sg x) o i) c S (fun _ => true)) N ∧ v = nI (N * thM m ^ cirs A) := by
  obtain ⟨c', V, mm, P, f, hok, hV, hk, hq, hx⟩ := h
  have ec : c' = c := by
    have h1 := okF_len hok
    have h2 : A.flatten.length = 2 * c := hi.2.1
    omega
  subst ec
  have pw : ∀ w, w < 2 * c' → mm (rn_c A (vW9 V w)) < P := fun w hw => hk.1 _ (rn_c_in A _ (vW_0 hV hw).1).1
  have d1 : ∀ x, x < c' → mm (rn_c A (vW9 V (2 * x + 1))) = mm (rn_c A (vW9 V (2 * x))) := fun x hx => by
    rw [vW_o, vW_e]
    exact vU_mk hV hk hx
  have d2 : ∀ w, w < 2 * c' → mm (rn_c A (vW9 V (S.2 w))) = mm (rn_c A (vW9 V w)) := fun w hw => by
    rw [← vW_nx hi hv hV hw, c_nx (vW_0 hV (hv w hw).2.1).1]
  have nv : ∀ p, pvl A mm p A.flatten.length = [] ↔ ∀ v, v < A.flatten.length → mm (rn_c A v) ≠ p := fun p => by
    unfold pvl
    rw [List.filter_eq_nil_iff]
    constructor
    · intro h9 v hv9 e
      exact h9 v (List.mem_range.mpr hv9) (decide_eq_true e)
    · intro h9 v hv9 e
      exact h9 v (List.mem_range.mp hv9) (of_decide_eq_true e)
  refine ⟨pd9 (fun p => if pvl A mm p A.flatten.length = [] then 1 else f p) P, cl_prod (pr := fun w => mm (rn_c A (vW9 V w))) hv (thM_pos m) (fun w hw => ⟨pw w hw, d2 w hw⟩) d1 (fun p hp => ?_), ?_⟩
  · by_cases e : pvl A mm p A.flatten.length = []
    · rw [if_pos e]
      have e' := (nv p).mp e
      refine cnt_1 (L0 := tb9 (2 * c') (fun _ => 0)) (fun L => ⟨fun hL => at9_ext hL.1 tb9_len (fun w hw => ?_), fun eL => ?_⟩)
      · rw [(hL.2.1 w hw).2 (decide_eq_false (e' _ (vW_0 hV hw).1)), tb9_at hw]
      · rw [eL]
        refine ⟨tb9_len, fun w hw => ?_, fun x hx9 h9 => absurd (of_decide_eq_true h9) (e' _ (vW_0 hV (by omega)).1)⟩
        rw [tb9_at hw]
        exact ⟨thM_pos m, fun _ => rfl⟩
    · rw [if_neg e]
      rcases hq p hp with ⟨-, hN⟩ | ⟨h9, -⟩
      · exact ar_cl hv ⟨fun w hw => by dsimp only; rw [d2 w hw], fun x hx9 => by dsimp only; rw [d1 x hx9]⟩ (vW_lb9 hi hv hok hV) (thM_pos m) (cnt_cg (fun L => sl_ar hi hv hok hV hk L) hN)
      · exact absurd ((nv p).mpr h9) e
  · rw [hx, ← cir_eq hk]
    have key : ∀ p, p ≤ P → pd9 f p = pd9 (fun p => if pvl A mm p A.flatten.length = [] then 1 else f p) p * thM m ^ cir A mm p := by
      intro p
      induction p with
      | zero => exact fun _ => rfl
      | succ p ih =>
        intro hp
        show pd9 f p * f p = (pd9 _ p * (if pvl A mm p A.flatten.length = [] then 1 else f p)) * thM m ^ (cir A mm p + if pvl A mm p A.flatten.length = [] then 1 else 0)
        rw [ih (by omega)]
        by_cases e : pvl A mm p A.flatten.length = []
        · rw [if_pos e, if_pos e, Nat.mul_one, Nat.pow_succ, Nat.mul_assoc]
          congr 1
          rcases hq p (by omega) with ⟨⟨v, v1, v2⟩, -⟩ | ⟨-, h9⟩
          · exact absurd v2 ((nv p).mp e v v1)
          · rw [h9]
        · rw [if_neg e, if_neg e, Nat.add_zero, Nat.mul_assoc, Nat.mul_assoc, Nat.mul_comm (f p)]
    rw [key P (Nat.le_refl _)]
end XMF
