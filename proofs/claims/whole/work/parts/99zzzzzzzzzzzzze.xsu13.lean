/-! summands: the first rows -/
section XSA
variable {A : rn_L} {sg : Nat → Bool} {σ : Nat → Bool} {f : Nat → Nat} {T : ow_NT} {D : List ptT} {m : Nat → Nat} {P p : Nat}
theorem wfI_cg {τ : Nat → Bool} (h : ∀ v, v < A.flatten.length → σ v = τ v) : ∀ n, wfI A σ n = wfI A τ n
  | 0 => rfl
  | n + 1 => by
    have hle := rn_b_le A (n + 1)
    have e : wfB A σ n (rn_b A (n + 1)) = wfB A τ n (rn_b A (n + 1)) := by
      unfold wfB
      refine List.filter_congr (fun j hj => ?_)
      have := List.mem_range.mp hj
      rw [h j (by omega)]
    rw [wfI, wfI, e, wfI_cg h n]
theorem wfW_cg {τ : Nat → Bool} (h : ∀ v, v < A.flatten.length → σ v = τ v) (n : Nat) : wfW A σ n = wfW A τ n := by
  unfold wfW
  rw [wfI_cg h n]
theorem iso_em (h : isoN A sg f T) : emN A sg f T := ⟨h.1, Nat.le_of_eq h.2.1, h.2.2.1, h.2.2.2.1, h.2.2.2.2.1, h.2.2.2.2.2.1, h.2.2.2.2.2.2.1, trivial⟩
/-- whole rings are shown as they were -/
theorem em_un (h : emN A sg f T) (hs2 : ∀ a b, a < A.flatten.length → b < A.flatten.length → rn_c A a = rn_c A b → σ a = σ b) (hcl : ∀ v, v < A.flatten.length → σ v = true → σ (mtf A v) = true) : emN (wfW A σ A.length) sg f T := by
  obtain ⟨t1, t2, t3, t4⟩ := em_to h
  have sub : ∀ p, p ∈ (wfW A σ A.length).flatten → p ∈ A.flatten := fun p hp => by
    obtain ⟨j, j1, _, rfl⟩ := wfW_el hp
    exact vAt_mem j1
  refine em_of (wfW_wk h.1 hcl) ?_ h.2.2.1 (fun p hp => t1 p (sub p hp)) (fun p q hp hq => t2 p q (sub p hp) (sub q hq)) (fun L hL p hp => ?_) (fun p hp => t4 p (sub p hp))
  · have := wf_len (A := A) (σ := σ) (c := A.length) (i := A.flatten.length) (by rw [rn_b_len]; exact Nat.le_refl _)
    have h2 := h.2.1
    unfold wfW
    rw [fl_map, List.length_map]
    omega
  · obtain ⟨r, r1, r2, r3⟩ := wfW_in _ hL
    obtain ⟨R, R1, R2⟩ := ring_sg A r r1
    have hle := rn_b_le A (r + 1)
    have cR : ∀ j, j ∈ sg9 (rn_b A r) (rn_b A (r + 1)) → j < A.flatten.length ∧ rn_c A j = r := fun j hj => by
      have hj := sg9_m.mp hj
      exact ⟨by omega, rn_c_of A r j hj.1 hj.2⟩
    have all : ∀ j, j ∈ sg9 (rn_b A r) (rn_b A (r + 1)) → σ j = true := fun j hj => by
      obtain ⟨i, hi⟩ := List.exists_mem_of_ne_nil _ r3
      obtain ⟨i1, i2⟩ := List.mem_filter.mp hi
      rw [← i2]
      exact hs2 j i (cR j hj).1 (cR i i1).1 (by rw [(cR j hj).2, (cR i i1).2])
    rw [fil_all all, R2] at r2
    rw [r2] at hp ⊢
    exact t3 R R1 p hp
/-- the rows of the first p parts -/
def prtP (T : ow_NT) (A : rn_L) (f m : Nat → Nat) (p : Nat) (D : List ptT) : Prop := (∀ d, d ∈ D → rowO T d) ∧ (∀ v, v < A.flatten.length → m (rn_c A v) < p → ∃ d, d ∈ D ∧ inD d (lbv A f v)) ∧ (∀ d, d ∈ D → ∀ j, inD d j → ∃ v, v < A.flatten.length ∧ lbv A f v = j ∧ m (rn_c A v) < p) ∧ D.Pairwise (fun d d' => ∀ j, inD d j → ¬ inD d' j)
theorem ini_0 : prtP T A f m 0 [] := ⟨fun d hd => absurd hd List.not_mem_nil, fun v _ h => absurd h (Nat.not_lt_zero _), fun d hd => absurd hd List.not_mem_nil, List.Pairwise.nil⟩
theorem ini_no (h : prtP T A f m p D) (hn : ∀ v, v < A.flatten.length → m (rn_c A v) ≠ p) : prtP T A f m (p + 1) D := ⟨h.1, fun v hv h9 => h.2.1 v hv (by have := hn v hv; omega), fun d hd j hj => by
  obtain ⟨v, v1, v2, v3⟩ := h.2.2.1 d hd j hj
  exact ⟨v, v1, v2, by omega⟩, h.2.2.2⟩
theorem ini_s (hi : isoN A sg f T) (hv : vn T.1 T.2.2.1) (hk : mk A m P) (h6 : A.length ≤ 6) (hP : prtP T A f m p D) {v0 : Nat} (hv0 : v0 < A.flatten.length) (e0 : m (rn_c A v0) = p) {m' : Nat → Nat} {P' : Nat} (hk' : mk (wfW A (fun v => decide (m (rn_c A v) = p)) A.length) m' P') : ∃ d : ptT, pkR (wfW A (fun v => decide (m (rn_c A v) = p)) A.length) sg m' P' = tk d.2.1 d.1 ∧ prtP T A f m (p + 1) (d :: D) := by
  have h := iso_em hi
  have hd := wkF_ok h.1
  obtain ⟨d, a1, a2, a3⟩ := piece (σ := fun v => decide (m (rn_c A v) = p)) (em_un h (fun a b ha hb e => by
    show decide (m (rn_c A a) = p) = decide (m (rn_c A b) = p)
    rw [e]) (fun v hv9 e9 => by
    have e9 := of_decide_eq_true e9
    refine decide_eq_true ?_
    rw [← hk.2.1 _ _ ⟨v, mtf A v, mtf_mt hd hv9, rfl, rfl⟩]
    exact e9)) hv h6 hv0 (decide_eq_true e0) (fun u w hu hw e1 e2 => (pt_iff9 hv h.2.2.1 (em_lt h hu) (em_lt h hw)).mp ((part_iff hi hv hk hu hw).mpr ((of_decide_eq_true e1).trans (of_decide_eq_true e2).symm))) hk'
  refine ⟨d, a1, fun x hx => ?_, fun v hv9 h9 => ?_, fun x hx j hj => ?_, List.pairwise_cons.mpr ⟨fun x hx j hj hj2 => ?_, hP.2.2.2⟩⟩
  · rcases List.mem_cons.mp hx with e | hx
    · rw [e]
      exact a2
    · exact hP.1 x hx
  · by_cases e : m (rn_c A v) = p
    · exact ⟨d, List.mem_cons_self .., (a3 _).mpr ⟨v, hv9, decide_eq_true e, rfl⟩⟩
    · obtain ⟨x, x1, x2⟩ := hP.2.1 v hv9 (by omega)
      exact ⟨x, List.mem_cons_of_mem _ x1, x2⟩
  · rcases List.mem_cons.mp hx with e | hx
    · rw [e] at hj
      obtain ⟨v, v1, v2, v3⟩ := (a3 j).mp hj
      exact ⟨v, v1, v3, by have := of_decide_eq_true v2; omega⟩
    · obtain ⟨v, v1, v2, v3⟩ := hP.2.2.1 x hx j hj
      exact ⟨v, v1, v2, by omega⟩
  · obtain ⟨v, v1, v2, v3⟩ := (a3 j).mp hj
    obtain ⟨w, w1, w2, w3⟩ := hP.2.2.1 x hx j hj2
    have e := em_inj h v1 w1 (v3.trans w2.symm)
    have := of_decide_eq_true v2
    rw [← e] at w3
    omega
theorem ini_end (hi : isoN A sg f T) (hk : mk A m P) (h : prtP T A f m P D) : prtD T D := ⟨h.1, fun j hj => by
  obtain ⟨v, v1, v2⟩ := lbv_sur hi hj
  obtain ⟨d, d1, d2⟩ := h.2.1 v v1 (hk.1 _ (rn_c_in A v v1).1)
  rw [v2] at d2
  exact ⟨d, d1, d2⟩, h.2.2.2⟩
end XSA
