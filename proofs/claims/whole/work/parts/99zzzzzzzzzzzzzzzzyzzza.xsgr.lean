/-! signature: faces round a crossing; every numbering of the faces of a part gives one value -/
/-- the side of colour κ of the gap behind v -/
def ws9 (w : Nat → Bool) (κ : Bool) (v : Nat) : Nat := if w v = κ then 2 * v else 2 * v + 1
section XSGR
variable {c : Nat} {S : ow_NP} {G : Nat → Int32} {w q : Nat → Bool}
theorem mt_2 (x : Nat) : mt (2 * x) = 2 * x + 1 ∧ mt (2 * x + 1) = 2 * x := by
  unfold mt
  constructor
  · rw [if_pos (by omega)]
  · rw [if_neg (by omega)]
    omega
theorem fV_st (x : Nat) : (decide (fV9 G x % 2 = 0) == decide (0 < G (fV9 G x / 2))) = true ∧ (decide (mt (fV9 G x) % 2 = 0) == decide (0 < G (mt (fV9 G x) / 2))) = false ∧ mt (mt (fV9 G x)) = fV9 G x := by
  obtain ⟨m1, m2⟩ := mt_2 x
  unfold fV9
  by_cases h : 0 < G x
  · rw [if_pos h, m1, m2, show 2 * x / 2 = x by omega, show (2 * x + 1) / 2 = x by omega, decide_eq_true h, decide_eq_true (show 2 * x % 2 = 0 by omega), decide_eq_false (show ¬ (2 * x + 1) % 2 = 0 by omega)]
    exact ⟨rfl, rfl, rfl⟩
  · rw [if_neg h, m2, m1, show 2 * x / 2 = x by omega, show (2 * x + 1) / 2 = x by omega, decide_eq_false h, decide_eq_true (show 2 * x % 2 = 0 by omega), decide_eq_false (show ¬ (2 * x + 1) % 2 = 0 by omega)]
    exact ⟨rfl, rfl, rfl⟩
theorem on4 (hv : vn c S) {x : Nat} (hx : x < c) : fc_on S G (2 * S.2 (fV9 G x)) = 2 * mt (fV9 G x) ∧ fc_on S G (2 * S.2 (mt (fV9 G x))) = 2 * S.2 (fV9 G x) + 1 ∧ fc_on S G (2 * fV9 G x + 1) = 2 * S.2 (mt (fV9 G x)) + 1 ∧ fc_on S G (2 * mt (fV9 G x) + 1) = 2 * fV9 G x := by
  have hf := fV_lt (G := G) hx
  have hm := mt_lt hf
  obtain ⟨s1, s2, s3⟩ := fV_st (G := G) x
  have e1 : ∀ v, v < 2 * c → fc_end S.1 (2 * S.2 v) = v := fun v hv1 => by
    unfold fc_end
    rw [if_pos (by omega), show 2 * S.2 v / 2 = S.2 v by omega, (hv v hv1).2.2.2]
  have e2 : ∀ v, fc_end S.1 (2 * v + 1) = v := fun v => by
    unfold fc_end
    rw [if_neg (by omega)]
    omega
  refine ⟨?_, ?_, ?_, ?_⟩
  · unfold fc_on
    rw [e1 _ hf, s1, decide_eq_true (show 2 * S.2 (fV9 G x) % 2 = 0 by omega)]
    rfl
  · unfold fc_on
    rw [e1 _ hm, s2, s3, decide_eq_true (show 2 * S.2 (mt (fV9 G x)) % 2 = 0 by omega)]
    rfl
  · unfold fc_on
    rw [e2, s1, decide_eq_false (show ¬ (2 * fV9 G x + 1) % 2 = 0 by omega)]
    rfl
  · unfold fc_on
    rw [e2, s2, s3, decide_eq_false (show ¬ (2 * mt (fV9 G x) + 1) % 2 = 0 by omega)]
    rfl
/-- every visit is the one that goes ahead, or its mate -/
theorem fV_or {v : Nat} : v = fV9 G (v / 2) ∨ v = mt (fV9 G (v / 2)) := by
  obtain ⟨m1, m2⟩ := mt_2 (v / 2)
  unfold fV9
  by_cases h9 : 0 < G (v / 2)
  · rw [if_pos h9, m1]
    omega
  · rw [if_neg h9, m2]
    omega
/-- what stands at both sides of a gap or at none, and at one of the part's: at all -/
theorem paint_all (hv : vn c S) (hq : ptQ9 c S q) {φ : Nat → Nat} (hφ : ∀ s, s < 4 * c → φ (fc_on S G s) = φ s) {K : Nat → Prop} (hK : ∀ v, v < 2 * c → q v = true → (K (φ (2 * v)) ↔ K (φ (2 * v + 1)))) {v0 : Nat} (h0 : v0 < 2 * c) (q0 : q v0 = true) (k0 : K (φ (2 * v0))) : ∀ v, v < 2 * c → q v = true → K (φ (2 * v)) ∧ K (φ (2 * v + 1)) := by
  intro v hvl hvq
  have r := hq.2 v0 v h0 hvl q0 hvq
  have key := r (fun u => u < 2 * c ∧ q u = true ∧ K (φ (2 * u))) ⟨h0, q0, k0⟩ (fun j hj ⟨_, j2, j3⟩ => ?_) (fun j hj ⟨_, j2, j3⟩ => ?_)
  · exact ⟨key.2.2, (hK v hvl hvq).mp key.2.2⟩
  · have s1 := hv j hj
    have qn : q (S.1 j) = true := by rw [(hq.1 j hj).1]; exact j2
    have j4 := (hK j hj j2).mp j3
    refine ⟨s1.1, qn, ?_⟩
    have hx : S.1 j / 2 < c := by omega
    obtain ⟨o1, o2, o3, o4⟩ := on4 (G := G) hv hx
    have hf := fV_lt (G := G) hx
    have hm := mt_lt hf
    have p1 := hφ (2 * S.2 (fV9 G (S.1 j / 2))) (by have := (hv _ hf).2.1; omega)
    have p2 := hφ (2 * S.2 (mt (fV9 G (S.1 j / 2)))) (by have := (hv _ hm).2.1; omega)
    have p3 := hφ (2 * fV9 G (S.1 j / 2) + 1) (by omega)
    have p4 := hφ (2 * mt (fV9 G (S.1 j / 2)) + 1) (by omega)
    rw [o1] at p1
    rw [o3] at p3
    rw [o4] at p4
    obtain ⟨q1, q2⟩ := fV_q (G := G) hq hx
    have qm : q (2 * (S.1 j / 2)) = true := by
      rcases fV_or (G := G) (v := S.1 j) with h9 | h9
      · rw [← q1, ← h9]
        exact qn
      · rw [← q2, ← h9]
        exact qn
    rcases fV_or (G := G) (v := S.1 j) with h9 | h9
    · have hb : S.2 (fV9 G (S.1 j / 2)) = j := by rw [← h9, s1.2.2.1]
      rw [hb] at p1
      have a1 : K (φ (2 * mt (fV9 G (S.1 j / 2)))) := by rw [p1]; exact j3
      have a2 := (hK _ hm (by rw [q2]; exact qm)).mp a1
      rw [← p4] at a2
      rw [h9, ← h9]
      rw [← h9] at a2
      exact a2
    · have hb : S.2 (mt (fV9 G (S.1 j / 2))) = j := by rw [← h9, s1.2.2.1]
      rw [hb] at p3
      have a1 : K (φ (2 * fV9 G (S.1 j / 2) + 1)) := by rw [← p3]; exact j4
      have a2 := (hK _ hf (by rw [q1]; exact qm)).mpr a1
      rw [p4] at a2
      have a3 := (hK _ hm (by rw [q2]; exact qm)).mpr a2
      rw [← h9] at a3
      exact a3
  · have qn : q (mt j) = true := by rw [(hq.1 j hj).2]; exact j2
    refine ⟨mt_lt hj, qn, ?_⟩
    have hx : j / 2 < c := by omega
    obtain ⟨o1, o2, o3, o4⟩ := on4 (G := G) hv hx
    have hf := fV_lt (G := G) hx
    have hm := mt_lt hf
    have p4 := hφ (2 * mt (fV9 G (j / 2)) + 1) (by omega)
    rw [o4] at p4
    obtain ⟨s1, s2, s3⟩ := fV_st (G := G) (j / 2)
    rcases fV_or (G := G) (v := j) with h9 | h9
    · have a1 : K (φ (2 * mt (fV9 G (j / 2)) + 1)) := by rw [← p4, ← h9]; exact j3
      have hmj : mt j = mt (fV9 G (j / 2)) := congrArg mt h9
      rw [hmj]
      refine (hK _ hm ?_).mpr a1
      rw [← hmj]
      exact qn
    · have j4 := (hK j hj j2).mp j3
      have hmj : mt j = fV9 G (j / 2) := (congrArg mt h9).trans s3
      rw [hmj, p4, ← h9]
      exact j4
/-- rows of faces are rows of gaps -/
theorem nb_of (hv : vn c S) (hw : gaO c S w) {φ : Nat → Nat} (hφ : ∀ s, s < 4 * c → φ (fc_on S G s) = φ s) {κ : Bool} {ρ : Nat → Nat} {k : Nat} (h1 : ∀ v, v < 2 * c → q v = true → ρ (φ (ws9 w κ v)) < k) (h2 : ∀ j, j < k → ∃ v, v < 2 * c ∧ q v = true ∧ ρ (φ (ws9 w κ v)) = j) : nbG9 c S G w q κ (fun v => ρ (φ (ws9 w κ v))) k := by
  refine ⟨h1, h2, fun x hx hxq => ?_⟩
  have hf := fV_lt (G := G) hx
  have hm := mt_lt hf
  obtain ⟨o1, o2, o3, o4⟩ := on4 (G := G) hv hx
  have p1 := hφ (2 * S.2 (fV9 G x)) (by have := (hv _ hf).2.1; omega)
  have p2 := hφ (2 * S.2 (mt (fV9 G x))) (by have := (hv _ hm).2.1; omega)
  have p3 := hφ (2 * fV9 G x + 1) (by omega)
  have p4 := hφ (2 * mt (fV9 G x) + 1) (by omega)
  rw [o1] at p1
  rw [o2] at p2
  rw [o3] at p3
  rw [o4] at p4
  have wb : ∀ v, v < 2 * c → w (S.2 v) = !w v := fun v hv1 => by
    have := (hw (S.2 v) (hv v hv1).2.1).1
    rw [(hv v hv1).2.2.2] at this
    rw [this, Bool.not_not]
  have w1 := (hw _ hf).2
  have w2 := wb _ hf
  have w3 := wb _ hm
  rw [w1, Bool.not_not] at w3
  have nb : ∀ b : Bool, ¬ (!b) = b := fun b => by cases b <;> decide
  dsimp only
  unfold ws9
  rw [w1, w2, w3]
  refine ⟨fun h => ?_, fun h => ?_⟩
  · rw [h, if_neg (nb κ), if_pos rfl, if_pos rfl, if_neg (nb κ)]
    exact ⟨by rw [p4], by rw [p2]⟩
  · rw [h, Bool.not_not, if_pos rfl, if_pos rfl, if_neg (nb κ), if_neg (nb κ)]
    exact ⟨by rw [p1], by rw [p3]⟩
theorem nF_mono {q : Nat → Bool} : ∀ {a b : Nat}, a ≤ b → nF q a ≤ nF q b := by
  intro a b
  induction b with
  | zero =>
    intro h
    rw [show a = 0 by omega]
    exact Nat.le_refl _
  | succ b ih =>
    intro h
    by_cases h9 : a = b + 1
    · rw [h9]
      exact Nat.le_refl _
    · have := ih (by omega)
      show nF q a ≤ nF q b + _
      omega
theorem nF_lt {q : Nat → Bool} {f n : Nat} (hf : f < n) (hq : q f = true) : nF q f < nF q n := by
  have a := nF_mono (q := q) (show f + 1 ≤ n by omega)
  have b : nF q (f + 1) = nF q f + 1 := by
    show nF q f + (if q f = true then 1 else 0) = _
    rw [if_pos hq]
  omega
theorem nF_sur {q : Nat → Bool} : ∀ {n j : Nat}, j < nF q n → ∃ f, f < n ∧ q f = true ∧ nF q f = j := by
  intro n
  induction n with
  | zero => exact fun h => absurd h (Nat.not_lt_zero _)
  | succ n ih =>
    intro j h
    have e : nF q (n + 1) = nF q n + (if q n = true then 1 else 0) := rfl
    by_cases h9 : j < nF q n
    · obtain ⟨f, f1, f2, f3⟩ := ih h9
      exact ⟨f, by omega, f2, f3⟩
    · by_cases hq : q n = true
      · rw [if_pos hq] at e
        exact ⟨n, by omega, hq, by omega⟩
      · rw [if_neg hq] at e
        omega
theorem nF_inj {q : Nat → Bool} {f g : Nat} (hf : q f = true) (hg : q g = true) (e : nF q f = nF q g) : f = g := by
  rcases Nat.lt_trichotomy f g with h | h | h
  · have := nF_lt h hf
    omega
  · exact h
  · have := nF_lt h hg
    omega
theorem nF_split {p r : Nat → Bool} : ∀ n, nF (fun f => p f && (r f == true)) n + nF (fun f => p f && (r f == false)) n = nF p n := by
  intro n
  induction n with
  | zero => rfl
  | succ n ih =>
    show nF (fun f => p f && (r f == true)) n + (if (p n && (r n == true)) = true then 1 else 0) + (nF (fun f => p f && (r f == false)) n + (if (p n && (r n == false)) = true then 1 else 0)) = nF p n + (if p n = true then 1 else 0)
    rw [← ih]
    cases p n <;> cases r n <;> simp <;> omega
theorem ws_k (κ : Bool) (v : Nat) : kS w (ws9 w κ v) = κ ∧ ws9 w κ v / 2 = v ∧ ws9 w κ v < 2 * v + 2 := by
  unfold ws9
  by_cases h : w v = κ
  · rw [if_pos h]
    unfold kS
    rw [if_pos (by omega), show 2 * v / 2 = v by omega]
    exact ⟨h, rfl, by omega⟩
  · rw [if_neg h]
    unfold kS
    rw [if_neg (by omega), show (2 * v + 1) / 2 = v by omega]
    refine ⟨?_, rfl, by omega⟩
    rw [bnot h, Bool.not_not]
theorem ws_of {κ : Bool} {s : Nat} (h : kS w s = κ) : s = ws9 w κ (s / 2) := by
  unfold kS at h
  unfold ws9
  by_cases h2 : s % 2 = 0
  · rw [if_pos h2] at h
    rw [if_pos h]
    omega
  · rw [if_neg h2] at h
    rw [if_neg (fun h9 => by rw [← h9] at h; cases hw : w (s / 2) <;> simp_all)]
    omega
end XSGR
