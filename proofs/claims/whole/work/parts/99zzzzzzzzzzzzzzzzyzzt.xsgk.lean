/-! signature: a part of a net, and its two colours -/
/-- the visit of a crossing that goes ahead -/
def fV9 (G : Nat → Int32) (x : Nat) : Nat := if 0 < G x then 2 * x else 2 * x + 1
def sgI9 (G : Nat → Int32) (x : Nat) : Int := if 0 < G x then 1 else -1
def tI9 (G : Nat → Int32) (w : Nat → Bool) (κ : Bool) (x : Nat) : Int := if w (fV9 G x) = κ then -sgI9 G x else sgI9 G x
/-- the faces of colour κ beside the gaps of the part q are numbered by R: k of them -/
def nbG9 (c : Nat) (S : ow_NP) (G : Nat → Int32) (w q : Nat → Bool) (κ : Bool) (R : Nat → Nat) (k : Nat) : Prop := (∀ v, v < 2 * c → q v = true → R v < k) ∧ (∀ j, j < k → ∃ v, v < 2 * c ∧ q v = true ∧ R v = j) ∧ ∀ x, x < c → q (2 * x) = true → (w (fV9 G x) = κ → R (mt (fV9 G x)) = R (fV9 G x) ∧ R (S.2 (mt (fV9 G x))) = R (S.2 (fV9 G x))) ∧ (w (fV9 G x) = !κ → R (mt (fV9 G x)) = R (S.2 (fV9 G x)) ∧ R (S.2 (mt (fV9 G x))) = R (fV9 G x))
/-- a part: closed, and it hangs together -/
def ptQ9 (c : Nat) (S : ow_NP) (q : Nat → Bool) : Prop := (∀ v, v < 2 * c → q (S.1 v) = q v ∧ q (mt v) = q v) ∧ ∀ u v, u < 2 * c → v < 2 * c → q u = true → q v = true → rch c S u v
/-- the row of a crossing -/
def rwG9 (S : ow_NP) (G : Nat → Int32) (R : Nat → Nat) (x i : Nat) : Rat := dl9 i (R (fV9 G x)) - dl9 i (R (S.2 (fV9 G x)))
/-- the matrix of a part -/
def mtG9 (c : Nat) (S : ow_NP) (G : Nat → Int32) (w q : Nat → Bool) (κ : Bool) (R : Nat → Nat) : mQ99 := fun i j => qS9 (fun x => if q (2 * x) = true then ((tI9 G w κ x : Int) : Rat) * rwG9 S G R x i * rwG9 S G R x j else 0) c
/-- the correction -/
def crG9 (G : Nat → Int32) (w q : Nat → Bool) (κ : Bool) : Nat → Int
  | 0 => 0
  | x + 1 => crG9 G w q κ x + (if q (2 * x) = true then (if w (fV9 G x) = κ then 0 else sgI9 G x) else 0)
def svG9 (c : Nat) (S : ow_NP) (G : Nat → Int32) (w q : Nat → Bool) (κ : Bool) (R : Nat → Nat) (k : Nat) : Int := (vP9 (mtG9 c S G w q κ R) (k - 1) : Int) - (vM9 (mtG9 c S G w q κ R) (k - 1) : Int) - crG9 G w q κ c
theorem enG9 (q : Nat → Bool) : ∀ c, ∃ ix : Nat → Nat, (∀ e, e < nF q c → ix e < c ∧ q (ix e) = true) ∧ (∀ x, x < c → q x = true → ∃ e, e < nF q c ∧ ix e = x) ∧ ∀ F : Nat → Rat, qS9 (fun e => F (ix e)) (nF q c) = qS9 (fun x => if q x = true then F x else 0) c := by
  intro c
  induction c with
  | zero => exact ⟨fun _ => 0, fun e he => absurd he (Nat.not_lt_zero _), fun x hx => absurd hx (Nat.not_lt_zero _), fun F => rfl⟩
  | succ c ih =>
    obtain ⟨ix, h1, h2, h3⟩ := ih
    by_cases hq : q c = true
    · have hn : nF q (c + 1) = nF q c + 1 := by
        show nF q c + (if q c = true then 1 else 0) = _
        rw [if_pos hq]
      have i1 : ∀ e, e < nF q c → (fun e => if e = nF q c then c else ix e) e = ix e := fun e he => if_neg (by omega)
      have i2 : (fun e => if e = nF q c then c else ix e) (nF q c) = c := if_pos rfl
      refine ⟨fun e => if e = nF q c then c else ix e, fun e he => ?_, fun x hx hxq => ?_, fun F => ?_⟩
      · by_cases h9 : e = nF q c
        · rw [h9, i2]
          exact ⟨by omega, hq⟩
        · rw [i1 e (by omega)]
          have := h1 e (by omega)
          exact ⟨by omega, this.2⟩
      · by_cases h9 : x = c
        · exact ⟨nF q c, by omega, by rw [i2, h9]⟩
        · obtain ⟨e, e1, e2⟩ := h2 x (by omega) hxq
          exact ⟨e, by omega, by rw [i1 e e1]; exact e2⟩
      · rw [hn]
        show qS9 (fun e => F ((fun e => if e = nF q c then c else ix e) e)) (nF q c) + F ((fun e => if e = nF q c then c else ix e) (nF q c)) = qS9 (fun x => if q x = true then F x else 0) c + (if q c = true then F c else 0)
        rw [i2, if_pos hq, ← h3 F]
        refine congrArg (fun s => s + F c) (qS_cg (fun e he => ?_))
        rw [i1 e he]
    · have hn : nF q (c + 1) = nF q c := by
        show nF q c + (if q c = true then 1 else 0) = _
        rw [if_neg hq]
        rfl
      refine ⟨ix, fun e he => ?_, fun x hx hxq => ?_, fun F => ?_⟩
      · have := h1 e (by omega)
        exact ⟨by omega, this.2⟩
      · by_cases h9 : x = c
        · rw [h9] at hxq
          exact absurd hxq hq
        · obtain ⟨e, e1, e2⟩ := h2 x (by omega) hxq
          exact ⟨e, by omega, e2⟩
      · rw [hn, h3 F]
        show _ = qS9 (fun x => if q x = true then F x else 0) c + (if q c = true then F c else 0)
        rw [if_neg hq, Rat.add_zero]
section XSGK
variable {c : Nat} {S : ow_NP} {G : Nat → Int32} {w q : Nat → Bool}
theorem fV_lt {x : Nat} (hx : x < c) : fV9 G x < 2 * c := by
  unfold fV9
  split <;> omega
theorem fV_q (hq : ptQ9 c S q) {x : Nat} (hx : x < c) : q (fV9 G x) = q (2 * x) ∧ q (mt (fV9 G x)) = q (2 * x) := by
  have h2 := (hq.1 (2 * x) (by omega)).2
  have e : mt (2 * x) = 2 * x + 1 := by
    unfold mt
    split <;> omega
  have e2 : mt (2 * x + 1) = 2 * x := by
    unfold mt
    split <;> omega
  rw [e] at h2
  unfold fV9
  split
  · exact ⟨rfl, by rw [e]; exact h2⟩
  · exact ⟨h2, by rw [e2]⟩
theorem fV_two {g : Nat → Rat} (x : Nat) : g (fV9 G x) + g (mt (fV9 G x)) = g (2 * x) + g (2 * x + 1) := by
  have e : mt (2 * x) = 2 * x + 1 := by
    unfold mt
    split <;> omega
  have e2 : mt (2 * x + 1) = 2 * x := by
    unfold mt
    split <;> omega
  unfold fV9
  split
  · rw [e]
  · rw [e2]
    exact Rat.add_comm _ _
theorem qS_pair {g : Nat → Rat} : ∀ c, qS9 (fun x => g (2 * x) + g (2 * x + 1)) c = qS9 g (2 * c) := by
  intro c
  induction c with
  | zero => rfl
  | succ c ih =>
    show qS9 (fun x => g (2 * x) + g (2 * x + 1)) c + (g (2 * c) + g (2 * c + 1)) = qS9 g (2 * (c + 1))
    rw [ih, show 2 * (c + 1) = 2 * c + 1 + 1 by omega]
    show _ = qS9 g (2 * c) + g (2 * c) + g (2 * c + 1)
    grind
/-- sums over all visits, one further back -/
theorem qS_back (hv : vn c S) (g : Nat → Rat) : qS9 (fun v => g (S.2 v)) (2 * c) = qS9 g (2 * c) := by
  have e1 : ∀ v, v < 2 * c → g (S.2 v) = qS9 (fun u => dl9 (S.1 u) v * g u) (2 * c) := fun v hv1 => by
    have a : ∀ u, u < 2 * c → dl9 (S.1 u) v * g u = dl9 (S.2 v) u * g u := fun u hu => by
      by_cases h9 : u = S.2 v
      · rw [show dl9 (S.2 v) u = 1 from if_pos h9, show dl9 (S.1 u) v = 1 from if_pos (by rw [h9, (hv v hv1).2.2.2])]
      · rw [show dl9 (S.2 v) u = 0 from if_neg h9, show dl9 (S.1 u) v = 0 from if_neg (fun h => h9 (by rw [h, (hv u hu).2.2.1]))]
    rw [qS_cg a]
    exact (qD_dl (hv v hv1).2.1).symm
  rw [qS_cg e1, qS_sw]
  refine qS_cg (fun u hu => ?_)
  have a : ∀ v, v < 2 * c → dl9 (S.1 u) v * g u = dl9 (S.1 u) v * (fun _ => g u) v := fun v _ => rfl
  rw [qS_cg a]
  exact qD_dl (x := fun _ => g u) (hv u hu).1
/-- what is the same before and behind every crossing of the part is one number -/
theorem one_G (hv : vn c S) (hq : ptQ9 c S q) {κ : Bool} {R : Nat → Nat} {k : Nat} (hR : nbG9 c S G w q κ R k) {h : Nat → Rat} (hh : ∀ x, x < c → q (2 * x) = true → h (R (fV9 G x)) = h (R (S.2 (fV9 G x)))) : ∀ u v, u < 2 * c → v < 2 * c → q u = true → q v = true → h (R u) = h (R v) := by
  have four : ∀ x, x < c → q (2 * x) = true → h (R (mt (fV9 G x))) = h (R (fV9 G x)) ∧ h (R (S.2 (mt (fV9 G x)))) = h (R (mt (fV9 G x))) := fun x hx hxq => by
    have a := hh x hx hxq
    obtain ⟨b1, b2⟩ := hR.2.2 x hx hxq
    by_cases h9 : w (fV9 G x) = κ
    · obtain ⟨c1, c2⟩ := b1 h9
      rw [c1, c2]
      exact ⟨rfl, a.symm⟩
    · obtain ⟨c1, c2⟩ := b2 (by cases hw : w (fV9 G x) <;> cases hκ : κ <;> simp_all)
      rw [c1, c2]
      exact ⟨a.symm, a⟩
  have back : ∀ v, v < 2 * c → q v = true → h (R (S.2 v)) = h (R v) ∧ h (R (mt v)) = h (R v) := fun v hv1 hvq => by
    have hx : v / 2 < c := by omega
    have e : mt (2 * (v / 2)) = 2 * (v / 2) + 1 := by
      unfold mt
      split <;> omega
    have e2 : mt (2 * (v / 2) + 1) = 2 * (v / 2) := by
      unfold mt
      split <;> omega
    have hxq : q (2 * (v / 2)) = true := by
      have := (hq.1 (2 * (v / 2)) (by omega)).2
      rw [e] at this
      by_cases h9 : v % 2 = 0
      · rw [show 2 * (v / 2) = v by omega]
        exact hvq
      · rw [← this, show 2 * (v / 2) + 1 = v by omega]
        exact hvq
    have a := hh (v / 2) hx hxq
    obtain ⟨b1, b2⟩ := four (v / 2) hx hxq
    have hcase : v = fV9 G (v / 2) ∨ v = mt (fV9 G (v / 2)) := by
      unfold fV9
      by_cases h9 : 0 < G (v / 2)
      · rw [if_pos h9, e]
        omega
      · rw [if_neg h9, e2]
        omega
    have hmm : mt (mt (fV9 G (v / 2))) = fV9 G (v / 2) := by
      unfold fV9
      split
      · rw [e, e2]
      · rw [e2, e]
    rcases hcase with h9 | h9
    · rw [h9]
      rw [← h9]
      rw [h9.symm] at a b1
      exact ⟨a.symm, b1⟩
    · have c1 : h (R (S.2 v)) = h (R v) := by
        rw [h9]
        exact b2
      refine ⟨c1, ?_⟩
      have c2 : mt v = fV9 G (v / 2) := by
        have := congrArg mt h9
        rw [hmm] at this
        exact this
      rw [c2, ← b1, ← h9]
  intro u v hu hvl huq hvq
  have r := hq.2 u v hu hvl huq hvq
  have key := r (fun x => x < 2 * c ∧ q x = true ∧ h (R x) = h (R u)) ⟨hu, huq, rfl⟩ (fun j hj ⟨_, j2, j3⟩ => by
    have q1 := (hq.1 j hj).1
    have s1 := hv j hj
    refine ⟨s1.1, by rw [q1]; exact j2, ?_⟩
    have := (back (S.1 j) s1.1 (by rw [q1]; exact j2)).1
    rw [s1.2.2.1] at this
    rw [← this]
    exact j3) (fun j hj ⟨_, j2, j3⟩ => ⟨mt_lt hj, by rw [(hq.1 j hj).2]; exact j2, by rw [(back j hj j2).2]; exact j3⟩)
  exact key.2.2.symm
theorem rw_sum {R : Nat → Nat} {x n : Nat} (z : Nat → Rat) : qS9 (fun i => rwG9 S G R x i * z i) n = (if R (fV9 G x) < n then z (R (fV9 G x)) else 0) - (if R (S.2 (fV9 G x)) < n then z (R (S.2 (fV9 G x))) else 0) := by
  have e1 : ∀ a, qS9 (fun i => dl9 i a * z i) n = if a < n then z a else 0 := fun a => by
    have b : ∀ i, i < n → dl9 i a * z i = dl9 a i * z i := fun i _ => by
      by_cases h9 : a = i
      · rw [show dl9 i a = 1 from if_pos h9, show dl9 a i = 1 from if_pos h9.symm]
      · rw [show dl9 i a = 0 from if_neg h9, show dl9 a i = 0 from if_neg (fun h => h9 h.symm)]
    rw [qS_cg b]
    by_cases h9 : a < n
    · rw [if_pos h9]
      exact qD_dl h9
    · rw [if_neg h9, qS_cg (g := fun _ => 0) (fun i hi => by rw [show dl9 a i = 0 from if_neg (by omega), Rat.zero_mul]), qS_0]
  have e2 : qS9 (fun i => rwG9 S G R x i * z i) n = qS9 (fun i => dl9 i (R (fV9 G x)) * z i + -(dl9 i (R (S.2 (fV9 G x))) * z i)) n := qS_cg (fun i _ => by
    unfold rwG9
    grind)
  rw [e2, qS_add, qS_neg, e1, e1]
  grind
theorem bnot {a b : Bool} (h : ¬ a = b) : a = !b := by cases a <;> cases b <;> simp_all
theorem tI_not {κ : Bool} (x : Nat) : tI9 G w (!κ) x = -tI9 G w κ x := by
  unfold tI9
  by_cases h : w (fV9 G x) = κ
  · rw [if_neg (by rw [h]; cases κ <;> decide), if_pos h]
    omega
  · rw [if_pos (bnot h), if_neg h]
theorem tI_pm {κ : Bool} (x : Nat) : tI9 G w κ x = 1 ∨ tI9 G w κ x = -1 := by
  unfold tI9 sgI9
  split <;> split <;> simp
theorem cP_t {t : Nat → Rat} : ∀ c, (∀ e, e < c → t e = 1 ∨ t e = -1) → ((cP9 t c : Nat) : Rat) - ((cP9 (fun e => -t e) c : Nat) : Rat) = qS9 t c := by
  intro c
  induction c with
  | zero =>
    intro _
    show ((0 : Nat) : Rat) - ((0 : Nat) : Rat) = 0
    exact Rat.sub_self
  | succ c ih =>
    intro h
    have a := ih (fun e he => h e (by omega))
    show ((cP9 t c + (if 0 < t c then 1 else 0) : Nat) : Rat) - ((cP9 (fun e => -t e) c + (if 0 < -t c then 1 else 0) : Nat) : Rat) = qS9 t c + t c
    rw [← a]
    rcases h c (by omega) with h9 | h9
    · rw [h9, if_pos (show (0 : Rat) < 1 by decide), if_neg (show ¬ (0 : Rat) < -1 by decide), cs_s, Nat.add_zero]
      grind
    · rw [h9, if_neg (show ¬ (0 : Rat) < -1 by decide), if_pos (show (0 : Rat) < - -1 by decide), cs_s, Nat.add_zero]
      grind
theorem cr_t {κ : Bool} : ∀ c, ((crG9 G w q κ c : Int) : Rat) - ((crG9 G w q (!κ) c : Int) : Rat) = qS9 (fun x => if q (2 * x) = true then ((tI9 G w κ x : Int) : Rat) else 0) c := by
  intro c
  induction c with
  | zero =>
    show ((0 : Int) : Rat) - ((0 : Int) : Rat) = 0
    exact Rat.sub_self
  | succ c ih =>
    show ((crG9 G w q κ c + (if q (2 * c) = true then (if w (fV9 G c) = κ then 0 else sgI9 G c) else 0) : Int) : Rat) - ((crG9 G w q (!κ) c + (if q (2 * c) = true then (if w (fV9 G c) = !κ then 0 else sgI9 G c) else 0) : Int) : Rat) = qS9 (fun x => if q (2 * x) = true then ((tI9 G w κ x : Int) : Rat) else 0) c + (if q (2 * c) = true then ((tI9 G w κ c : Int) : Rat) else 0)
    rw [← ih, Rat.intCast_add, Rat.intCast_add]
    by_cases hq : q (2 * c) = true
    · rw [if_pos hq, if_pos hq, if_pos hq]
      unfold tI9
      by_cases h : w (fV9 G c) = κ
      · rw [if_pos h, if_neg (show ¬ w (fV9 G c) = !κ by rw [h]; cases κ <;> decide), if_pos h, Rat.intCast_neg]
        show _ + ((0 : Int) : Rat) - _ = _
        rw [show ((0 : Int) : Rat) = 0 from rfl]
        grind
      · rw [if_neg h, if_pos (bnot h), if_neg h]
        rw [show ((0 : Int) : Rat) = 0 from rfl]
        grind
    · rw [if_neg hq, if_neg hq, if_neg hq]
      rw [show ((0 : Int) : Rat) = 0 from rfl]
      grind
end XSGK
