/-! signature: both colours of a part give the same number -/
section XSGL
variable {c : Nat} {S : ow_NP} {G : Nat → Int32} {w q : Nat → Bool}
/-- the rows of a colour have no kernel -/
theorem inj_G (hv : vn c S) (hq : ptQ9 c S q) {κ : Bool} {R : Nat → Nat} {k : Nat} (hk : 1 ≤ k) (hR : nbG9 c S G w q κ R k) {z : Nat → Rat} (hz : ∀ x, x < c → q (2 * x) = true → qS9 (fun i => rwG9 S G R x i * z i) (k - 1) = 0) : ∀ i, i < k - 1 → z i = 0 := by
  have hh : ∀ x, x < c → q (2 * x) = true → (fun a => if a < k - 1 then z a else 0) (R (fV9 G x)) = (fun a => if a < k - 1 then z a else 0) (R (S.2 (fV9 G x))) := fun x hx hxq => by
    have a := hz x hx hxq
    rw [rw_sum] at a
    show (if R (fV9 G x) < k - 1 then z (R (fV9 G x)) else 0) = (if R (S.2 (fV9 G x)) < k - 1 then z (R (S.2 (fV9 G x))) else 0)
    grind
  have one := one_G hv hq hR (h := fun a => if a < k - 1 then z a else 0) hh
  obtain ⟨v0, a1, a2, a3⟩ := hR.2.1 (k - 1) (by omega)
  intro i hi
  obtain ⟨v, b1, b2, b3⟩ := hR.2.1 i (by omega)
  have e := one v v0 b1 a1 b2 a2
  rw [b3, a3] at e
  have e2 : (if i < k - 1 then z i else 0) = (if k - 1 < k - 1 then z (k - 1) else 0) := e
  rw [if_pos hi, if_neg (by omega)] at e2
  exact e2
def dlG9 (G : Nat → Int32) (w : Nat → Bool) (κ : Bool) (x : Nat) : Rat := if w (fV9 G x) = κ then 1 else -1
def epG9 (w : Nat → Bool) (κ : Bool) (v : Nat) : Rat := if w v = κ then 1 else -1
def kG9 (w q : Nat → Bool) (κ : Bool) (R R2 : Nat → Nat) (i j v : Nat) : Rat := if q v = true then epG9 w κ v * dl9 i (R v) * dl9 j (R2 v) else 0
/-- right angles -/
theorem ort_G (hv : vn c S) (hw : gaO c S w) (hq : ptQ9 c S q) {κ : Bool} {R R2 : Nat → Nat} {k k2 : Nat} (hR : nbG9 c S G w q κ R k) (hR2 : nbG9 c S G w q (!κ) R2 k2) (i j : Nat) : qS9 (fun x => if q (2 * x) = true then rwG9 S G R x i * (dlG9 G w κ x * rwG9 S G R2 x j) else 0) c = 0 := by
  have wb : ∀ v, v < 2 * c → w (S.2 v) = !w v := fun v hv1 => by
    have := (hw (S.2 v) (hv v hv1).2.1).1
    rw [(hv v hv1).2.2.2] at this
    rw [this, Bool.not_not]
  have en : ∀ a : Bool, ∀ b : Bool, (if (!a) = b then (1 : Rat) else -1) = -(if a = b then 1 else -1) := fun a b => by
    cases a <;> cases b <;> simp
  have cross : ∀ x, x < c → (if q (2 * x) = true then rwG9 S G R x i * (dlG9 G w κ x * rwG9 S G R2 x j) else 0) = (kG9 w q κ R R2 i j (fV9 G x) + kG9 w q κ R R2 i j (mt (fV9 G x))) - (kG9 w q κ R R2 i j (S.2 (fV9 G x)) + kG9 w q κ R R2 i j (S.2 (mt (fV9 G x)))) := fun x hx => by
    have hf := fV_lt (G := G) hx
    have hm := mt_lt hf
    obtain ⟨q1, q2⟩ := fV_q (G := G) hq hx
    have qb : ∀ v, v < 2 * c → q (S.2 v) = q v := fun v hv1 => by
      have := (hq.1 (S.2 v) (hv v hv1).2.1).1
      rw [(hv v hv1).2.2.2] at this
      exact this.symm
    have qp1 := (qb _ hf).trans q1
    have qp2 := (qb _ hm).trans q2
    unfold kG9
    by_cases hxq : q (2 * x) = true
    · rw [q1, q2, qp1, qp2]
      rw [if_pos hxq, if_pos hxq, if_pos hxq, if_pos hxq, if_pos hxq]
      have w1 := (hw _ hf).2
      have w2 := wb _ hf
      have w3 := wb _ hm
      obtain ⟨b1, b2⟩ := hR.2.2 x hx hxq
      obtain ⟨d1, d2⟩ := hR2.2.2 x hx hxq
      unfold epG9 dlG9 rwG9
      rw [w3, w2, w1, Bool.not_not, en]
      by_cases h9 : w (fV9 G x) = κ
      · obtain ⟨c1, c2⟩ := b1 h9
        obtain ⟨c3, c4⟩ := d2 (by rw [h9, Bool.not_not])
        rw [c1, c2, c3, c4, if_pos h9]
        grind
      · obtain ⟨c1, c2⟩ := b2 (bnot h9)
        obtain ⟨c3, c4⟩ := d1 (bnot h9)
        rw [c1, c2, c3, c4, if_neg h9]
        grind
    · rw [q1, q2, qp1, qp2]
      rw [if_neg hxq, if_neg hxq, if_neg hxq]
      grind
  have e1 : qS9 (fun x => if q (2 * x) = true then rwG9 S G R x i * (dlG9 G w κ x * rwG9 S G R2 x j) else 0) c = qS9 (fun x => (kG9 w q κ R R2 i j (2 * x) + kG9 w q κ R R2 i j (2 * x + 1)) + -(kG9 w q κ R R2 i j (S.2 (2 * x)) + kG9 w q κ R R2 i j (S.2 (2 * x + 1)))) c := qS_cg (fun x hx => by
    have a1 := cross x hx
    have a2 := fV_two (G := G) (g := kG9 w q κ R R2 i j) x
    have a3 := fV_two (G := G) (g := fun v => kG9 w q κ R R2 i j (S.2 v)) x
    rw [a2, a3] at a1
    rw [a1]
    exact Rat.sub_eq_add_neg _ _)
  have p1 := qS_pair (g := kG9 w q κ R R2 i j) c
  have p2 := qS_pair (g := fun v => kG9 w q κ R R2 i j (S.2 v)) c
  have e2 := qS_back hv (kG9 w q κ R R2 i j)
  rw [e1, qS_add, qS_neg, p1, p2, e2]
  grind
theorem gF_mt {κ : Bool} {R : Nat → Nat} {ix : Nat → Nat} {N : Nat} {δ : Nat → Rat} (hδ : ∀ x, δ x * δ x = 1) (hF : ∀ F : Nat → Rat, qS9 (fun e => F (ix e)) N = qS9 (fun x => if q (2 * x) = true then F x else 0) c) : gF9 N (fun e => ((tI9 G w κ (ix e) : Int) : Rat)) (fun e i => δ (ix e) * rwG9 S G R (ix e) i) = mtG9 c S G w q κ R := by
  funext i j
  have a := hF (fun x => ((tI9 G w κ x : Int) : Rat) * rwG9 S G R x i * rwG9 S G R x j)
  show qS9 (fun e => ((tI9 G w κ (ix e) : Int) : Rat) * (δ (ix e) * rwG9 S G R (ix e) i) * (δ (ix e) * rwG9 S G R (ix e) j)) N = qS9 (fun x => if q (2 * x) = true then ((tI9 G w κ x : Int) : Rat) * rwG9 S G R x i * rwG9 S G R x j else 0) c
  rw [← a]
  refine qS_cg (fun e _ => ?_)
  have := hδ (ix e)
  grind
/-- fewer faces than crossings and two -/
theorem eul_G (hv : vn c S) (hw : gaO c S w) (hq : ptQ9 c S q) {κ : Bool} {R R2 : Nat → Nat} {k k2 : Nat} (hk : 1 ≤ k) (hk2 : 1 ≤ k2) (hR : nbG9 c S G w q κ R k) (hR2 : nbG9 c S G w q (!κ) R2 k2) : k + k2 ≤ nF (fun x => q (2 * x)) c + 2 := by
  obtain ⟨ix, i1, i2, i3⟩ := enG9 (fun x => q (2 * x)) c
  generalize nF (fun x => q (2 * x)) c = N at i1 i2 i3 ⊢
  by_cases hle : k + k2 ≤ N + 2
  · exact hle
  · exfalso
    obtain ⟨u, ⟨s, hs, hu⟩, hq0⟩ := lin_n (n := (k - 1) + (k2 - 1)) (fun e l => if l < k - 1 then rwG9 S G R (ix e) l else dlG9 G w κ (ix e) * rwG9 S G R2 (ix e) (l - (k - 1))) (m := N) (by omega)
    have eq : ∀ e, e < N → qS9 (fun i => rwG9 S G R (ix e) i * u i) (k - 1) + dlG9 G w κ (ix e) * qS9 (fun j => rwG9 S G R2 (ix e) j * u (k - 1 + j)) (k2 - 1) = 0 := fun e he => by
      have a := hq0 e he
      unfold qD9 at a
      rw [sp_cut] at a
      have a1 : qS9 (fun l => (fun l => if l < k - 1 then rwG9 S G R (ix e) l else dlG9 G w κ (ix e) * rwG9 S G R2 (ix e) (l - (k - 1))) l * u l) (k - 1) = qS9 (fun i => rwG9 S G R (ix e) i * u i) (k - 1) := qS_cg (fun l hl => by
        dsimp only
        rw [if_pos hl])
      have a2 : qS9 (fun j => (fun l => if l < k - 1 then rwG9 S G R (ix e) l else dlG9 G w κ (ix e) * rwG9 S G R2 (ix e) (l - (k - 1))) (k - 1 + j) * u (k - 1 + j)) (k2 - 1) = dlG9 G w κ (ix e) * qS9 (fun j => rwG9 S G R2 (ix e) j * u (k - 1 + j)) (k2 - 1) := by
        rw [← qS_mul]
        refine qS_cg (fun j hj => ?_)
        dsimp only
        rw [if_neg (by omega), show k - 1 + j - (k - 1) = j by omega]
        grind
      rw [a1, a2] at a
      exact a
    have dd : ∀ x, dlG9 G w κ x * dlG9 G w κ x = 1 := fun x => by
      unfold dlG9
      split <;> grind
    -- the cross terms are 0
    have o : qS9 (fun e => qS9 (fun i => rwG9 S G R (ix e) i * u i) (k - 1) * (dlG9 G w κ (ix e) * qS9 (fun j => rwG9 S G R2 (ix e) j * u (k - 1 + j)) (k2 - 1))) N = 0 := by
      have a1 : ∀ e, e < N → qS9 (fun i => rwG9 S G R (ix e) i * u i) (k - 1) * (dlG9 G w κ (ix e) * qS9 (fun j => rwG9 S G R2 (ix e) j * u (k - 1 + j)) (k2 - 1)) = qS9 (fun i => qS9 (fun j => u i * u (k - 1 + j) * (rwG9 S G R (ix e) i * (dlG9 G w κ (ix e) * rwG9 S G R2 (ix e) j))) (k2 - 1)) (k - 1) := fun e he => by
        rw [Rat.mul_comm, ← qS_mul]
        refine qS_cg (fun i _ => ?_)
        have b : dlG9 G w κ (ix e) * qS9 (fun j => rwG9 S G R2 (ix e) j * u (k - 1 + j)) (k2 - 1) * (rwG9 S G R (ix e) i * u i) = (dlG9 G w κ (ix e) * rwG9 S G R (ix e) i * u i) * qS9 (fun j => rwG9 S G R2 (ix e) j * u (k - 1 + j)) (k2 - 1) := by grind
        rw [b, ← qS_mul]
        exact qS_cg (fun j _ => by grind)
      rw [qS_cg a1, qS_sw, qS_cg (g := fun _ => 0) (fun i _ => by
        rw [qS_sw, qS_cg (g := fun _ => 0) (fun j _ => by
          rw [qS_mul, i3 (fun x => rwG9 S G R x i * (dlG9 G w κ x * rwG9 S G R2 x j)), ort_G hv hw hq hR hR2, Rat.mul_zero]), qS_0]), qS_0]
    have z0 : ∀ e, e < N → qS9 (fun i => rwG9 S G R (ix e) i * u i) (k - 1) = 0 := fun e he => by
      by_cases h9 : qS9 (fun i => rwG9 S G R (ix e) i * u i) (k - 1) = 0
      · exact h9
      · have a1 : ∀ e, e < N → 0 ≤ -(qS9 (fun i => rwG9 S G R (ix e) i * u i) (k - 1) * (dlG9 G w κ (ix e) * qS9 (fun j => rwG9 S G R2 (ix e) j * u (k - 1 + j)) (k2 - 1))) := fun e he => by
          have b := eq e he
          have d := sq_nn9 (qS9 (fun i => rwG9 S G R (ix e) i * u i) (k - 1))
          have b2 : dlG9 G w κ (ix e) * qS9 (fun j => rwG9 S G R2 (ix e) j * u (k - 1 + j)) (k2 - 1) = -qS9 (fun i => rwG9 S G R (ix e) i * u i) (k - 1) := by grind
          rw [b2]
          grind
        have a2 := qS_ps a1 ⟨e, he, by
          have b := eq e he
          have d := sq_ps9 h9
          have b2 : dlG9 G w κ (ix e) * qS9 (fun j => rwG9 S G R2 (ix e) j * u (k - 1 + j)) (k2 - 1) = -qS9 (fun i => rwG9 S G R (ix e) i * u i) (k - 1) := by grind
          rw [b2]
          grind⟩
        rw [qS_neg, o] at a2
        exact absurd a2 (by decide)
    have y0 : ∀ e, e < N → qS9 (fun j => rwG9 S G R2 (ix e) j * u (k - 1 + j)) (k2 - 1) = 0 := fun e he => by
      have a := eq e he
      rw [z0 e he, Rat.zero_add] at a
      have d := dd (ix e)
      grind
    have hx := inj_G hv hq hk hR (z := u) (fun x hx hxq => by
      obtain ⟨e, e1, e2⟩ := i2 x hx hxq
      rw [← e2]
      exact z0 e e1)
    have hy := inj_G hv hq hk2 hR2 (z := fun j => u (k - 1 + j)) (fun x hx hxq => by
      obtain ⟨e, e1, e2⟩ := i2 x hx hxq
      rw [← e2]
      exact y0 e e1)
    by_cases h9 : s < k - 1
    · exact hu (hx s h9)
    · have := hy (s - (k - 1)) (by omega)
      rw [show k - 1 + (s - (k - 1)) = s by omega] at this
      exact hu this
/-- BOTH COLOURS -/
theorem sv_G (hv : vn c S) (hw : gaO c S w) (hq : ptQ9 c S q) {κ : Bool} {R R2 : Nat → Nat} {k k2 : Nat} (hk : 1 ≤ k) (hk2 : 1 ≤ k2) (hR : nbG9 c S G w q κ R k) (hR2 : nbG9 c S G w q (!κ) R2 k2) (he : k + k2 = nF (fun x => q (2 * x)) c + 2) : svG9 c S G w q κ R k = svG9 c S G w q (!κ) R2 k2 := by
  obtain ⟨ix, i1, i2, i3⟩ := enG9 (fun x => q (2 * x)) c
  generalize nF (fun x => q (2 * x)) c = N at i1 i2 i3 he
  have dd : ∀ x, dlG9 G w κ x * dlG9 G w κ x = 1 := fun x => by
    unfold dlG9
    split <;> grind
  have ht : ∀ e, e < N → ((tI9 G w κ (ix e) : Int) : Rat) = 1 ∨ ((tI9 G w κ (ix e) : Int) : Rat) = -1 := fun e _ => by
    rcases tI_pm (G := G) (w := w) (κ := κ) (ix e) with h | h
    · exact Or.inl (by rw [h]; rfl)
    · exact Or.inr (by rw [h]; rfl)
  have key := two9 (c := N) (n := k - 1) (m := k2 - 1) (t := fun e => ((tI9 G w κ (ix e) : Int) : Rat)) (W := fun e i => (fun _ => (1 : Rat)) (ix e) * rwG9 S G R (ix e) i) (B := fun e i => dlG9 G w κ (ix e) * rwG9 S G R2 (ix e) i) ht (fun z hz => inj_G hv hq hk hR (fun x hx hxq => by
    obtain ⟨e, e1, e2⟩ := i2 x hx hxq
    rw [← e2, ← hz e e1]
    exact qS_cg (fun i _ => by grind))) (fun z hz => inj_G hv hq hk2 hR2 (fun x hx hxq => by
    obtain ⟨e, e1, e2⟩ := i2 x hx hxq
    have a := hz e e1
    have a2 : qV9 (k2 - 1) (fun e i => dlG9 G w κ (ix e) * rwG9 S G R2 (ix e) i) z e = dlG9 G w κ (ix e) * qS9 (fun i => rwG9 S G R2 (ix e) i * z i) (k2 - 1) := by
      rw [← qS_mul]
      exact qS_cg (fun i _ => by grind)
    rw [a2] at a
    have d := dd (ix e)
    rw [← e2]
    grind)) (fun i j _ _ => by
    have a := i3 (fun x => rwG9 S G R x i * (dlG9 G w κ x * rwG9 S G R2 x j))
    have o := ort_G hv hw hq hR hR2 i j
    rw [o] at a
    rw [← a]
    exact qS_cg (fun e _ => by grind)) (by omega)
  have m1 := gF_mt (c := c) (S := S) (G := G) (w := w) (q := q) (κ := κ) (R := R) (ix := ix) (N := N) (δ := fun _ => 1) (fun _ => by grind) i3
  have m2 := gF_mt (c := c) (S := S) (G := G) (w := w) (q := q) (κ := !κ) (R := R2) (ix := ix) (N := N) (δ := dlG9 G w κ) dd i3
  have nt : (fun e => -((tI9 G w κ (ix e) : Int) : Rat)) = fun e => ((tI9 G w (!κ) (ix e) : Int) : Rat) := by
    funext e
    rw [tI_not, Rat.intCast_neg]
  rw [m1, nt, m2] at key
  have s1 := cP_t N ht
  rw [nt, i3 (fun x => ((tI9 G w κ x : Int) : Rat)), ← cr_t] at s1
  -- into integers
  have s2 : ((cP9 (fun e => ((tI9 G w κ (ix e) : Int) : Rat)) N : Nat) : Int) - ((cP9 (fun e => ((tI9 G w (!κ) (ix e) : Int) : Rat)) N : Nat) : Int) = crG9 G w q κ c - crG9 G w q (!κ) c := by
    refine Rat.intCast_inj.mp ?_
    rw [Rat.intCast_sub, Rat.intCast_sub]
    exact s1
  unfold svG9
  omega
end XSGL
