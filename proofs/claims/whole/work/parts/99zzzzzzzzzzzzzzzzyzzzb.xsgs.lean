/-! signature: the value of a part -/
def qP9 (M : Nat → Int32) (p v : Nat) : Bool := decide (M v = nI p)
def qF9 (ψ : Nat → Nat) (cf : Nat → Bool) (p : Nat) (κ : Bool) (f : Nat) : Bool := decide (ψ f = p) && (cf f == κ)
/-- faces, colours and parts of a plane net -/
def fcD9 (c : Nat) (S : ow_NP) (G : Nat → Int32) (w : Nat → Bool) (n P : Nat) (M : Nat → Int32) (φ ψ : Nat → Nat) (cf : Nat → Bool) : Prop := vn c S ∧ gaO c S w ∧ (∀ s, s < 4 * c → φ s < n) ∧ (∀ s, s < 4 * c → φ (fc_on S G s) = φ s) ∧ (∀ s, s < 4 * c → kS w s = cf (φ s)) ∧ (∀ f, f < n → ψ f < P) ∧ (∀ s, s < 4 * c → M (s / 2) = nI (ψ (φ s))) ∧ (∀ f, f < n → ∃ s, s < 4 * c ∧ φ s = f) ∧ n = c + 2 * P ∧ (∀ v, v < 2 * c → M (S.1 v) = M v ∧ M (mt v) = M v) ∧ (∀ u v, u < 2 * c → v < 2 * c → M u = M v → rch c S u v) ∧ (∀ p, p < P → ∃ v, v < 2 * c ∧ M v = nI p) ∧ c ≤ 12 ∧ n ≤ 48 ∧ P ≤ 24
def kF9 (ψ : Nat → Nat) (cf : Nat → Bool) (n p : Nat) (κ : Bool) : Nat := nF (qF9 ψ cf p κ) n
def cnR9 (w : Nat → Bool) (φ ψ : Nat → Nat) (cf : Nat → Bool) (p : Nat) (κ : Bool) (v : Nat) : Nat := nF (qF9 ψ cf p κ) (φ (ws9 w κ v))
/-- the value -/
def vlG9 (c : Nat) (S : ow_NP) (G : Nat → Int32) (w : Nat → Bool) (n : Nat) (M : Nat → Int32) (φ ψ : Nat → Nat) (cf : Nat → Bool) (p : Nat) : Int := svG9 c S G w (qP9 M p) true (cnR9 w φ ψ cf p true) (kF9 ψ cf n p true)
theorem sumQ_sq {A B : Nat → Nat} : ∀ P, (∀ p, p < P → A p ≤ B p + 2) → sumQ A P ≤ sumQ B P + 2 * P ∧ (sumQ A P = sumQ B P + 2 * P → ∀ p, p < P → A p = B p + 2) := by
  intro P
  induction P with
  | zero => exact fun _ => ⟨Nat.le_refl _, fun _ p hp => absurd hp (Nat.not_lt_zero _)⟩
  | succ P ih =>
    intro h
    obtain ⟨i1, i2⟩ := ih (fun p hp => h p (by omega))
    have hP := h P (by omega)
    have e1 : sumQ A (P + 1) = sumQ A P + A P := rfl
    have e2 : sumQ B (P + 1) = sumQ B P + B P := rfl
    refine ⟨by omega, fun e p hp => ?_⟩
    by_cases h9 : p = P
    · rw [h9]
      omega
    · exact i2 (by omega) p (by omega)
section XSGS
variable {c n P : Nat} {S : ow_NP} {G : Nat → Int32} {w cf : Nat → Bool} {M : Nat → Int32} {φ ψ : Nat → Nat}
theorem ptQ_of (h : fcD9 c S G w n P M φ ψ cf) (p : Nat) : ptQ9 c S (qP9 M p) := by
  obtain ⟨h1, h2, h3, h4, h5, h6, h7, h8, h9, h10, h11, h12, h13, h14, h15⟩ := h
  refine ⟨fun v hv => ?_, fun u v hu hv q1 q2 => ?_⟩
  · unfold qP9
    rw [(h10 v hv).1, (h10 v hv).2]
    exact ⟨rfl, rfl⟩
  · have a := of_decide_eq_true q1
    have b := of_decide_eq_true q2
    exact h11 u v hu hv (by rw [a, b])
theorem fc_ws (h : fcD9 c S G w n P M φ ψ cf) {p : Nat} (hp : p < P) {κ : Bool} {v : Nat} (hv : v < 2 * c) (hq : qP9 M p v = true) : φ (ws9 w κ v) < n ∧ qF9 ψ cf p κ (φ (ws9 w κ v)) = true := by
  obtain ⟨h1, h2, h3, h4, h5, h6, h7, h8, h9, h10, h11, h12, h13, h14, h15⟩ := h
  obtain ⟨a1, a2, a3⟩ := ws_k (w := w) κ v
  have hs : ws9 w κ v < 4 * c := by omega
  have hn := h3 _ hs
  refine ⟨hn, ?_⟩
  have e := h7 _ hs
  rw [a2, of_decide_eq_true hq] at e
  have hl := h6 _ hn
  have e2 := nI_inj9 (by omega) (by omega) e
  have e3 := h5 _ hs
  rw [a1] at e3
  unfold qF9
  rw [decide_eq_true e2.symm, ← e3]
  simp
theorem fc_of (h : fcD9 c S G w n P M φ ψ cf) {p : Nat} {κ : Bool} {f : Nat} (hf : f < n) (hq : qF9 ψ cf p κ f = true) : ∃ v, v < 2 * c ∧ qP9 M p v = true ∧ φ (ws9 w κ v) = f := by
  obtain ⟨h1, h2, h3, h4, h5, h6, h7, h8, h9, h10, h11, h12, h13, h14, h15⟩ := h
  obtain ⟨s, s1, s2⟩ := h8 f hf
  unfold qF9 at hq
  rw [Bool.and_eq_true_iff] at hq
  have q1 := of_decide_eq_true hq.1
  have q2 : cf f = κ := by
    have := hq.2
    simpa using this
  have k1 := h5 s s1
  rw [s2, q2] at k1
  refine ⟨s / 2, by omega, ?_, ?_⟩
  · unfold qP9
    rw [h7 s s1, s2, q1]
    exact decide_eq_true rfl
  · rw [← ws_of k1, s2]
theorem nb_can (h : fcD9 c S G w n P M φ ψ cf) {p : Nat} (hp : p < P) (κ : Bool) : nbG9 c S G w (qP9 M p) κ (cnR9 w φ ψ cf p κ) (kF9 ψ cf n p κ) := by
  refine nb_of (ρ := fun f => nF (qF9 ψ cf p κ) f) h.1 h.2.1 h.2.2.2.1 (fun v hv hq => ?_) (fun j hj => ?_)
  · obtain ⟨a, b⟩ := fc_ws h hp (κ := κ) hv hq
    exact nF_lt a b
  · obtain ⟨f, f1, f2, f3⟩ := nF_sur hj
    obtain ⟨v, v1, v2, v3⟩ := fc_of h f1 f2
    refine ⟨v, v1, v2, ?_⟩
    rw [v3]
    exact f3
theorem kF_pos (h : fcD9 c S G w n P M φ ψ cf) {p : Nat} (hp : p < P) (κ : Bool) : 1 ≤ kF9 ψ cf n p κ := by
  obtain ⟨v, v1, v2⟩ := h.2.2.2.2.2.2.2.2.2.2.2.1 p hp
  obtain ⟨a, b⟩ := fc_ws h hp (κ := κ) v1 (decide_eq_true v2)
  exact nF_pos b n a
/-- Euler for each part -/
theorem eul_p (h : fcD9 c S G w n P M φ ψ cf) {p : Nat} (hp : p < P) (κ : Bool) : kF9 ψ cf n p κ + kF9 ψ cf n p (!κ) = nF (fun x => qP9 M p (2 * x)) c + 2 := by
  have hle : ∀ p, p < P → nF (fun f => decide (ψ f = p)) n ≤ nF (fun x => decide (ψ (φ (4 * x)) = p)) c + 2 := fun p hp => by
    have a := eul_G (κ := true) h.1 h.2.1 (ptQ_of h p) (kF_pos h hp true) (kF_pos h hp false) (nb_can h hp true) (nb_can h hp false)
    have b := nF_split (p := fun f => decide (ψ f = p)) (r := cf) n
    have e : nF (fun x => qP9 M p (2 * x)) c = nF (fun x => decide (ψ (φ (4 * x)) = p)) c := nF_cg c (fun x hx => by
      have e1 := h.2.2.2.2.2.2.1 (4 * x) (by omega)
      rw [show 4 * x / 2 = 2 * x by omega] at e1
      have hl := h.2.2.2.2.2.1 _ (h.2.2.1 (4 * x) (by omega))
      have hP := h.2.2.2.2.2.2.2.2.2.2.2.2.2.2
      unfold qP9
      rw [e1]
      by_cases h9 : ψ (φ (4 * x)) = p
      · rw [h9, decide_eq_true rfl, decide_eq_true rfl]
      · rw [decide_eq_false (fun h8 => h9 (nI_inj9 (by omega) (by omega) h8)), decide_eq_false h9])
    rw [e] at a
    have b2 : kF9 ψ cf n p true + kF9 ψ cf n p false = nF (fun f => decide (ψ f = p)) n := b
    omega
  have s1 := sumQ_nF ψ P n h.2.2.2.2.2.1
  have s2 := sumQ_nF (fun x => ψ (φ (4 * x))) P c (fun x hx => h.2.2.2.2.2.1 _ (h.2.2.1 _ (by omega)))
  have s3 := (sumQ_sq P hle).2 (by rw [s1, s2]; exact h.2.2.2.2.2.2.2.2.1) p hp
  have e : nF (fun x => qP9 M p (2 * x)) c = nF (fun x => decide (ψ (φ (4 * x)) = p)) c := nF_cg c (fun x hx => by
    have e1 := h.2.2.2.2.2.2.1 (4 * x) (by omega)
    rw [show 4 * x / 2 = 2 * x by omega] at e1
    have hl := h.2.2.2.2.2.1 _ (h.2.2.1 (4 * x) (by omega))
    have hP := h.2.2.2.2.2.2.2.2.2.2.2.2.2.2
    unfold qP9
    rw [e1]
    by_cases h9 : ψ (φ (4 * x)) = p
    · rw [h9, decide_eq_true rfl, decide_eq_true rfl]
    · rw [decide_eq_false (fun h8 => h9 (nI_inj9 (by omega) (by omega) h8)), decide_eq_false h9])
  have b := nF_split (p := fun f => decide (ψ f = p)) (r := cf) n
  have b2 : kF9 ψ cf n p true + kF9 ψ cf n p false = nF (fun f => decide (ψ f = p)) n := b
  cases κ with
  | true =>
    show kF9 ψ cf n p true + kF9 ψ cf n p false = _
    omega
  | false =>
    show kF9 ψ cf n p false + kF9 ψ cf n p true = _
    omega
/-- EVERY NUMBERING OF EITHER COLOUR GIVES THE VALUE -/
theorem vl_all (h : fcD9 c S G w n P M φ ψ cf) {p : Nat} (hp : p < P) {κ : Bool} {R : Nat → Nat} (hR : nbG9 c S G w (qP9 M p) κ R (kF9 ψ cf n p κ)) : svG9 c S G w (qP9 M p) κ R (kF9 ψ cf n p κ) = vlG9 c S G w n M φ ψ cf p := by
  have key : ∀ (κ : Bool) (R : Nat → Nat), nbG9 c S G w (qP9 M p) κ R (kF9 ψ cf n p κ) → svG9 c S G w (qP9 M p) κ R (kF9 ψ cf n p κ) = svG9 c S G w (qP9 M p) (!κ) (cnR9 w φ ψ cf p (!κ)) (kF9 ψ cf n p (!κ)) := fun κ R hR => sv_G h.1 h.2.1 (ptQ_of h p) (kF_pos h hp κ) (kF_pos h hp (!κ)) hR (nb_can h hp (!κ)) (eul_p h hp κ)
  cases κ with
  | false => exact key false R hR
  | true =>
    rw [key true R hR]
    exact (key true _ (nb_can h hp true)).symm
end XSGS
/-- the matrix in whole numbers -/
def rwZ9 (S : ow_NP) (G : Nat → Int32) (R : Nat → Nat) (x i : Nat) : Int := zd9 i (R (fV9 G x)) - zd9 i (R (S.2 (fV9 G x)))
def mtZ9 (c : Nat) (S : ow_NP) (G : Nat → Int32) (w q : Nat → Bool) (κ : Bool) (R : Nat → Nat) (i j : Nat) : Int := zS9 (fun x => if q (2 * x) = true then tI9 G w κ x * rwZ9 S G R x i * rwZ9 S G R x j else 0) c
section XSGS2
variable {c : Nat} {S : ow_NP} {G : Nat → Int32} {w q : Nat → Bool} {κ : Bool} {R : Nat → Nat}
theorem rwZ_cs (x i : Nat) : ((rwZ9 S G R x i : Int) : Rat) = rwG9 S G R x i := by
  unfold rwZ9 rwG9
  rw [Rat.intCast_sub, zd_cs, zd_cs]
theorem mtZ_cs : cM9 (mtZ9 c S G w q κ R) = mtG9 c S G w q κ R := by
  funext i j
  show ((mtZ9 c S G w q κ R i j : Int) : Rat) = _
  unfold mtZ9 mtG9
  rw [zS_cs]
  refine qS_cg (fun x _ => ?_)
  by_cases h : q (2 * x) = true
  · rw [if_pos h, if_pos h, Rat.intCast_mul, Rat.intCast_mul, rwZ_cs, rwZ_cs]
  · rw [if_neg h, if_neg h]
    rfl
theorem rw_ab (x i : Nat) : ab9 (rwG9 S G R x i) ≤ 1 := ab_1 _ (by
  unfold rwG9 dl9
  split <;> split <;> grind)
theorem rw_abS (x n : Nat) : qS9 (fun i => ab9 (rwG9 S G R x i)) n ≤ 2 := by
  have d1 : ∀ a n, qS9 (fun i => dl9 i a) n ≤ 1 := fun a n => by
    have b : ∀ i, i < n → dl9 i a = dl9 a i * (fun _ => 1) i := fun i _ => by
      show dl9 i a = dl9 a i * 1
      rw [Rat.mul_one]
      unfold dl9
      by_cases h9 : a = i
      · rw [if_pos h9, if_pos h9.symm]
      · rw [if_neg h9, if_neg (fun h => h9 h.symm)]
    rw [qS_cg b]
    by_cases h9 : a < n
    · have := qD_dl (x := fun _ => (1 : Rat)) h9
      unfold qD9 at this
      rw [this]
      exact Rat.le_refl
    · rw [qS_cg (g := fun _ => 0) (fun i hi => by rw [show dl9 a i = 0 from if_neg (by omega), Rat.zero_mul]), qS_0]
      decide
  have a := qS_le (n := n) (f := fun i => ab9 (rwG9 S G R x i)) (g := fun i => dl9 i (R (fV9 G x)) + dl9 i (R (S.2 (fV9 G x)))) (fun i _ => by
    unfold rwG9
    refine ab_le ?_ ?_
    · unfold dl9
      split <;> split <;> grind
    · unfold dl9
      split <;> split <;> grind)
  rw [qS_add] at a
  have b1 := d1 (R (fV9 G x)) n
  have b2 := d1 (R (S.2 (fV9 G x))) n
  grind
theorem mt_ab (i j : Nat) : ab9 (mtG9 c S G w q κ R i j) ≤ qS9 (fun x => ab9 (rwG9 S G R x i) * ab9 (rwG9 S G R x j)) c := by
  unfold mtG9
  refine Rat.le_trans (ab_sum _) (qS_le (fun x _ => ?_))
  by_cases h : q (2 * x) = true
  · rw [if_pos h, ab_mul, ab_mul]
    have t1 : ab9 ((tI9 G w κ x : Int) : Rat) ≤ 1 := ab_1 _ (by
      rcases tI_pm (G := G) (w := w) (κ := κ) x with h9 | h9
      · exact Or.inl (by rw [h9]; rfl)
      · exact Or.inr (Or.inl (by rw [h9]; rfl)))
    have a := mul_le9 t1 (show ab9 (rwG9 S G R x i) * ab9 (rwG9 S G R x j) ≤ ab9 (rwG9 S G R x i) * ab9 (rwG9 S G R x j) from Rat.le_refl) (Rat.mul_nonneg (ab_nn _) (ab_nn _)) (by decide)
    rw [Rat.one_mul, ← Rat.mul_assoc] at a
    exact a
  · rw [if_neg h]
    refine Rat.le_trans ?_ (Rat.mul_nonneg (ab_nn _) (ab_nn _))
    exact ab_le Rat.le_refl (by grind)
theorem mt_row (i n : Nat) : qS9 (fun j => ab9 (mtG9 c S G w q κ R i j)) n ≤ qS9 (fun x => 2 * ab9 (rwG9 S G R x i)) c := by
  have a := qS_le (n := n) (f := fun j => ab9 (mtG9 c S G w q κ R i j)) (g := fun j => qS9 (fun x => ab9 (rwG9 S G R x i) * ab9 (rwG9 S G R x j)) c) (fun j _ => mt_ab i j)
  rw [qS_sw] at a
  refine Rat.le_trans a (qS_le (fun x _ => ?_))
  rw [qS_mul]
  have b := Rat.mul_le_mul_of_nonneg_left (rw_abS (S := S) (G := G) (R := R) x n) (ab_nn (rwG9 S G R x i))
  grind
theorem mt_bd {E : Nat → Int} {n : Nat} (hc : c ≤ 12) (hE : ∀ k, ((E k : Int) : Rat) = qE9 (cM9 (mtZ9 c S G w q κ R)) n k) : ∀ k : Nat, k ≤ 12 → rI9 ((k : Int) * E k) := by
  rw [mtZ_cs] at hE
  have cc : ((c : Nat) : Rat) ≤ 12 := by
    have : ((c : Int) : Rat) ≤ ((12 : Int) : Rat) := Rat.intCast_le_intCast.mpr (by omega)
    exact this
  have r1 : ∀ i, i < n → qS9 (fun j => ab9 (mtG9 c S G w q κ R i j)) n ≤ 24 := fun i _ => by
    refine Rat.le_trans (mt_row i n) ?_
    have a := qS_le (n := c) (f := fun x => 2 * ab9 (rwG9 S G R x i)) (g := fun _ => 2) (fun x _ => by
      have := rw_ab (S := S) (G := G) (R := R) x i
      show 2 * ab9 (rwG9 S G R x i) ≤ 2
      grind)
    rw [qS_c] at a
    grind
  have r2 : qS9 (fun i => qS9 (fun j => ab9 (mtG9 c S G w q κ R i j)) n) n ≤ 2 * 24 := by
    have a := qS_le (n := n) (f := fun i => qS9 (fun j => ab9 (mtG9 c S G w q κ R i j)) n) (g := fun i => qS9 (fun x => 2 * ab9 (rwG9 S G R x i)) c) (fun i _ => mt_row i n)
    rw [qS_sw (m := c) (k := n)] at a
    have b := qS_le (n := c) (f := fun x => qS9 (fun i => 2 * ab9 (rwG9 S G R x i)) n) (g := fun _ => 4) (fun x _ => by
      show qS9 (fun i => 2 * ab9 (rwG9 S G R x i)) n ≤ 4
      rw [qS_mul]
      have := rw_abS (S := S) (G := G) (R := R) x n
      grind)
    rw [qS_c] at b
    grind
  have r3 := qE_bd (A := mtG9 c S G w q κ R) (n := n) (s := 24) (by decide) r1 r2
  intro k hk
  have a := r3 k
  rw [← hE k] at a
  have g1 := ab_ge ((E k : Int) : Rat)
  have cs : ((k : Rat) + 1) * (24 : Rat) ^ k = ((((k + 1) * 24 ^ k : Nat) : Int) : Rat) := by
    rw [show ((((k + 1) * 24 ^ k : Nat) : Int) : Rat) = (((k + 1) * 24 ^ k : Nat) : Rat) from rfl, Rat.natCast_mul, cs_s, Rat.natCast_pow]
    rfl
  rw [cs] at a
  have u1 : E k ≤ (((k + 1) * 24 ^ k : Nat) : Int) := Rat.intCast_le_intCast.mp (Rat.le_trans g1.1 a)
  have u2 : -E k ≤ (((k + 1) * 24 ^ k : Nat) : Int) := Rat.intCast_le_intCast.mp (by
    rw [Rat.intCast_neg]
    exact Rat.le_trans g1.2 a)
  have key : ∀ k : Fin 13, k.val * ((k.val + 1) * 24 ^ k.val) < 9223372036854775808 := by decide +kernel
  have k9 := key ⟨k, by omega⟩
  dsimp only at k9
  generalize (k + 1) * 24 ^ k = B at u1 u2 k9
  have v1 := Int.mul_le_mul_of_nonneg_left u1 (show (0 : Int) ≤ (k : Int) by omega)
  have v2 := Int.mul_le_mul_of_nonneg_left u2 (show (0 : Int) ≤ (k : Int) by omega)
  rw [Int.mul_neg] at v2
  have k10 : (k : Int) * (B : Int) < 9223372036854775808 := by
    have : ((k * B : Nat) : Int) < 9223372036854775808 := by omega
    rw [Int.natCast_mul] at this
    exact this
  unfold rI9
  omega
end XSGS2
