/-! signature: two forms at right angles in a space of signs -/
/-- the form of signs t on the columns of W -/
def gF9 (c : Nat) (t : Nat → Rat) (W : mQ99) : mQ99 := fun i j => qS9 (fun e => t e * W e i * W e j) c
/-- how many of the first c signs are positive -/
def cP9 (t : Nat → Rat) : Nat → Nat
  | 0 => 0
  | c + 1 => cP9 t c + (if 0 < t c then 1 else 0)
section XSGJ
variable {n m c : Nat} {t : Nat → Rat} {W B : mQ99}
theorem gF_sm : smQ9 n (gF9 c t W) := fun i j _ _ => qS_cg (fun e _ => by grind)
theorem gF_f (x y : Nat → Rat) : fA9 n (gF9 c t W) x y = qG9 c t (qV9 n W x) (qV9 n W y) := by
  have e1 : ∀ i, i < n → qV9 n (gF9 c t W) y i = qS9 (fun e => t e * W e i * qV9 n W y e) c := fun i _ => by
    show qS9 (fun j => qS9 (fun e => t e * W e i * W e j) c * y j) n = _
    have a1 : ∀ j, j < n → qS9 (fun e => t e * W e i * W e j) c * y j = qS9 (fun e => t e * W e i * (W e j * y j)) c := fun j _ => by
      rw [Rat.mul_comm, ← qS_mul]
      exact qS_cg (fun e _ => by grind)
    rw [qS_cg a1, qS_sw]
    exact qS_cg (fun e _ => qS_mul)
  unfold fA9 qD9
  have e2 : ∀ i, i < n → x i * qV9 n (gF9 c t W) y i = qS9 (fun e => t e * qV9 n W y e * (W e i * x i)) c := fun i hi => by
    rw [e1 i hi, ← qS_mul]
    exact qS_cg (fun e _ => by grind)
  rw [qS_cg e2, qS_sw]
  refine qS_cg (fun e _ => ?_)
  rw [qS_mul]
  show t e * qV9 n W y e * qV9 n W x e = t e * qV9 n W x e * qV9 n W y e
  grind
/-- the positive places by number -/
theorem cP_ix : ∀ c, ∃ ix : Nat → Nat, ∀ e, e < c → 0 < t e → ∃ k, k < cP9 t c ∧ ix k = e := by
  intro c
  induction c with
  | zero => exact ⟨fun _ => 0, fun e he => absurd he (by omega)⟩
  | succ c ih =>
    obtain ⟨ix, h⟩ := ih
    refine ⟨fun k => if k = cP9 t c then c else ix k, fun e he hp => ?_⟩
    show ∃ k, k < cP9 t c + (if 0 < t c then 1 else 0) ∧ _
    by_cases h9 : e = c
    · rw [h9] at hp
      exact ⟨cP9 t c, by rw [if_pos hp]; omega, by dsimp only; rw [if_pos rfl, h9]⟩
    · obtain ⟨k, hk, hk2⟩ := h e (by omega) hp
      exact ⟨k, by omega, by dsimp only; rw [if_neg (by omega)]; exact hk2⟩
theorem cP_sum (ht : ∀ e, e < c → t e = 1 ∨ t e = -1) : cP9 t c + cP9 (fun e => -t e) c = c := by
  induction c with
  | zero => rfl
  | succ c ih =>
    show cP9 t c + (if 0 < t c then 1 else 0) + (cP9 (fun e => -t e) c + (if 0 < -t c then 1 else 0)) = c + 1
    have := ih (fun e he => ht e (by omega))
    rcases ht c (by omega) with h | h
    · rw [h, if_pos (show (0 : Rat) < 1 by decide), if_neg (show ¬ (0 : Rat) < -1 by decide)]
      omega
    · rw [h, if_neg (show ¬ (0 : Rat) < -1 by decide), if_pos (show (0 : Rat) < - -1 by decide)]
      omega
theorem sp_cut {a : Nat} (d : Nat) (φ : Nat → Rat) : qS9 φ (a + d) = qS9 φ a + qS9 (fun j => φ (a + j)) d := by
  induction d with
  | zero => exact (Rat.add_zero _).symm
  | succ d ih =>
    show qS9 φ (a + d) + φ (a + d) = qS9 φ a + (qS9 (fun j => φ (a + j)) d + φ (a + d))
    rw [ih]
    grind
/-- the bound: where the negative squares of W are 0, beside the negative squares of B -/
theorem il9 (ht : ∀ e, e < c → t e = 1 ∨ t e = -1) (iW : ∀ x : Nat → Rat, (∀ e, e < c → qV9 n W x e = 0) → ∀ i, i < n → x i = 0) (iB : ∀ x : Nat → Rat, (∀ e, e < c → qV9 m B x e = 0) → ∀ i, i < m → x i = 0) (hO : ∀ i j, i < n → j < m → qS9 (fun e => W e i * B e j) c = 0) : n + vM9 (gF9 c (fun e => -t e) B) m ≤ cP9 t c + vM9 (gF9 c t W) n := by
  obtain ⟨fn, f1, f2⟩ := dt_ex (n := n) (A := gF9 c t W) gF_sm
  obtain ⟨hn, h1, h2⟩ := dt_ex (n := m) (A := gF9 c (fun e => -t e) B) gF_sm
  obtain ⟨ix, hix⟩ := cP_ix (t := t) c
  generalize hb : vM9 (gF9 c t W) n = b at f1 f2 ⊢
  generalize hd : vM9 (gF9 c (fun e => -t e) B) m = d at h1 h2 ⊢
  by_cases hle : n + d ≤ cP9 t c + b
  · exact hle
  · exfalso
    -- unknowns: x (n of them), y (d of them)
    obtain ⟨u, ⟨s, hs, hu⟩, hq⟩ := lin_n (n := n + d) (fun e l => if e < cP9 t c then (if l < n then W (ix e) l else t (ix e) * qV9 m B (hn (l - n)) (ix e)) else (if l < n then qV9 n (gF9 c t W) (fn (e - cP9 t c)) l else 0)) (m := cP9 t c + b) (by omega)
    -- the vector in the space of signs
    have eU : ∀ e, e < c → qV9 m B (cbQ9 d hn (fun j => u (n + j))) e = qS9 (fun j => u (n + j) * qV9 m B (hn j) e) d := fun e _ => qV_sum
    have u0 : ∀ e, e < c → 0 < t e → qV9 n W u e + t e * qV9 m B (cbQ9 d hn (fun j => u (n + j))) e = 0 := fun e he hp => by
      obtain ⟨k, hk, hk2⟩ := hix e he hp
      have a1 := hq k (by omega)
      unfold qD9 at a1
      rw [sp_cut] at a1
      have a2 : qS9 (fun l => (fun l => if k < cP9 t c then (if l < n then W (ix k) l else t (ix k) * qV9 m B (hn (l - n)) (ix k)) else (if l < n then qV9 n (gF9 c t W) (fn (k - cP9 t c)) l else 0)) l * u l) n = qV9 n W u e := qS_cg (fun l hl => by
        show (if k < cP9 t c then (if l < n then W (ix k) l else t (ix k) * qV9 m B (hn (l - n)) (ix k)) else (if l < n then qV9 n (gF9 c t W) (fn (k - cP9 t c)) l else 0)) * u l = _
        rw [if_pos hk, if_pos hl, hk2])
      have a3 : qS9 (fun j => (fun l => if k < cP9 t c then (if l < n then W (ix k) l else t (ix k) * qV9 m B (hn (l - n)) (ix k)) else (if l < n then qV9 n (gF9 c t W) (fn (k - cP9 t c)) l else 0)) (n + j) * u (n + j)) d = t e * qV9 m B (cbQ9 d hn (fun j => u (n + j))) e := by
        rw [eU e he, ← qS_mul]
        refine qS_cg (fun j hj => ?_)
        show (if k < cP9 t c then (if n + j < n then W (ix k) (n + j) else t (ix k) * qV9 m B (hn (n + j - n)) (ix k)) else (if n + j < n then qV9 n (gF9 c t W) (fn (k - cP9 t c)) (n + j) else 0)) * u (n + j) = _
        rw [if_pos hk, if_neg (by omega), hk2, show n + j - n = j by omega]
        grind
      rw [a2, a3] at a1
      exact a1
    have uf : ∀ i, i < b → fA9 n (gF9 c t W) (fn i) u = 0 := fun i hi => by
      have a1 := hq (cP9 t c + i) (by omega)
      unfold qD9 at a1
      rw [sp_cut] at a1
      have a2 : qS9 (fun l => (fun l => if cP9 t c + i < cP9 t c then (if l < n then W (ix (cP9 t c + i)) l else t (ix (cP9 t c + i)) * qV9 m B (hn (l - n)) (ix (cP9 t c + i))) else (if l < n then qV9 n (gF9 c t W) (fn (cP9 t c + i - cP9 t c)) l else 0)) l * u l) n = qD9 n u (qV9 n (gF9 c t W) (fn i)) := qS_cg (fun l hl => by
        show (if cP9 t c + i < cP9 t c then (if l < n then W (ix (cP9 t c + i)) l else t (ix (cP9 t c + i)) * qV9 m B (hn (l - n)) (ix (cP9 t c + i))) else (if l < n then qV9 n (gF9 c t W) (fn (cP9 t c + i - cP9 t c)) l else 0)) * u l = _
        rw [if_neg (by omega), if_pos hl, show cP9 t c + i - cP9 t c = i by omega]
        exact Rat.mul_comm _ _)
      have a3 : qS9 (fun j => (fun l => if cP9 t c + i < cP9 t c then (if l < n then W (ix (cP9 t c + i)) l else t (ix (cP9 t c + i)) * qV9 m B (hn (l - n)) (ix (cP9 t c + i))) else (if l < n then qV9 n (gF9 c t W) (fn (cP9 t c + i - cP9 t c)) l else 0)) (n + j) * u (n + j)) d = 0 := by
        rw [qS_cg (g := fun _ => 0) (fun j hj => by
          show (if cP9 t c + i < cP9 t c then (if n + j < n then W (ix (cP9 t c + i)) (n + j) else t (ix (cP9 t c + i)) * qV9 m B (hn (n + j - n)) (ix (cP9 t c + i))) else (if n + j < n then qV9 n (gF9 c t W) (fn (cP9 t c + i - cP9 t c)) (n + j) else 0)) * u (n + j) = 0
          rw [if_neg (by omega), if_neg (by omega), Rat.zero_mul]), qS_0]
      rw [a2, a3, Rat.add_zero] at a1
      rw [fA_cm gF_sm]
      exact a1
    have F1 := f1 u uf
    rw [gF_f] at F1
    generalize hy : cbQ9 d hn (fun j => u (n + j)) = y at u0
    -- right angles
    have O1 : qS9 (fun e => qV9 n W u e * qV9 m B y e) c = 0 := by
      have a1 : ∀ e, e < c → qV9 n W u e * qV9 m B y e = qS9 (fun i => u i * (W e i * qV9 m B y e)) n := fun e _ => by
        show qS9 (fun i => W e i * u i) n * qV9 m B y e = _
        rw [Rat.mul_comm, ← qS_mul]
        exact qS_cg (fun i _ => by grind)
      rw [qS_cg a1, qS_sw, qS_cg (g := fun _ => 0) (fun i hi => by
        rw [qS_mul]
        have a2 : qS9 (fun e => W e i * qV9 m B y e) c = 0 := by
          have a3 : ∀ e, e < c → W e i * qV9 m B y e = qS9 (fun j => y j * (W e i * B e j)) m := fun e _ => by
            show W e i * qS9 (fun j => B e j * y j) m = _
            rw [← qS_mul]
            exact qS_cg (fun j _ => by grind)
          rw [qS_cg a3, qS_sw, qS_cg (g := fun _ => 0) (fun j hj => by rw [qS_mul, hO i j hi hj, Rat.mul_zero]), qS_0]
        rw [a2, Rat.mul_zero]), qS_0]
    have F2 : 0 ≤ qS9 (fun e => t e * qV9 m B y e * qV9 m B y e) c := by
      have a1 : fA9 m (gF9 c (fun e => -t e) B) y y ≤ 0 := by
        by_cases h9 : ∃ j, j < d ∧ (fun j => u (n + j)) j ≠ 0
        · have := h2 (fun j => u (n + j)) h9
          rw [hy] at this
          exact Rat.le_of_lt this
        · have y0 : ∀ i, i < m → y i = 0 := fun i _ => by
            rw [← hy]
            show qS9 (fun l => u (n + l) * hn l i) d = 0
            rw [qS_cg (g := fun _ => 0) (fun l hl => by
              have : u (n + l) = 0 := by
                by_cases h8 : u (n + l) = 0
                · exact h8
                · exact absurd ⟨l, hl, h8⟩ h9
              rw [this, Rat.zero_mul]), qS_0]
          have : fA9 m (gF9 c (fun e => -t e) B) y y = 0 := by
            show qS9 (fun k => y k * qV9 m (gF9 c (fun e => -t e) B) y k) m = 0
            rw [qS_cg (g := fun _ => 0) (fun i hi => by rw [y0 i hi, Rat.zero_mul]), qS_0]
          rw [this]
          exact Rat.le_refl
      rw [gF_f] at a1
      have a2 : qG9 c (fun e => -t e) (qV9 m B y) (qV9 m B y) = -qS9 (fun e => t e * qV9 m B y e * qV9 m B y e) c := by
        unfold qG9
        rw [← qS_neg]
        exact qS_cg (fun e _ => by grind)
      rw [a2] at a1
      grind
    -- the square of W u + t B y
    have sq : qS9 (fun e => t e * (qV9 n W u e + t e * qV9 m B y e) * (qV9 n W u e + t e * qV9 m B y e)) c = qG9 c t (qV9 n W u) (qV9 n W u) + qS9 (fun e => t e * qV9 m B y e * qV9 m B y e) c := by
      have a1 : ∀ e, e < c → t e * (qV9 n W u e + t e * qV9 m B y e) * (qV9 n W u e + t e * qV9 m B y e) = t e * qV9 n W u e * qV9 n W u e + t e * qV9 m B y e * qV9 m B y e + 2 * (qV9 n W u e * qV9 m B y e) := fun e he => by
        have : t e * t e = 1 := by
          rcases ht e he with h | h <;> rw [h] <;> grind
        grind
      rw [qS_cg a1, qS_add, qS_add, qS_mul, O1]
      unfold qG9
      grind
    have ng : ∀ e, e < c → 0 ≤ -(t e * (qV9 n W u e + t e * qV9 m B y e) * (qV9 n W u e + t e * qV9 m B y e)) := fun e he => by
      rcases ht e he with h | h
      · rw [u0 e he (by rw [h]; decide)]
        grind
      · rw [h]
        have := sq_nn9 (qV9 n W u e + -1 * qV9 m B y e)
        grind
    have z0 : ∀ e, e < c → qV9 n W u e + t e * qV9 m B y e = 0 := fun e he => by
      by_cases h9 : qV9 n W u e + t e * qV9 m B y e = 0
      · exact h9
      · have hp : 0 < -(t e * (qV9 n W u e + t e * qV9 m B y e) * (qV9 n W u e + t e * qV9 m B y e)) := by
          rcases ht e he with h | h
          · exact absurd (u0 e he (by rw [h]; decide)) h9
          · have := sq_ps9 h9
            rw [h] at this ⊢
            grind
        have a1 := qS_ps ng ⟨e, he, hp⟩
        rw [qS_neg, sq] at a1
        grind
    have sq0 : qG9 c t (qV9 n W u) (qV9 n W u) + qS9 (fun e => t e * qV9 m B y e * qV9 m B y e) c = 0 := by
      rw [← sq, qS_cg (g := fun _ => 0) (fun e he => by rw [z0 e he]; grind), qS_0]
    -- y = 0
    have y9 : ∀ j, j < d → u (n + j) = 0 := fun j hj => by
      by_cases h9 : u (n + j) = 0
      · exact h9
      · have a1 := h2 (fun j => u (n + j)) ⟨j, hj, h9⟩
        rw [hy, gF_f] at a1
        have a2 : qG9 c (fun e => -t e) (qV9 m B y) (qV9 m B y) = -qS9 (fun e => t e * qV9 m B y e * qV9 m B y e) c := by
          unfold qG9
          rw [← qS_neg]
          exact qS_cg (fun e _ => by grind)
        rw [a2] at a1
        grind
    have yz : ∀ i, y i = 0 := fun i => by
      rw [← hy]
      show qS9 (fun l => u (n + l) * hn l i) d = 0
      rw [qS_cg (g := fun _ => 0) (fun l hl => by rw [y9 l hl, Rat.zero_mul]), qS_0]
    have Wz : ∀ e, e < c → qV9 n W u e = 0 := fun e he => by
      have a1 := z0 e he
      have a2 : qV9 m B y e = 0 := by
        show qS9 (fun k => B e k * y k) m = 0
        rw [qS_cg (g := fun _ => 0) (fun k _ => by rw [yz k, Rat.mul_zero]), qS_0]
      rw [a2] at a1
      grind
    have xz := iW u Wz
    by_cases h9 : s < n
    · exact hu (xz s h9)
    · have := y9 (s - n) (by omega)
      rw [show n + (s - n) = s by omega] at this
      exact hu this
theorem vM_ng {A : mQ99} : vM9 (fun i j => -A i j) n = vP9 A n := by
  have := tw_neg (A := fun i j => -A i j) (n := n)
  have e : (fun i j => - (fun i j => -A i j) i j) = A := by
    funext i j
    show - -A i j = A i j
    grind
  rw [e] at this
  unfold vM9 vP9
  rw [this]
theorem gF_ng : gF9 c (fun e => -t e) W = fun i j => -gF9 c t W i j := by
  funext i j
  show qS9 (fun e => -t e * W e i * W e j) c = -qS9 (fun e => t e * W e i * W e j) c
  rw [← qS_neg]
  exact qS_cg (fun e _ => by grind)
/-- THE TWO COLOURS -/
theorem two9 (ht : ∀ e, e < c → t e = 1 ∨ t e = -1) (iW : ∀ x : Nat → Rat, (∀ e, e < c → qV9 n W x e = 0) → ∀ i, i < n → x i = 0) (iB : ∀ x : Nat → Rat, (∀ e, e < c → qV9 m B x e = 0) → ∀ i, i < m → x i = 0) (hO : ∀ i j, i < n → j < m → qS9 (fun e => W e i * B e j) c = 0) (hc : n + m = c) : vP9 (gF9 c t W) n + vM9 (gF9 c (fun e => -t e) B) m + cP9 (fun e => -t e) c = vM9 (gF9 c t W) n + vP9 (gF9 c (fun e => -t e) B) m + cP9 t c := by
  have hO2 : ∀ i j, i < m → j < n → qS9 (fun e => B e i * W e j) c = 0 := fun i j hi hj => by
    rw [← hO j i hj hi]
    exact qS_cg (fun e _ => Rat.mul_comm _ _)
  have ht2 : ∀ e, e < c → -t e = 1 ∨ -t e = -1 := fun e he => by
    rcases ht e he with h | h
    · exact Or.inr (by rw [h])
    · exact Or.inl (by rw [h]; decide)
  have nn : (fun e => - -t e) = t := by
    funext e
    grind
  have i1 := il9 ht iW iB hO
  have i2 := il9 (t := fun e => -t e) ht2 iW iB hO
  have i3 := il9 (t := t) ht iB iW hO2
  have i4 := il9 (t := fun e => -t e) ht2 iB iW hO2
  rw [nn] at i2 i4
  have cs := cP_sum ht
  have e1 : vM9 (gF9 c (fun e => -t e) W) n = vP9 (gF9 c t W) n := by rw [gF_ng, vM_ng]
  have e2 : vM9 (gF9 c t B) m = vP9 (gF9 c (fun e => -t e) B) m := by
    have := vM_ng (A := gF9 c (fun e => -t e) B) (n := m)
    rw [← gF_ng, nn] at this
    exact this
  rw [e1, e2] at i2
  rw [e1, e2] at i3
  omega
end XSGJ
