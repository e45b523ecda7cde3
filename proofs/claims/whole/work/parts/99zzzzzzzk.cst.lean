/-! the class: what becomes of the loops when one choice changes -/
/-- visits in two kinds, by turns along the rows, and unlike at each crossing -/
def gaO (c : Nat) (S : ow_NP) (w : Nat → Bool) : Prop := ∀ v, v < 2 * c → w (S.1 v) = !w v ∧ w (mt v) = !w v
def gaT (c : Nat) (S : ow_NP) : Prop := ∃ w, gaO c S w
section CST
variable {S : ow_NP} {G : Nat → Int32} {b : Nat → Bool} {c : Nat}
/-- all crossings but x are joined -/
def uPz (S : ow_NP) (G : Nat → Int32) (b : Nat → Bool) (x : Nat) : Nat → Nat → Nat
  | 0 => fun g => g
  | k + 1 => if k = x then uPz S G b x k else uPs S G b k (uPz S G b x k)
theorem uPz_dn {x : Nat} : ∀ k, dn (uPz S G b x k)
  | 0 => fun _ => Nat.le_refl _
  | k + 1 => by
    unfold uPz
    split
    · exact uPz_dn k
    · exact un_dn (un_dn (uPz_dn k))
def acZ (c x k : Nat) : Nat → Prop := fun e => e < 4 * c ∧ (4 * k ≤ e ∨ e / 4 = x)
/-- the ends at x are two and two the ends of paths, over against under -/
theorem uPz_ti {w : Nat → Bool} {x : Nat} (hv : vn c S) (hw : gaO c S w) (hx : x < c) : ∀ k, k ≤ c → ∃ p, tiI S p (acZ c x k) (uPz S G b x k) ∧ (∀ e, acZ c x k e → w (p e / 2) = !w (e / 2)) ∧ rtsN (uPz S G b x k) (2 * c) ≤ 2 * c
  | 0, _ => by
    have h0 := p0E_ti (G := G) (b := b) hv
    have e0 : acZ c x 0 = opA c 0 := by
      funext e
      unfold acZ opA
      apply propext
      omega
    refine ⟨p0E S, ?_, fun e he => ?_, ?_⟩
    · rw [e0]
      exact h0
    · have he := he.1
      obtain ⟨v1, v2, v3, v4⟩ := hv (e / 2) (by omega)
      unfold p0E
      split
      · rw [show (2 * S.1 (e / 2) + 1) / 2 = S.1 (e / 2) by omega]
        exact (hw _ (by omega)).1
      · rw [show (2 * S.2 (e / 2)) / 2 = S.2 (e / 2) by omega]
        have := (hw _ v2).1
        rw [v4] at this
        rw [this]
        cases w (S.2 (e / 2)) <;> rfl
    · have := rtsN_id (S := S) (G := G) (b := b) (2 * c)
      exact Nat.le_of_eq this
  | k + 1, hk => by
    obtain ⟨p, h1, h2, h3⟩ := uPz_ti hv hw hx k (by omega)
    by_cases e : k = x
    · have ez : uPz S G b x (k + 1) = uPz S G b x k := by
        show (if k = x then _ else _) = _
        rw [if_pos e]
      have ea : acZ c x (k + 1) = acZ c x k := by
        funext d
        unfold acZ
        apply propext
        omega
      rw [ez, ea]
      exact ⟨p, h1, h2, h3⟩
    · have ez : uPz S G b x (k + 1) = uPs S G b k (uPz S G b x k) := by
        show (if k = x then _ else _) = _
        rw [if_neg e]
      have m0 : mt (2 * k) = 2 * k + 1 := by unfold mt; rw [if_pos (by omega)]
      have hwk := (hw (2 * k) (by omega)).2
      rw [m0] at hwk
      have A0 : acZ c x k (4 * k + 1) := ⟨by omega, by omega⟩
      have A1 : acZ c x k (toI G b k) := by unfold toI acZ; split <;> omega
      have A2 : (4 * k + 1) ≠ toI G b k := by unfold toI; split <;> omega
      have t1 := ti_step h1 A0 A1 A2
      have B0 : tiA (acZ c x k) (4 * k + 1) (toI G b k) (4 * k) := ⟨⟨by omega, by omega⟩, by omega, by unfold toI; split <;> omega⟩
      have B1 : tiA (acZ c x k) (4 * k + 1) (toI G b k) (toO G b k) := ⟨by unfold toO acZ; split <;> omega, by unfold toO; split <;> omega, by unfold toO toI; split <;> omega⟩
      have B2 : 4 * k ≠ toO G b k := by unfold toO; split <;> omega
      have t2 := ti_step t1 B0 B1 B2
      have ea : tiA (tiA (acZ c x k) (4 * k + 1) (toI G b k)) (4 * k) (toO G b k) = acZ c x (k + 1) := by
        funext d
        apply propext
        unfold tiA acZ toI toO
        by_cases h : alB G b k <;> simp only [h, if_true, if_false] <;> constructor <;> intro h9 <;> (try simp at h9) <;> (try simp) <;> omega
      rw [ea] at t2
      -- types
      have ty : ∀ (q : Nat → Nat) (ac : Nat → Prop) (P : Nat → Nat) (a d : Nat), tiI S q ac P → (∀ e, ac e → w (q e / 2) = !w (e / 2)) → ac a → ac d → w (a / 2) = !w (d / 2) → ∀ e, tiA ac a d e → w (tiP q a d e / 2) = !w (e / 2) := by
        intro q ac P a d hq hty ha hd had e he
        unfold tiP
        by_cases hc : q a = d
        · rw [if_pos hc]
          exact hty e he.1
        · rw [if_neg hc]
          show w ((if e = q d then q a else if e = q a then q d else q e) / 2) = _
          by_cases c1 : e = q d
          · rw [if_pos c1, hty a ha, c1, hty d hd, had]
          · rw [if_neg c1]
            by_cases c2 : e = q a
            · rw [if_pos c2, hty d hd, c2, hty a ha, had]
              cases w (d / 2) <;> rfl
            · rw [if_neg c2]
              exact hty e he.1
      have tI : w ((4 * k + 1) / 2) = !w (toI G b k / 2) := by
        rw [show (4 * k + 1) / 2 = 2 * k by omega, show toI G b k / 2 = 2 * k + 1 by unfold toI; split <;> omega, hwk]
        cases w (2 * k) <;> rfl
      have tO : w ((4 * k) / 2) = !w (toO G b k / 2) := by
        rw [show (4 * k) / 2 = 2 * k by omega, show toO G b k / 2 = 2 * k + 1 by unfold toO; split <;> omega, hwk]
        cases w (2 * k) <;> rfl
      have y1 := ty p _ _ _ _ h1 h2 A0 A1 tI
      have y2 := ty _ _ _ _ _ t1 y1 B0 B1 tO
      rw [ez]
      refine ⟨_, t2, fun e he => y2 e (by rw [ea]; exact he), ?_⟩
      unfold rtsN
      exact Nat.le_trans (List.length_filter_le _ _) (by rw [List.length_range]; exact Nat.le_refl _)
theorem uPz_j {x : Nat} : ∀ (k y : Nat), y < k → y ≠ x → rt (uPz S G b x k) (egp S (4 * y + 1)) = rt (uPz S G b x k) (egp S (toI G b y)) ∧ rt (uPz S G b x k) (egp S (4 * y)) = rt (uPz S G b x k) (egp S (toO G b y))
  | 0, y, h, _ => by omega
  | k + 1, y, h, hy => by
    have hp := uPz_dn (S := S) (G := G) (b := b) (x := x) k
    by_cases e : k = x
    · have ez : uPz S G b x (k + 1) = uPz S G b x k := by
        show (if k = x then _ else _) = _
        rw [if_pos e]
      rw [ez]
      exact uPz_j k y (by omega) hy
    · have ez : uPz S G b x (k + 1) = uPs S G b k (uPz S G b x k) := by
        show (if k = x then _ else _) = _
        rw [if_neg e]
      rw [ez]
      by_cases e2 : y = k
      · subst e2
        exact ⟨un_k (un_dn hp) (un_j hp), un_j (un_dn hp)⟩
      · obtain ⟨h1, h2⟩ := uPz_j k y (by omega) hy
        exact ⟨un_k (un_dn hp) (un_k hp h1), un_k (un_dn hp) (un_k hp h2)⟩
theorem uPz_min {x : Nat} {M : Nat → Nat} (hv : vn c S) (hM : ∀ y, y < c → y ≠ x → M (egp S (4 * y + 1)) = M (egp S (toI G b y)) ∧ M (egp S (4 * y)) = M (egp S (toO G b y))) : ∀ k, k ≤ c → ∀ g h, g < 2 * c → h < 2 * c → rt (uPz S G b x k) g = rt (uPz S G b x k) h → M g = M h
  | 0, _, g, h, _, _, e => by
    rw [rt_root (p := uPz S G b x 0) rfl, rt_root (p := uPz S G b x 0) rfl] at e
    rw [e]
  | k + 1, hk, g, h, hg, hh, e => by
    have ih := uPz_min hv hM k (by omega)
    have hp := uPz_dn (S := S) (G := G) (b := b) (x := x) k
    by_cases ek : k = x
    · have ez : uPz S G b x (k + 1) = uPz S G b x k := by
        show (if k = x then _ else _) = _
        rw [if_pos ek]
      rw [ez] at e
      exact ih g h hg hh e
    · have ez : uPz S G b x (k + 1) = uPs S G b k (uPz S G b x k) := by
        show (if k = x then _ else _) = _
        rw [if_neg ek]
      rw [ez] at e
      have hm := hM k (by omega) ek
      have t1 : toI G b k < 4 * c := by unfold toI; split <;> omega
      have t2 : toO G b k < 4 * c := by unfold toO; split <;> omega
      exact un_min (D := fun g => g < 2 * c) (un_dn hp) (un_min (D := fun g => g < 2 * c) hp ih (egp_lt hv (by omega)) (egp_lt hv t1) hm.1) (egp_lt hv (by omega)) (egp_lt hv t2) hm.2 g h hg hh e
/-- the loops of a state: x joined last -/
theorem uPx_z {x : Nat} (hv : vn c S) (hx : x < c) {g h : Nat} (hg : g < 2 * c) (hh : h < 2 * c) : rt (uPx S G b c) g = rt (uPx S G b c) h ↔ rt (uPs S G b x (uPz S G b x c)) g = rt (uPs S G b x (uPz S G b x c)) h := by
  have hz := uPz_dn (S := S) (G := G) (b := b) (x := x) c
  have t1 : toI G b x < 4 * c := by unfold toI; split <;> omega
  have t2 : toO G b x < 4 * c := by unfold toO; split <;> omega
  constructor
  · refine uPx_min (M := fun k => rt (uPs S G b x (uPz S G b x c)) k) hv (fun y hy => ?_) c (Nat.le_refl _) g h hg hh
    by_cases e : y = x
    · subst e
      exact ⟨un_k (un_dn hz) (un_j hz), un_j (un_dn hz)⟩
    · obtain ⟨a1, a2⟩ := uPz_j (S := S) (G := G) (b := b) c y hy e
      exact ⟨un_k (un_dn hz) (un_k hz a1), un_k (un_dn hz) (un_k hz a2)⟩
  · intro e
    have ih := uPz_min (x := x) (M := fun k => rt (uPx S G b c) k) hv (fun y hy _ => uPx_j (S := S) (G := G) (b := b) c y hy) c (Nat.le_refl _)
    obtain ⟨j1, j2⟩ := uPx_j (S := S) (G := G) (b := b) c x hx
    exact un_min (M := fun k => rt (uPx S G b c) k) (D := fun g => g < 2 * c) (un_dn hz) (un_min (M := fun k => rt (uPx S G b c) k) (D := fun g => g < 2 * c) hz ih (egp_lt hv (by omega)) (egp_lt hv t1) j1) (egp_lt hv (by omega)) (egp_lt hv t2) j2 g h hg hh e
theorem rtsN_same {p q : Nat → Nat} {V : Nat} (hp : dn p) (hq : dn q) (h : ∀ g g', g < V → g' < V → (rt p g = rt p g' ↔ rt q g = rt q g')) : rtsN p V = rtsN q V := Nat.le_antisymm (rtsN_le (f := fun g => g) hq (fun _ h => h) (fun g g' hg hg' e => (h g g' hg hg').mpr e)) (rtsN_le (f := fun g => g) hp (fun _ h => h) (fun g g' hg hg' e => (h g g' hg hg').mp e))
theorem uPz_c {x : Nat} {b b' : Nat → Bool} (h : ∀ k, k ≠ x → b k = b' k) : ∀ k, uPz S G b x k = uPz S G b' x k
  | 0 => rfl
  | k + 1 => by
    show (if k = x then uPz S G b x k else uPs S G b k (uPz S G b x k)) = (if k = x then uPz S G b' x k else uPs S G b' k (uPz S G b' x k))
    by_cases e : k = x
    · rw [if_pos e, if_pos e]
      exact uPz_c h k
    · rw [if_neg e, if_neg e, uPz_c h k]
      unfold uPs toI toO alB
      rw [h k e]
/-- a state's loops over the paths at x: either the paths close, or they become one -/
theorem st_one {P : Nat → Nat} {p : Nat → Nat} {x : Nat} (hv : vn c S) (hx : x < c) (ht : tiI S p (acZ c x c) P) : (p (4 * x) = toO G b x → (∀ g h, rt (uPs S G b x P) g = rt (uPs S G b x P) h ↔ rt P g = rt P h) ∧ rtsN (uPs S G b x P) (2 * c) = rtsN P (2 * c)) ∧ (p (4 * x) ≠ toO G b x ∧ p (4 * x) ≠ 4 * x + 1 → (∀ g h, rt (uPs S G b x P) g = rt (uPs S G b x P) h ↔ rt P g = rt P h ∨ ((rt P g = rt P (2 * x) ∨ rt P g = rt P (S.2 (2 * x))) ∧ (rt P h = rt P (2 * x) ∨ rt P h = rt P (S.2 (2 * x))))) ∧ rtsN (uPs S G b x P) (2 * c) + 1 = rtsN P (2 * c)) := by
  have e0 : egp S (4 * x) = 2 * x := by
    unfold egp
    rw [if_pos (by omega)]
    omega
  have e1 : egp S (4 * x + 1) = S.2 (2 * x) := by
    unfold egp
    rw [if_neg (by omega), show (4 * x + 1) / 2 = 2 * x by omega]
  have a0 : acZ c x c (4 * x) := ⟨by omega, by omega⟩
  have a1 : acZ c x c (4 * x + 1) := ⟨by omega, by omega⟩
  have aI : acZ c x c (toI G b x) := by unfold toI acZ; split <;> omega
  have aO : acZ c x c (toO G b x) := by unfold toO acZ; split <;> omega
  have dis : toI G b x ≠ toO G b x ∧ toI G b x ≠ 4 * x ∧ toI G b x ≠ 4 * x + 1 ∧ toO G b x ≠ 4 * x ∧ toO G b x ≠ 4 * x + 1 := by
    unfold toI toO
    split <;> omega
  have all4 : ∀ e, acZ c x c e → e = 4 * x ∨ e = 4 * x + 1 ∨ e = toI G b x ∨ e = toO G b x := by
    intro e he
    unfold acZ at he
    unfold toI toO
    split <;> omega
  have hP := ht.1
  obtain ⟨p1, p2, p3, p4⟩ := ht.2 _ a0
  obtain ⟨q1, q2, q3, q4⟩ := ht.2 _ a1
  have lO : egp S (toO G b x) < 2 * c := egp_lt hv aO.1
  have lI : egp S (toI G b x) < 2 * c := egp_lt hv aI.1
  have l0 : egp S (4 * x) < 2 * c := egp_lt hv a0.1
  have l1 : egp S (4 * x + 1) < 2 * c := egp_lt hv a1.1
  refine ⟨fun hc => ?_, fun hne => ?_⟩
  · have hI : p (4 * x + 1) = toI G b x := by
      rcases all4 _ q1 with h | h | h | h
      · exact absurd (by rw [← q3, h, hc]) dis.2.2.2.2.symm
      · exact absurd h q2
      · exact h
      · have : p (p (4 * x + 1)) = p (p (4 * x)) := by rw [h, hc]
        rw [q3, p3] at this
        omega
    have r1 : rt P (egp S (4 * x + 1)) = rt P (egp S (toI G b x)) := (q4 _ aI).mpr (Or.inr hI.symm)
    have r2 : rt P (egp S (4 * x)) = rt P (egp S (toO G b x)) := (p4 _ aO).mpr (Or.inr hc.symm)
    have i1 : ∀ g h, rt (un P (egp S (4 * x + 1)) (egp S (toI G b x))) g = rt (un P (egp S (4 * x + 1)) (egp S (toI G b x))) h ↔ rt P g = rt P h := by
      intro g h
      rw [un_iff hP]
      constructor
      · rintro (h9 | ⟨h9, h8⟩ | ⟨h9, h8⟩)
        · exact h9
        · rw [h9, h8, r1]
        · rw [h9, h8, r1]
      · exact Or.inl
    constructor
    · intro g h
      show rt (un (un P _ _) _ _) g = rt (un (un P _ _) _ _) h ↔ _
      rw [un_iff (un_dn hP), i1, i1, i1, i1, i1]
      constructor
      · rintro (h9 | ⟨h9, h8⟩ | ⟨h9, h8⟩)
        · exact h9
        · rw [h9, h8, r2]
        · rw [h9, h8, r2]
      · exact Or.inl
    · have s1 := rtsN_un hP l1 lI
      rw [if_pos r1] at s1
      have s2 := rtsN_un (un_dn hP (g := egp S (4 * x + 1)) (h := egp S (toI G b x))) l0 lO
      rw [if_pos ((i1 _ _).mpr r2)] at s2
      show rtsN (un (un P _ _) _ _) _ = _
      omega
  · have hc := hne.1
    have hpI : p (4 * x) = toI G b x := by
      rcases all4 _ p1 with h | h | h | h
      · exact absurd h p2
      · exact absurd h hne.2
      · exact h
      · exact absurd h hc
    have hqO : p (4 * x + 1) = toO G b x := by
      rcases all4 _ q1 with h | h | h | h
      · have := p3
        rw [hpI] at this
        have h7 : p (p (4 * x + 1)) = p (4 * x) := by rw [h]
        rw [q3] at h7
        exact absurd h7.symm hne.2
      · exact absurd h q2
      · have : p (p (4 * x + 1)) = p (p (4 * x)) := by rw [h, hpI]
        rw [q3, p3] at this
        omega
      · exact h
    have rI : rt P (egp S (toI G b x)) = rt P (2 * x) := by
      rw [← e0]
      exact ((p4 _ aI).mpr (Or.inr hpI.symm)).symm
    have rO : rt P (egp S (toO G b x)) = rt P (S.2 (2 * x)) := by
      rw [← e1]
      exact ((q4 _ aO).mpr (Or.inr hqO.symm)).symm
    have r01 : rt P (2 * x) ≠ rt P (S.2 (2 * x)) := by
      rw [← e1, ← e0]
      intro h9
      rcases (p4 _ a1).mp h9 with h8 | h8
      · omega
      · exact hne.2 h8.symm
    have i1 : ∀ g h, rt (un P (egp S (4 * x + 1)) (egp S (toI G b x))) g = rt (un P (egp S (4 * x + 1)) (egp S (toI G b x))) h ↔ rt P g = rt P h ∨ ((rt P g = rt P (2 * x) ∨ rt P g = rt P (S.2 (2 * x))) ∧ (rt P h = rt P (2 * x) ∨ rt P h = rt P (S.2 (2 * x)))) := by
      intro g h
      rw [un_iff hP, rI, e1]
      constructor
      · rintro (h9 | ⟨h9, h8⟩ | ⟨h9, h8⟩)
        · exact Or.inl h9
        · exact Or.inr ⟨Or.inr h9, Or.inl h8⟩
        · exact Or.inr ⟨Or.inl h9, Or.inr h8⟩
      · rintro (h9 | ⟨h9 | h9, h8 | h8⟩)
        · exact Or.inl h9
        · exact Or.inl (by rw [h9, h8])
        · exact Or.inr (Or.inr ⟨h9, h8⟩)
        · exact Or.inr (Or.inl ⟨h9, h8⟩)
        · exact Or.inl (by rw [h9, h8])
    have r2 : rt (un P (egp S (4 * x + 1)) (egp S (toI G b x))) (egp S (4 * x)) = rt (un P (egp S (4 * x + 1)) (egp S (toI G b x))) (egp S (toO G b x)) := (i1 _ _).mpr (Or.inr ⟨Or.inl (by rw [e0]), Or.inr rO⟩)
    constructor
    · intro g h
      show rt (un (un P _ _) _ _) g = rt (un (un P _ _) _ _) h ↔ _
      rw [un_iff (un_dn hP), ← i1]
      constructor
      · rintro (h9 | ⟨h9, h8⟩ | ⟨h9, h8⟩)
        · exact h9
        · rw [h9, h8, r2]
        · rw [h9, h8, r2]
      · exact Or.inl
    · have s1 := rtsN_un hP l1 lI
      rw [if_neg (by rw [rI, e1]; exact fun h9 => r01 h9.symm)] at s1
      have s2 := rtsN_un (un_dn hP (g := egp S (4 * x + 1)) (h := egp S (toI G b x))) l0 lO
      rw [if_pos r2] at s2
      show rtsN (un (un P _ _) _ _) _ + 1 = _
      omega
/-- what holds of two states that differ at x: the loops of one are those of the other, but that two at x are one -/
def mgX (S : ow_NP) (c x : Nat) (R R' : Nat → Nat) : Prop := rt R (2 * x) ≠ rt R (S.2 (2 * x)) ∧ (∀ g h, g < 2 * c → h < 2 * c → (rt R' g = rt R' h ↔ rt R g = rt R h ∨ ((rt R g = rt R (2 * x) ∨ rt R g = rt R (S.2 (2 * x))) ∧ (rt R h = rt R (2 * x) ∨ rt R h = rt R (S.2 (2 * x)))))) ∧ rtsN R' (2 * c) + 1 = rtsN R (2 * c)
theorem st_kind {w : Nat → Bool} {x : Nat} (hv : vn c S) (hw : gaO c S w) (hx : x < c) (hb : b x = false) : mgX S c x (uPx S G b c) (uPx S G (seB b x true) c) ∨ mgX S c x (uPx S G (seB b x true) c) (uPx S G b c) := by
  obtain ⟨p, t1, t2, -⟩ := uPz_ti (G := G) (b := b) hv hw hx c (Nat.le_refl _)
  have ez : uPz S G (seB b x true) x c = uPz S G b x c := uPz_c (fun k hk => if_neg hk) c
  have a0 : acZ c x c (4 * x) := ⟨by omega, by omega⟩
  have a1 : acZ c x c (4 * x + 1) := ⟨by omega, by omega⟩
  obtain ⟨p1, p2, p3, p4⟩ := t1.2 _ a0
  have hn1 : p (4 * x) ≠ 4 * x + 1 := fun h => by
    have := t2 _ a0
    rw [h, show (4 * x + 1) / 2 = 2 * x by omega, show 4 * x / 2 = 2 * x by omega] at this
    cases hq : w (2 * x) <;> rw [hq] at this <;> cases this
  have e0 : egp S (4 * x) = 2 * x := by
    unfold egp
    rw [if_pos (by omega)]
    omega
  have e1 : egp S (4 * x + 1) = S.2 (2 * x) := by
    unfold egp
    rw [if_neg (by omega), show (4 * x + 1) / 2 = 2 * x by omega]
  have r01 : rt (uPz S G b x c) (2 * x) ≠ rt (uPz S G b x c) (S.2 (2 * x)) := by
    rw [← e1, ← e0]
    intro h9
    rcases (p4 _ a1).mp h9 with h8 | h8
    · omega
    · exact hn1 h8.symm
  have tt : toO G (seB b x true) x ≠ toO G b x ∧ (p (4 * x) = toO G b x ∨ p (4 * x) = toO G (seB b x true) x) := by
    have hp := p1
    unfold acZ at hp
    unfold toO alB
    rw [show seB b x true x = true from if_pos rfl, hb]
    cases sgP G x <;> simp <;> omega
  have s2 := (hv (2 * x) (by omega)).2.1
  have o1 := st_one (G := G) (b := b) hv hx t1
  have o2 := st_one (G := G) (b := seB b x true) hv hx t1
  have z1 : ∀ {g h : Nat}, g < 2 * c → h < 2 * c → (rt (uPx S G b c) g = rt (uPx S G b c) h ↔ rt (uPs S G b x (uPz S G b x c)) g = rt (uPs S G b x (uPz S G b x c)) h) := fun hg hh => uPx_z hv hx hg hh
  have z2 : ∀ {g h : Nat}, g < 2 * c → h < 2 * c → (rt (uPx S G (seB b x true) c) g = rt (uPx S G (seB b x true) c) h ↔ rt (uPs S G (seB b x true) x (uPz S G b x c)) g = rt (uPs S G (seB b x true) x (uPz S G b x c)) h) := fun hg hh => by
    rw [uPx_z (x := x) hv hx hg hh, ez]
  have hz := uPz_dn (S := S) (G := G) (b := b) (x := x) c
  have n1 : rtsN (uPx S G b c) (2 * c) = rtsN (uPs S G b x (uPz S G b x c)) (2 * c) := rtsN_same (uPx_dn c) (un_dn (un_dn hz)) (fun g g' hg hg' => z1 hg hg')
  have n2 : rtsN (uPx S G (seB b x true) c) (2 * c) = rtsN (uPs S G (seB b x true) x (uPz S G b x c)) (2 * c) := rtsN_same (uPx_dn c) (un_dn (un_dn hz)) (fun g g' hg hg' => z2 hg hg')
  rcases tt.2 with hp | hp
  · refine Or.inl ?_
    obtain ⟨i1, i2⟩ := o1.1 hp
    obtain ⟨k1, k2⟩ := o2.2 ⟨fun h => tt.1 (h.symm.trans hp), hn1⟩
    refine ⟨fun h9 => r01 ((i1 _ _).mp ((z1 (by omega) s2).mp h9)), fun g h hg hh => ?_, by omega⟩
    rw [z2 hg hh, k1, z1 hg hh, i1, z1 hg (show 2 * x < 2 * c by omega), i1, z1 hg s2, i1, z1 hh (show 2 * x < 2 * c by omega), i1, z1 hh s2, i1]
  · refine Or.inr ?_
    obtain ⟨i1, i2⟩ := o2.1 hp
    obtain ⟨k1, k2⟩ := o1.2 ⟨fun h => tt.1 (hp.symm.trans h), hn1⟩
    refine ⟨fun h9 => r01 ((i1 _ _).mp ((z2 (by omega) s2).mp h9)), fun g h hg hh => ?_, by omega⟩
    rw [z1 hg hh, k1, z2 hg hh, i1, z2 hg (show 2 * x < 2 * c by omega), i1, z2 hg s2, i1, z2 hh (show 2 * x < 2 * c by omega), i1, z2 hh s2, i1]
end CST
