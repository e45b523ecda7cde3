section
/-! 99zzzzzzzk.cst -/
/-! the class: what becomes of the loops when one choice changes -/
/-- visits in two kinds, by turns along the rows, and unlike at each crossing -/
def gaO (c : Nat) (S : ow_NP) (w : Nat → Bool) : Prop := ∀ v, v < 2 * c → w (S.1 v) = !w v ∧ w (mt v) = !w v
def gaT (c : Nat) (S : ow_NP) : Prop := ∃ w, gaO c S w
section CST
variable {S : ow_NP} {G : Nat → Int32} {b : Nat → Bool} {c : Nat}
/-- all crossings but x are joined -/
def uPz (S : ow_NP) (G : Nat → Int32) (b : Nat → Bool) (x : Nat) : Nat → Nat → Nat
  | 0 => fun g => g
  | k + 1 => if k = x then uPz S G b x k else uPs S G b k (uPz S G b x k)
theorem uPz_dn {x : Nat} : ∀ k, dn (uPz S G b x k)
  | 0 => fun _ => Nat.le_refl _
  | k + 1 => by
    unfold uPz
    split
    · exact uPz_dn k
    · exact un_dn (un_dn (uPz_dn k))
def acZ (c x k : Nat) : Nat → Prop := fun e => e < 4 * c ∧ (4 * k ≤ e ∨ e / 4 = x)
/-- the ends at x are two and two the ends of paths, over against under -/
theorem uPz_ti {w : Nat → Bool} {x : Nat} (hv : vn c S) (hw : gaO c S w) (hx : x < c) : ∀ k, k ≤ c → ∃ p, tiI S p (acZ c x k) (uPz S G b x k) ∧ (∀ e, acZ c x k e → w (p e / 2) = !w (e / 2)) ∧ rtsN (uPz S G b x k) (2 * c) ≤ 2 * c
  | 0, _ => by
    have h0 := p0E_ti (G := G) (b := b) hv
    have e0 : acZ c x 0 = opA c 0 := by
      funext e
      unfold acZ opA
      apply propext
      omega
    refine ⟨p0E S, ?_, fun e he => ?_, ?_⟩
    · rw [e0]
      exact h0
    · have he := he.1
      obtain ⟨v1, v2, v3, v4⟩ := hv (e / 2) (by omega)
      unfold p0E
      split
      · rw [show (2 * S.1 (e / 2) + 1) / 2 = S.1 (e / 2) by omega]
        exact (hw _ (by omega)).1
      · rw [show (2 * S.2 (e / 2)) / 2 = S.2 (e / 2) by omega]
        have := (hw _ v2).1
        rw [v4] at this
        rw [this]
        cases w (S.2 (e / 2)) <;> rfl
    · have := rtsN_id (S := S) (G := G) (b := b) (2 * c)
      exact Nat.le_of_eq this
  | k + 1, hk => by
    obtain ⟨p, h1, h2, h3⟩ := uPz_ti hv hw hx k (by omega)
    by_cases e : k = x
    · have ez : uPz S G b x (k + 1) = uPz S G b x k := by
        show (if k = x then _ else _) = _
        rw [if_pos e]
      have ea : acZ c x (k + 1) = acZ c x k := by
        funext d
        unfold acZ
        apply propext
        omega
      rw [ez, ea]
      exact ⟨p, h1, h2, h3⟩
    · have ez : uPz S G b x (k + 1) = uPs S G b k (uPz S G b x k) := by
        show (if k = x then _ else _) = _
        rw [if_neg e]
      have m0 : mt (2 * k) = 2 * k + 1 := by unfold mt; rw [if_pos (by omega)]
      have hwk := (hw (2 * k) (by omega)).2
      rw [m0] at hwk
      have A0 : acZ c x k (4 * k + 1) := ⟨by omega, by omega⟩
      have A1 : acZ c x k (toI G b k) := by unfold toI acZ; split <;> omega
      have A2 : (4 * k + 1) ≠ toI G b k := by unfold toI; split <;> omega
      have t1 := ti_step h1 A0 A1 A2
      have B0 : tiA (acZ c x k) (4 * k + 1) (toI G b k) (4 * k) := ⟨⟨by omega, by omega⟩, by omega, by unfold toI; split <;> omega⟩
      have B1 : tiA (acZ c x k) (4 * k + 1) (toI G b k) (toO G b k) := ⟨by unfold toO acZ; split <;> omega, by unfold toO; split <;> omega, by unfold toO toI; split <;> omega⟩
      have B2 : 4 * k ≠ toO G b k := by unfold toO; split <;> omega
      have t2 := ti_step t1 B0 B1 B2
      have ea : tiA (tiA (acZ c x k) (4 * k + 1) (toI G b k)) (4 * k) (toO G b k) = acZ c x (k + 1) := by
        funext d
        apply propext
        unfold tiA acZ toI toO
        by_cases h : alB G b k <;> simp only [h, if_true, if_false] <;> constructor <;> intro h9 <;> (try simp at h9) <;> (try simp) <;> omega
      rw [ea] at t2
      -- types
      have ty : ∀ (q : Nat → Nat) (ac : Nat → Prop) (P : Nat → Nat) (a d : Nat), tiI S q ac P → (∀ e, ac e → w (q e / 2) = !w (e / 2)) → ac a → ac d → w (a / 2) = !w (d / 2) → ∀ e, tiA ac a d e → w (tiP q a d e / 2) = !w (e / 2) := by
        intro q ac P a d hq hty ha hd had e he
        unfold tiP
        by_cases hc : q a = d
        · rw [if_pos hc]
          exact hty e he.1
        · rw [if_neg hc]
          show w ((if e = q d then q a else if e = q a then q d else q e) / 2) = _
          by_cases c1 : e = q d
          · rw [if_pos c1, hty a ha, c1, hty d hd, had]
          · rw [if_neg c1]
            by_cases c2 : e = q a
            · rw [if_pos c2, hty d hd, c2, hty a ha, had]
              cases w (d / 2) <;> rfl
            · rw [if_neg c2]
              exact hty e he.1
      have tI : w ((4 * k + 1) / 2) = !w (toI G b k / 2) := by
        rw [show (4 * k + 1) / 2 = 2 * k by omega, show toI G b k / 2 = 2 * k + 1 by unfold toI; split <;> omega, hwk]
        cases w (2 * k) <;> rfl
      have tO : w ((4 * k) / 2) = !w (toO G b k / 2) := by
        rw [show (4 * k) / 2 = 2 * k by omega, show toO G b k / 2 = 2 * k + 1 by unfold toO; split <;> omega, hwk]
        cases w (2 * k) <;> rfl
      have y1 := ty p _ _ _ _ h1 h2 A0 A1 tI
      have y2 := ty _ _ _ _ _ t1 y1 B0 B1 tO
      rw [ez]
      refine ⟨_, t2, fun e he => y2 e (by rw [ea]; exact he), ?_⟩
      unfold rtsN
      exact Nat.le_trans (List.length_filter_le _ _) (by rw [List.length_range]; exact Nat.le_refl _)
theorem uPz_j {x : Nat} : ∀ (k y : Nat), y < k → y ≠ x → rt (uPz S G b x k) (egp S (4 * y + 1)) = rt (uPz S G b x k) (egp S (toI G b y)) ∧ rt (uPz S G b x k) (egp S (4 * y)) = rt (uPz S G b x k) (egp S (toO G b y))
  | 0, y, h, _ => by omega
  | k + 1, y, h, hy => by
    have hp := uPz_dn (S := S) (G := G) (b := b) (x := x) k
    by_cases e : k = x
    · have ez : uPz S G b x (k + 1) = uPz S G b x k := by
        show (if k = x then _ else _) = _
        rw [if_pos e]
      rw [ez]
      exact uPz_j k y (by omega) hy
    · have ez : uPz S G b x (k + 1) = uPs S G b k (uPz S G b x k) := by
        show (if k = x then _ else _) = _
        rw [if_neg e]
      rw [ez]
      by_cases e2 : y = k
      · subst e2
        exact ⟨un_k (un_dn hp) (un_j hp), un_j (un_dn hp)⟩
      · obtain ⟨h1, h2⟩ := uPz_j k y (by omega) hy
        exact ⟨un_k (un_dn hp) (un_k hp h1), un_k (un_dn hp) (un_k hp h2)⟩
theorem uPz_min {x : Nat} {M : Nat → Nat} (hv : vn c S) (hM : ∀ y, y < c → y ≠ x → M (egp S (4 * y + 1)) = M (egp S (toI G b y)) ∧ M (egp S (4 * y)) = M (egp S (toO G b y))) : ∀ k, k ≤ c → ∀ g h, g < 2 * c → h < 2 * c → rt (uPz S G b x k) g = rt (uPz S G b x k) h → M g = M h
  | 0, _, g, h, _, _, e => by
    rw [rt_root (p := uPz S G b x 0) rfl, rt_root (p := uPz S G b x 0) rfl] at e
    rw [e]
  | k + 1, hk, g, h, hg, hh, e => by
    have ih := uPz_min hv hM k (by omega)
    have hp := uPz_dn (S := S) (G := G) (b := b) (x := x) k
    by_cases ek : k = x
    · have ez : uPz S G b x (k + 1) = uPz S G b x k := by
        show (if k = x then _ else _) = _
        rw [if_pos ek]
      rw [ez] at e
      exact ih g h hg hh e
    · have ez : uPz S G b x (k + 1) = uPs S G b k (uPz S G b x k) := by
        show (if k = x then _ else _) = _
        rw [if_neg ek]
      rw [ez] at e
      have hm := hM k (by omega) ek
      have t1 : toI G b k < 4 * c := by unfold toI; split <;> omega
      have t2 : toO G b k < 4 * c := by unfold toO; split <;> omega
      exact un_min (D := fun g => g < 2 * c) (un_dn hp) (un_min (D := fun g => g < 2 * c) hp ih (egp_lt hv (by omega)) (egp_lt hv t1) hm.1) (egp_lt hv (by omega)) (egp_lt hv t2) hm.2 g h hg hh e
/-- the loops of a state: x joined last -/
theorem uPx_z {x : Nat} (hv : vn c S) (hx : x < c) {g h : Nat} (hg : g < 2 * c) (hh : h < 2 * c) : rt (uPx S G b c) g = rt (uPx S G b c) h ↔ rt (uPs S G b x (uPz S G b x c)) g = rt (uPs S G b x (uPz S G b x c)) h := by
  have hz := uPz_dn (S := S) (G := G) (b := b) (x := x) c
  have t1 : toI G b x < 4 * c := by unfold toI; split <;> omega
  have t2 : toO G b x < 4 * c := by unfold toO; split <;> omega
  constructor
  · refine uPx_min (M := fun k => rt (uPs S G b x (uPz S G b x c)) k) hv (fun y hy => ?_) c (Nat.le_refl _) g h hg hh
    by_cases e : y = x
    · subst e
      exact ⟨un_k (un_dn hz) (un_j hz), un_j (un_dn hz)⟩
    · obtain ⟨a1, a2⟩ := uPz_j (S := S) (G := G) (b := b) c y hy e
      exact ⟨un_k (un_dn hz) (un_k hz a1), un_k (un_dn hz) (un_k hz a2)⟩
  · intro e
    have ih := uPz_min (x := x) (M := fun k => rt (uPx S G b c) k) hv (fun y hy _ => uPx_j (S := S) (G := G) (b := b) c y hy) c (Nat.le_refl _)
    obtain ⟨j1, j2⟩ := uPx_j (S := S) (G := G) (b := b) c x hx
    exact un_min (M := fun k => rt (uPx S G b c) k) (D := fun g => g < 2 * c) (un_dn hz) (un_min (M := fun k => rt (uPx S G b c) k) (D := fun g => g < 2 * c) hz ih (egp_lt hv (by omega)) (egp_lt hv t1) j1) (egp_lt hv (by omega)) (egp_lt hv t2) j2 g h hg hh e
theorem rtsN_same {p q : Nat → Nat} {V : Nat} (hp : dn p) (hq : dn q) (h : ∀ g g', g < V → g' < V → (rt p g = rt p g' ↔ rt q g = rt q g')) : rtsN p V = rtsN q V := Nat.le_antisymm (rtsN_le (f := fun g => g) hq (fun _ h => h) (fun g g' hg hg' e => (h g g' hg hg').mpr e)) (rtsN_le (f := fun g => g) hp (fun _ h => h) (fun g g' hg hg' e => (h g g' hg hg').mp e))
theorem uPz_c {x : Nat} {b b' : Nat → Bool} (h : ∀ k, k ≠ x → b k = b' k) : ∀ k, uPz S G b x k = uPz S G b' x k
  | 0 => rfl
  | k + 1 => by
    show (if k = x then uPz S G b x k else uPs S G b k (uPz S G b x k)) = (if k = x then uPz S G b' x k else uPs S G b' k (uPz S G b' x k))
    by_cases e : k = x
    · rw [if_pos e, if_pos e]
      exact uPz_c h k
    · rw [if_neg e, if_neg e, uPz_c h k]
      unfold uPs toI toO alB
      rw [h k e]
/-- a state's loops over the paths at x: either the paths close, or they become one -/
theorem st_one {P : Nat → Nat} {p : Nat → Nat} {x : Nat} (hv : vn c S) (hx : x < c) (ht : tiI S p (acZ c x c) P) : (p (4 * x) = toO G b x → (∀ g h, rt (uPs S G b x P) g = rt (uPs S G b x P) h ↔ rt P g = rt P h) ∧ rtsN (uPs S G b x P) (2 * c) = rtsN P (2 * c)) ∧ (p (4 * x) ≠ toO G b x ∧ p (4 * x) ≠ 4 * x + 1 → (∀ g h, rt (uPs S G b x P) g = rt (uPs S G b x P) h ↔ rt P g = rt P h ∨ ((rt P g = rt P (2 * x) ∨ rt P g = rt P (S.2 (2 * x))) ∧ (rt P h = rt P (2 * x) ∨ rt P h = rt P (S.2 (2 * x))))) ∧ rtsN (uPs S G b x P) (2 * c) + 1 = rtsN P (2 * c)) := by
  have e0 : egp S (4 * x) = 2 * x := by
    unfold egp
    rw [if_pos (by omega)]
    omega
  have e1 : egp S (4 * x + 1) = S.2 (2 * x) := by
    unfold egp
    rw [if_neg (by omega), show (4 * x + 1) / 2 = 2 * x by omega]
  have a0 : acZ c x c (4 * x) := ⟨by omega, by omega⟩
  have a1 : acZ c x c (4 * x + 1) := ⟨by omega, by omega⟩
  have aI : acZ c x c (toI G b x) := by unfold toI acZ; split <;> omega
  have aO : acZ c x c (toO G b x) := by unfold toO acZ; split <;> omega
  have dis : toI G b x ≠ toO G b x ∧ toI G b x ≠ 4 * x ∧ toI G b x ≠ 4 * x + 1 ∧ toO G b x ≠ 4 * x ∧ toO G b x ≠ 4 * x + 1 := by
    unfold toI toO
    split <;> omega
  have all4 : ∀ e, acZ c x c e → e = 4 * x ∨ e = 4 * x + 1 ∨ e = toI G b x ∨ e = toO G b x := by
    intro e he
    unfold acZ at he
    unfold toI toO
    split <;> omega
  have hP := ht.1
  obtain ⟨p1, p2, p3, p4⟩ := ht.2 _ a0
  obtain ⟨q1, q2, q3, q4⟩ := ht.2 _ a1
  have lO : egp S (toO G b x) < 2 * c := egp_lt hv aO.1
  have lI : egp S (toI G b x) < 2 * c := egp_lt hv aI.1
  have l0 : egp S (4 * x) < 2 * c := egp_lt hv a0.1
  have l1 : egp S (4 * x + 1) < 2 * c := egp_lt hv a1.1
  refine ⟨fun hc => ?_, fun hne => ?_⟩
  · have hI : p (4 * x + 1) = toI G b x := by
      rcases all4 _ q1 with h | h | h | h
      · exact absurd (by rw [← q3, h, hc]) dis.2.2.2.2.symm
      · exact absurd h q2
      · exact h
      · have : p (p (4 * x + 1)) = p (p (4 * x)) := by rw [h, hc]
        rw [q3, p3] at this
        omega
    have r1 : rt P (egp S (4 * x + 1)) = rt P (egp S (toI G b x)) := (q4 _ aI).mpr (Or.inr hI.symm)
    have r2 : rt P (egp S (4 * x)) = rt P (egp S (toO G b x)) := (p4 _ aO).mpr (Or.inr hc.symm)
    have i1 : ∀ g h, rt (un P (egp S (4 * x + 1)) (egp S (toI G b x))) g = rt (un P (egp S (4 * x + 1)) (egp S (toI G b x))) h ↔ rt P g = rt P h := by
      intro g h
      rw [un_iff hP]
      constructor
      · rintro (h9 | ⟨h9, h8⟩ | ⟨h9, h8⟩)
        · exact h9
        · rw [h9, h8, r1]
        · rw [h9, h8, r1]
      · exact Or.inl
    constructor
    · intro g h
      show rt (un (un P _ _) _ _) g = rt (un (un P _ _) _ _) h ↔ _
      rw [un_iff (un_dn hP), i1, i1, i1, i1, i1]
      constructor
      · rintro (h9 | ⟨h9, h8⟩ | ⟨h9, h8⟩)
        · exact h9
        · rw [h9, h8, r2]
        · rw [h9, h8, r2]
      · exact Or.inl
    · have s1 := rtsN_un hP l1 lI
      rw [if_pos r1] at s1
      have s2 := rtsN_un (un_dn hP (g := egp S (4 * x + 1)) (h := egp S (toI G b x))) l0 lO
      rw [if_pos ((i1 _ _).mpr r2)] at s2
      show rtsN (un (un P _ _) _ _) _ = _
      omega
  · have hc := hne.1
    have hpI : p (4 * x) = toI G b x := by
      rcases all4 _ p1 with h | h | h | h
      · exact absurd h p2
      · exact absurd h hne.2
      · exact h
      · exact absurd h hc
    have hqO : p (4 * x + 1) = toO G b x := by
      rcases all4 _ q1 with h | h | h | h
      · have := p3
        rw [hpI] at this
        have h7 : p (p (4 * x + 1)) = p (4 * x) := by rw [h]
        rw [q3] at h7
        exact absurd h7.symm hne.2
      · exact absurd h q2
      · have : p (p (4 * x + 1)) = p (p (4 * x)) := by rw [h, hpI]
        rw [q3, p3] at this
        omega
      · exact h
    have rI : rt P (egp S (toI G b x)) = rt P (2 * x) := by
      rw [← e0]
      exact ((p4 _ aI).mpr (Or.inr hpI.symm)).symm
    have rO : rt P (egp S (toO G b x)) = rt P (S.2 (2 * x)) := by
      rw [← e1]
      exact ((q4 _ aO).mpr (Or.inr hqO.symm)).symm
    have r01 : rt P (2 * x) ≠ rt P (S.2 (2 * x)) := by
      rw [← e1, ← e0]
      intro h9
      rcases (p4 _ a1).mp h9 with h8 | h8
      · omega
      · exact hne.2 h8.symm
    have i1 : ∀ g h, rt (un P (egp S (4 * x + 1)) (egp S (toI G b x))) g = rt (un P (egp S (4 * x + 1)) (egp S (toI G b x))) h ↔ rt P g = rt P h ∨ ((rt P g = rt P (2 * x) ∨ rt P g = rt P (S.2 (2 * x))) ∧ (rt P h = rt P (2 * x) ∨ rt P h = rt P (S.2 (2 * x)))) := by
      intro g h
      rw [un_iff hP, rI, e1]
      constructor
      · rintro (h9 | ⟨h9, h8⟩ | ⟨h9, h8⟩)
        · exact Or.inl h9
        · exact Or.inr ⟨Or.inr h9, Or.inl h8⟩
        · exact Or.inr ⟨Or.inl h9, Or.inr h8⟩
      · rintro (h9 | ⟨h9 | h9, h8 | h8⟩)
        · exact Or.inl h9
        · exact Or.inl (by rw [h9, h8])
        · exact Or.inr (Or.inr ⟨h9, h8⟩)
        · exact Or.inr (Or.inl ⟨h9, h8⟩)
        · exact Or.inl (by rw [h9, h8])
    have r2 : rt (un P (egp S (4 * x + 1)) (egp S (toI G b x))) (egp S (4 * x)) = rt (un P (egp S (4 * x + 1)) (egp S (toI G b x))) (egp S (toO G b x)) := (i1 _ _).mpr (Or.inr ⟨Or.inl (by rw [e0]), Or.inr rO⟩)
    constructor
    · intro g h
      show rt (un (un P _ _) _ _) g = rt (un (un P _ _) _ _) h ↔ _
      rw [un_iff (un_dn hP), ← i1]
      constructor
      · rintro (h9 | ⟨h9, h8⟩ | ⟨h9, h8⟩)
        · exact h9
        · rw [h9, h8, r2]
        · rw [h9, h8, r2]
      · exact Or.inl
    · have s1 := rtsN_un hP l1 lI
      rw [if_neg (by rw [rI, e1]; exact fun h9 => r01 h9.symm)] at s1
      have s2 := rtsN_un (un_dn hP (g := egp S (4 * x + 1)) (h := egp S (toI G b x))) l0 lO
      rw [if_pos r2] at s2
      show rtsN (un (un P _ _) _ _) _ + 1 = _
      omega
/-- what holds of two states that differ at x: the loops of one are those of the other, but that two at x are one -/
def mgX (S : ow_NP) (c x : Nat) (R R' : Nat → Nat) : Prop := rt R (2 * x) ≠ rt R (S.2 (2 * x)) ∧ (∀ g h, g < 2 * c → h < 2 * c → (rt R' g = rt R' h ↔ rt R g = rt R h ∨ ((rt R g = rt R (2 * x) ∨ rt R g = rt R (S.2 (2 * x))) ∧ (rt R h = rt R (2 * x) ∨ rt R h = rt R (S.2 (2 * x)))))) ∧ rtsN R' (2 * c) + 1 = rtsN R (2 * c)
theorem st_kind {w : Nat → Bool} {x : Nat} (hv : vn c S) (hw : gaO c S w) (hx : x < c) (hb : b x = false) : mgX S c x (uPx S G b c) (uPx S G (seB b x true) c) ∨ mgX S c x (uPx S G (seB b x true) c) (uPx S G b c) := by
  obtain ⟨p, t1, t2, -⟩ := uPz_ti (G := G) (b := b) hv hw hx c (Nat.le_refl _)
  have ez : uPz S G (seB b x true) x c = uPz S G b x c := uPz_c (fun k hk => if_neg hk) c
  have a0 : acZ c x c (4 * x) := ⟨by omega, by omega⟩
  have a1 : acZ c x c (4 * x + 1) := ⟨by omega, by omega⟩
  obtain ⟨p1, p2, p3, p4⟩ := t1.2 _ a0
  have hn1 : p (4 * x) ≠ 4 * x + 1 := fun h => by
    have := t2 _ a0
    rw [h, show (4 * x + 1) / 2 = 2 * x by omega, show 4 * x / 2 = 2 * x by omega] at this
    cases hq : w (2 * x) <;> rw [hq] at this <;> cases this
  have e0 : egp S (4 * x) = 2 * x := by
    unfold egp
    rw [if_pos (by omega)]
    omega
  have e1 : egp S (4 * x + 1) = S.2 (2 * x) := by
    unfold egp
    rw [if_neg (by omega), show (4 * x + 1) / 2 = 2 * x by omega]
  have r01 : rt (uPz S G b x c) (2 * x) ≠ rt (uPz S G b x c) (S.2 (2 * x)) := by
    rw [← e1, ← e0]
    intro h9
    rcases (p4 _ a1).mp h9 with h8 | h8
    · omega
    · exact hn1 h8.symm
  have tt : toO G (seB b x true) x ≠ toO G b x ∧ (p (4 * x) = toO G b x ∨ p (4 * x) = toO G (seB b x true) x) := by
    have hp := p1
    unfold acZ at hp
    unfold toO alB
    rw [show seB b x true x = true from if_pos rfl, hb]
    cases sgP G x <;> simp <;> omega
  have s2 := (hv (2 * x) (by omega)).2.1
  have o1 := st_one (G := G) (b := b) hv hx t1
  have o2 := st_one (G := G) (b := seB b x true) hv hx t1
  have z1 : ∀ {g h : Nat}, g < 2 * c → h < 2 * c → (rt (uPx S G b c) g = rt (uPx S G b c) h ↔ rt (uPs S G b x (uPz S G b x c)) g = rt (uPs S G b x (uPz S G b x c)) h) := fun hg hh => uPx_z hv hx hg hh
  have z2 : ∀ {g h : Nat}, g < 2 * c → h < 2 * c → (rt (uPx S G (seB b x true) c) g = rt (uPx S G (seB b x true) c) h ↔ rt (uPs S G (seB b x true) x (uPz S G b x c)) g = rt (uPs S G (seB b x true) x (uPz S G b x c)) h) := fun hg hh => by
    rw [uPx_z (x := x) hv hx hg hh, ez]
  have hz := uPz_dn (S := S) (G := G) (b := b) (x := x) c
  have n1 : rtsN (uPx S G b c) (2 * c) = rtsN (uPs S G b x (uPz S G b x c)) (2 * c) := rtsN_same (uPx_dn c) (un_dn (un_dn hz)) (fun g g' hg hg' => z1 hg hg')
  have n2 : rtsN (uPx S G (seB b x true) c) (2 * c) = rtsN (uPs S G (seB b x true) x (uPz S G b x c)) (2 * c) := rtsN_same (uPx_dn c) (un_dn (un_dn hz)) (fun g g' hg hg' => z2 hg hg')
  rcases tt.2 with hp | hp
  · refine Or.inl ?_
    obtain ⟨i1, i2⟩ := o1.1 hp
    obtain ⟨k1, k2⟩ := o2.2 ⟨fun h => tt.1 (h.symm.trans hp), hn1⟩
    refine ⟨fun h9 => r01 ((i1 _ _).mp ((z1 (by omega) s2).mp h9)), fun g h hg hh => ?_, by omega⟩
    rw [z2 hg hh, k1, z1 hg hh, i1, z1 hg (show 2 * x < 2 * c by omega), i1, z1 hg s2, i1, z1 hh (show 2 * x < 2 * c by omega), i1, z1 hh s2, i1]
  · refine Or.inr ?_
    obtain ⟨i1, i2⟩ := o2.1 hp
    obtain ⟨k1, k2⟩ := o1.2 ⟨fun h => tt.1 (hp.symm.trans h), hn1⟩
    refine ⟨fun h9 => r01 ((i1 _ _).mp ((z2 (by omega) s2).mp h9)), fun g h hg hh => ?_, by omega⟩
    rw [z1 hg hh, k1, z2 hg hh, i1, z2 hg (show 2 * x < 2 * c by omega), i1, z2 hg s2, i1, z2 hh (show 2 * x < 2 * c by omega), i1, z2 hh s2, i1]
end CST
end
section
/-! 99zzzzzzzl.cim -/
/-! bits and ones -/
theorem pcF_add : ∀ (x n k : Nat), x < n → k / 2 ^ x % 2 = 0 → pcF n (k + 2 ^ x) = pcF n k + 1
  | 0, n + 1, k, _, h => by
    rw [Nat.pow_zero, Nat.div_one] at h
    show (k + 2 ^ 0) % 2 + pcF n ((k + 2 ^ 0) / 2) = k % 2 + pcF n (k / 2) + 1
    rw [Nat.pow_zero, show (k + 1) / 2 = k / 2 by omega]
    omega
  | x + 1, n + 1, k, h1, h => by
    have e : k / 2 / 2 ^ x % 2 = 0 := by
      rw [Nat.div_div_eq_div_mul, ← Nat.pow_succ']
      exact h
    have ih := pcF_add x n (k / 2) (by omega) e
    show (k + 2 ^ (x + 1)) % 2 + pcF n ((k + 2 ^ (x + 1)) / 2) = k % 2 + pcF n (k / 2) + 1
    rw [Nat.pow_succ, show (k + 2 ^ x * 2) / 2 = k / 2 + 2 ^ x by omega, ih]
    omega
theorem pc_add {x k : Nat} (hx : x < 32) (h : btN k x = 0) : pc (k + 2 ^ x) = pc k + 1 := pcF_add x 32 k hx h
def sbt (m : Nat) : Nat → Nat
  | 0 => 0
  | n + 1 => sbt m n + btN m n
theorem sbt_s (m : Nat) : ∀ n, sbt m (n + 1) = m % 2 + sbt (m / 2) n
  | 0 => by
    show 0 + btN m 0 = m % 2 + 0
    unfold btN
    rw [Nat.pow_zero, Nat.div_one]
    omega
  | n + 1 => by
    show sbt m (n + 1) + btN m (n + 1) = m % 2 + (sbt (m / 2) n + btN (m / 2) n)
    rw [sbt_s m n]
    unfold btN
    have e : m / 2 / 2 ^ n = m / 2 ^ (n + 1) := by
      rw [Nat.div_div_eq_div_mul, ← Nat.pow_succ']
    rw [e]
    omega
theorem pcF_sbt : ∀ (n N m : Nat), n ≤ N → m < 2 ^ n → pcF N m = sbt m n
  | 0, N, m, _, h => by
    have : m = 0 := by simpa using h
    subst this
    have := pcF_le N 0 0 (by decide)
    show pcF N 0 = 0
    omega
  | n + 1, 0, m, h, _ => absurd h (by omega)
  | n + 1, N + 1, m, h, hm => by
    rw [sbt_s]
    show m % 2 + pcF N (m / 2) = _
    rw [pcF_sbt n N (m / 2) (by omega) (by rw [Nat.pow_succ] at hm; omega)]
theorem pc_sbt {n m : Nat} (hn : n ≤ 32) (h : m < 2 ^ n) : pc m = sbt m n := pcF_sbt n 32 m hn h
theorem sbt_sum (m : Nat) : ∀ n, sbt m n = ((List.range n).map (btN m)).sum
  | 0 => rfl
  | n + 1 => by
    show sbt m n + btN m n = _
    rw [sbt_sum m n, List.range_succ, List.map_append, List.sum_append]
    simp
theorem bt_lt {k x l : Nat} (hk : k < 2 ^ l) (hx : l ≤ x) : btN k x = 0 := by
  unfold btN
  rw [Nat.div_eq_of_lt (Nat.lt_of_lt_of_le hk (two_mono hx))]
theorem bt_add {k l x : Nat} (hk : k < 2 ^ l) : btN (k + 2 ^ l) x = if x = l then 1 else btN k x := by
  unfold btN
  by_cases e : x = l
  · subst e
    rw [if_pos rfl, Nat.add_div_right _ (Nat.two_pow_pos x), Nat.div_eq_of_lt hk]
  · rw [if_neg e]
    rcases Nat.lt_or_ge x l with h | h
    · have e2 : 2 ^ l = 2 ^ x * (2 * 2 ^ (l - x - 1)) := by
        rw [← Nat.pow_succ', ← Nat.pow_add]
        congr 1
        omega
      rw [e2, Nat.add_mul_div_left _ _ (Nat.two_pow_pos x), Nat.add_mul_mod_self_left]
    · have h1 : k + 2 ^ l < 2 ^ x := by
        have : 2 ^ (l + 1) ≤ 2 ^ x := two_mono (by omega)
        rw [Nat.pow_succ] at this
        omega
      rw [Nat.div_eq_of_lt h1, Nat.div_eq_of_lt (Nat.lt_of_lt_of_le hk (two_mono h))]
theorem add_lt {k x n : Nat} (hk : k < 2 ^ n) (hx : x < n) (hb : btN k x = 0) : k + 2 ^ x < 2 ^ n := st_lt hk hx hb
/-! two states that differ at a crossing: labels -/
section LAB
variable {S : ow_NP} {c x : Nat} {R R' L L' : Nat → Nat}
def labR (c : Nat) (R L : Nat → Nat) : Prop := ∀ g g', g < 2 * c → g' < 2 * c → (L g = L g' ↔ rt R g = rt R g')
def atL (S : ow_NP) (x : Nat) (L : Nat → Nat) (g : Nat) : Prop := L g = L (2 * x) ∨ L g = L (S.2 (2 * x))
theorem lab_x1 (h1 : 2 * x < 2 * c) (h2 : S.2 (2 * x) < 2 * c) (hL : labR c R L) (hL' : labR c R' L') (h : mgX S c x R R') : (∀ g, g < 2 * c → (atL S x L g ↔ atL S x L' g)) ∧ ∀ g g', g < 2 * c → g' < 2 * c → ¬ atL S x L g → (L g = L g' ↔ L' g = L' g') := by
  obtain ⟨-, m2, -⟩ := h
  have k1 : ∀ g, g < 2 * c → (atL S x L g ↔ (rt R g = rt R (2 * x) ∨ rt R g = rt R (S.2 (2 * x)))) := fun g hg => by
    unfold atL
    rw [hL g _ hg h1, hL g _ hg h2]
  constructor
  · intro g hg
    rw [k1 g hg]
    unfold atL
    rw [hL' g _ hg h1, hL' g _ hg h2, m2 g _ hg h1, m2 g _ hg h2]
    constructor
    · rintro (h9 | h9)
      · exact Or.inl (Or.inl h9)
      · exact Or.inr (Or.inl h9)
    · rintro ((h9 | h9) | (h9 | h9))
      · exact Or.inl h9
      · exact h9.1
      · exact Or.inr h9
      · exact h9.1
  · intro g g' hg hg' hn
    rw [k1 g hg] at hn
    rw [hL g g' hg hg', hL' g g' hg hg', m2 g g' hg hg']
    exact ⟨Or.inl, fun h9 => h9.elim id (fun h8 => absurd h8.1 hn)⟩
theorem lab_x2 (h1 : 2 * x < 2 * c) (h2 : S.2 (2 * x) < 2 * c) (hL : labR c R L) (hL' : labR c R' L') (h : mgX S c x R R' ∨ mgX S c x R' R) : (∀ g, g < 2 * c → (atL S x L g ↔ atL S x L' g)) ∧ ∀ g g', g < 2 * c → g' < 2 * c → ¬ atL S x L g → (L g = L g' ↔ L' g = L' g') := by
  rcases h with h | h
  · exact lab_x1 h1 h2 hL hL' h
  · obtain ⟨a1, a2⟩ := lab_x1 h1 h2 hL' hL h
    refine ⟨fun g hg => (a1 g hg).symm, fun g g' hg hg' hn => ?_⟩
    exact (a2 g g' hg hg' (fun h9 => hn ((a1 g hg).mp h9))).symm
/-- the loops that are not at x, with their bits -/
theorem crr_sum {n n' : Nat} {ga : Nat → Nat} (m : Nat) (h1 : 2 * x < 2 * c) (h2 : S.2 (2 * x) < 2 * c) (hl : ∀ g, g < 2 * c → L g < n) (hl' : ∀ g, g < 2 * c → L' g < n') (hs : ∀ l, l < n → ∃ g, g < 2 * c ∧ L g = l) (hg : ∀ l, l < n' → ga l < 2 * c ∧ L' (ga l) = l) (hx : (∀ g, g < 2 * c → (atL S x L g ↔ atL S x L' g)) ∧ ∀ g g', g < 2 * c → g' < 2 * c → ¬ atL S x L g → (L g = L g' ↔ L' g = L' g')) : (((List.range n').filter (fun l => decide (l ≠ L' (2 * x) ∧ l ≠ L' (S.2 (2 * x))))).map (fun l => btN m (L (ga l)))).sum + btN m (L (2 * x)) + (if L (2 * x) = L (S.2 (2 * x)) then 0 else btN m (L (S.2 (2 * x)))) = sbt m n := by
  obtain ⟨x1, x2⟩ := hx
  have nat : ∀ l, l < n' → (l ≠ L' (2 * x) ∧ l ≠ L' (S.2 (2 * x)) ↔ ¬ atL S x L (ga l)) := fun l hl9 => by
    rw [x1 _ (hg l hl9).1]
    unfold atL
    rw [(hg l hl9).2]
    grind
  have e1 : (((List.range n').filter (fun l => decide (l ≠ L' (2 * x) ∧ l ≠ L' (S.2 (2 * x))))).map (fun l => btN m (L (ga l)))).sum = (((((List.range n').filter (fun l => decide (l ≠ L' (2 * x) ∧ l ≠ L' (S.2 (2 * x))))).map (fun l => L (ga l)))).map (btN m)).sum := by
    rw [List.map_map]
    rfl
  have e2 := sum_nd (g := btN m) (l1 := ((List.range n').filter (fun l => decide (l ≠ L' (2 * x) ∧ l ≠ L' (S.2 (2 * x))))).map (fun l => L (ga l))) (l2 := ((List.range n).erase (L (2 * x))).erase (L (S.2 (2 * x)))) ?_ ((List.nodup_range.erase _).erase _) (fun l => ?_)
  · have m1 : L (2 * x) ∈ List.range n := List.mem_range.mpr (hl _ h1)
    have s1 := sum_er (g := btN m) m1
    rw [e1, e2, sbt_sum, s1]
    by_cases c1 : L (2 * x) = L (S.2 (2 * x))
    · rw [if_pos c1, ← c1, List.erase_of_not_mem (fun h9 => by
        rw [List.nodup_range.mem_erase_iff] at h9
        exact h9.1 rfl)]
      omega
    · have m2 : L (S.2 (2 * x)) ∈ (List.range n).erase (L (2 * x)) := by
        rw [List.nodup_range.mem_erase_iff]
        exact ⟨fun h9 => c1 h9.symm, List.mem_range.mpr (hl _ h2)⟩
      have s2 := sum_er (g := btN m) m2
      rw [if_neg c1, s2]
      omega
  · refine nodup_map (List.nodup_range.filter _) (fun a b ha hb e => ?_)
    obtain ⟨a1, a2⟩ := List.mem_filter.mp ha
    obtain ⟨b1, b2⟩ := List.mem_filter.mp hb
    have a1 := List.mem_range.mp a1
    have b1 := List.mem_range.mp b1
    have a3 := (nat a a1).mp (of_decide_eq_true a2)
    have := (x2 _ _ (hg a a1).1 (hg b b1).1 a3).mp e
    rw [(hg a a1).2, (hg b b1).2] at this
    exact this
  · rw [(List.nodup_range.erase _).mem_erase_iff, List.nodup_range.mem_erase_iff, List.mem_range]
    constructor
    · intro h9
      obtain ⟨k, k1, rfl⟩ := List.mem_map.mp h9
      obtain ⟨k1, k2⟩ := List.mem_filter.mp k1
      have k1 := List.mem_range.mp k1
      have k3 := (nat k k1).mp (of_decide_eq_true k2)
      unfold atL at k3
      exact ⟨fun e => k3 (Or.inr e), fun e => k3 (Or.inl e), hl _ (hg k k1).1⟩
    · rintro ⟨h9, h8, h7⟩
      obtain ⟨g, g1, g2⟩ := hs l h7
      have hna : ¬ atL S x L g := by
        unfold atL
        rw [g2]
        rintro (e | e)
        · exact h8 e
        · exact h9 e
      have hl9 := hl' g g1
      obtain ⟨q1, q2⟩ := hg _ hl9
      have eL : L (ga (L' g)) = l := by
        rw [← g2]
        exact ((x2 g _ g1 q1 hna).mpr q2.symm).symm
      refine List.mem_map.mpr ⟨L' g, List.mem_filter.mpr ⟨List.mem_range.mpr hl9, decide_eq_true ((nat _ hl9).mpr ?_)⟩, eL⟩
      unfold atL
      rw [eL]
      rintro (e | e)
      · exact h8 e
      · exact h9 e
end LAB
end
section
/-! 99zzzzzzzm.cimg -/
/-! the class: D of a generator -/
theorem ch_43005 {vl : Nat → Nat} : ((cX vl).2 43005).2.1 = 1024 := rfl
theorem ch_43007 {vl : Nat → Nat} : ((cX vl).2 43007).2.1 = 256 := rfl
theorem ch_43008 {vl : Nat → Nat} : ((cX vl).2 43008).2.1 = 256 := rfl
theorem ch_43009 {vl : Nat → Nat} : ((cX vl).2 43009).2.1 = 10 := rfl
theorem ch_dyn {vl : Nat → Nat} {h : Nat} (hh : dynL.contains h = true) : ((cX vl).2 h).2.1 = vl h := by
  show (if dynL.contains h = true then (0, vl h, []) else cX_f h).2.1 = vl h
  rw [if_pos hh]
theorem ch_43011 {vl : Nat → Nat} : ((cX vl).2 43011).2.1 = vl 43011 := ch_dyn (by decide)
theorem ch_43012 {vl : Nat → Nat} : ((cX vl).2 43012).2.1 = vl 43012 := ch_dyn (by decide)
theorem ch_43013 {vl : Nat → Nat} : ((cX vl).2 43013).2.1 = vl 43013 := ch_dyn (by decide)
theorem ch_43014 {vl : Nat → Nat} : ((cX vl).2 43014).2.1 = vl 43014 := ch_dyn (by decide)
theorem ch_43015 {vl : Nat → Nat} : ((cX vl).2 43015).2.1 = vl 43015 := ch_dyn (by decide)
theorem ch_43016 {vl : Nat → Nat} : ((cX vl).2 43016).2.1 = vl 43016 := ch_dyn (by decide)
/-- the loops of all states -/
def LpY (y : ow_MS) (S : ow_NP) (G : Nat → Int32) (c : Nat) (Ls : Nat → Nat → Nat) (ns : Nat → Nat) : Prop := ∀ s, s < 2 ^ c → LpS y S G c s (Ls s) (ns s) ∧ ns s ≤ 9
theorem LpY_fr {P : Nat → Prop} {y y1 : ow_MS} {S : ow_NP} {G : Nat → Int32} {c : Nat} {Ls : Nat → Nat → Nat} {ns : Nat → Nat} (hf : fr P y y1) (hP : ¬ P 43002 ∧ ¬ P 43003 ∧ ¬ P 43004) (h : LpY y S G c Ls ns) : LpY y1 S G c Ls ns := by
  intro s hs
  obtain ⟨⟨h1, h2, h3, h4, h5⟩, h6⟩ := h s hs
  refine ⟨⟨fun g hg => ?_, ?_, fun l hl => ?_, h4, h5⟩, h6⟩
  · rw [(hf _ hP.1).2.1]
    exact h1 g hg
  · rw [(hf _ hP.2.1).2.1]
    exact h2
  · obtain ⟨g, g1, g2, g3⟩ := h3 l hl
    exact ⟨g, g1, by rw [(hf _ hP.2.2).2.1]; exact g2, g3⟩
/-- which set it is among those with as many -/
def tbP (y : ow_MS) : Prop := ∀ m, m < 1024 → y.2.1 43005 m = nI (cpN (pc m) m)
section IMG
variable {vl : Nat → Nat} {y : ow_MS} {S : ow_NP} {G : Nat → Int32} {c ci : Nat} {Ls : Nat → Nat → Nat} {ns : Nat → Nat}
theorem tb_j {s x : Nat} (hv : vn c S) (hx : x < c) {L : Nat → Nat} (hL : labR c (uPx S G (tb s) c) L) : (L (2 * x + 1) = L (2 * x) ∧ L (S.2 (2 * x + 1)) = L (S.2 (2 * x))) ∨ (L (S.2 (2 * x + 1)) = L (2 * x) ∧ L (2 * x + 1) = L (S.2 (2 * x))) := by
  have e0 : egp S (4 * x) = 2 * x := by
    unfold egp
    rw [if_pos (by omega)]
    omega
  have e1 : egp S (4 * x + 1) = S.2 (2 * x) := by
    unfold egp
    rw [if_neg (by omega), show (4 * x + 1) / 2 = 2 * x by omega]
  have e2 : egp S (4 * x + 2) = 2 * x + 1 := by
    unfold egp
    rw [if_pos (by omega)]
    omega
  have e3 : egp S (4 * x + 3) = S.2 (2 * x + 1) := by
    unfold egp
    rw [if_neg (by omega), show (4 * x + 3) / 2 = 2 * x + 1 by omega]
  obtain ⟨j1, j2⟩ := uPx_j (S := S) (G := G) (b := tb s) c x hx
  have l1 := (hv (2 * x) (by omega)).2.1
  have l2 := (hv (2 * x + 1) (by omega)).2.1
  unfold toI at j1
  unfold toO at j2
  by_cases ha : alB G (tb s) x = true
  · rw [if_pos ha] at j1 j2
    rw [e1, e2] at j1
    rw [e0, e3] at j2
    exact Or.inr ⟨((hL _ _ (by omega) l2).mpr j2).symm, ((hL _ _ l1 (by omega)).mpr j1).symm⟩
  · rw [if_neg ha] at j1 j2
    rw [e1, e3] at j1
    rw [e0, e2] at j2
    exact Or.inl ⟨((hL _ _ (by omega) (by omega)).mpr j2).symm, ((hL _ _ l1 l2).mpr j1).symm⟩
theorem e_X1_otherLoop {vl : Nat → Nat} {r0 : Nat} {x1 : Int32} {x2 : Int32} {z : ow_MS} {Q : (Int32 × ow_MS) → Prop} (H : Tt (fun K _ => cm_X1_otherLoop_0 vl K x1 x2 r0 z) Q) : Te (fun K => ce_X1_otherLoop vl K r0 x1 x2 z) Q := w_te0 H
theorem tc_otherLoop {s x : Nat} (hy : cAt y 44000 (c, ci, S, G)) (hv : vn c S) (hc : c ≤ 8) (hL : LpY y S G c Ls ns) (hs : s < 2 ^ c) (hx : x < c) : Te (fun K => ce_X1_otherLoop vl K 43000 (nI s) (nI x) y) (fun r => r = (nI (Ls s (S.2 (2 * x))), y)) := by
  obtain ⟨⟨h1, h2, h3, h4, h5⟩, h6⟩ := hL s hs
  have h256 : 2 ^ c ≤ 256 := two_mono (b := 8) hc
  have l1 := (hv (2 * x) (by omega)).2.1
  have l2 := (hv (2 * x + 1) (by omega)).2.1
  obtain ⟨a1, a2⟩ := h1 (2 * x) (by omega)
  obtain ⟨b1, b2⟩ := h1 (2 * x + 1) (by omega)
  obtain ⟨c1, c2⟩ := h1 _ l1
  obtain ⟨d1, d2⟩ := h1 _ l2
  have jj := tb_j (G := G) (s := s) hv hx h4
  refine e_X1_otherLoop ?_; unfold cm_X1_otherLoop_0
  rw [rn_mul2, i16, nI_1, nI_1]
  refine w_crI ch_43002 rfl (by omega) a1 (w_crI ch_43002 rfl (by omega) b1 (w_crI (nH_2 nH44) rfl (show 2 * x < 24 by omega) (hy.2.2.2.1 _) ?_))
  rw [show ((c, ci, S, G) : ow_NT).2.2.1.2 (2 * x) = S.2 (2 * x) from rfl, i16]
  refine w_crI ch_43002 rfl (by omega) c1 (w_crI (nH_2 nH44) rfl (show 2 * x + 1 < 24 by omega) (hy.2.2.2.1 _) ?_)
  rw [show ((c, ci, S, G) : ow_NT).2.2.1.2 (2 * x + 1) = S.2 (2 * x + 1) from rfl, i16]
  refine w_crI ch_43002 rfl (by omega) d1 (w_eqN (by omega) (by omega) (fun e => w_eqN (by omega) (by omega) (fun e2 => w_some ?_) (fun e2 => w_some rfl)) (fun e => w_some ?_))
  · rcases jj with ⟨j1, j2⟩ | ⟨j1, j2⟩
    · rw [j2]
    · rw [j1, e2]
  · rcases jj with ⟨j1, j2⟩ | ⟨j1, j2⟩
    · exact absurd j1 e
    · rw [j2]
theorem crS {m l : Nat} (hm : m < 1024) (hl : l < 10) : ((nI m >>> (nI l &&& 31)) &&& 1) = nI (btN m l) := gbit (by omega) (by omega)
theorem crO {k l b : Nat} (hk : k < 2 ^ l) (hl : l < 10) (hb : b < 2) : nI k ||| (nI b <<< (nI l &&& 31)) = nI (k + b * 2 ^ l) := by
  have key : ∀ l : Fin 10, ∀ b : Fin 2, nI b.val <<< (nI l.val &&& 31) = nI (b.val * 2 ^ l.val) := by decide +kernel
  have h9 := key ⟨l, hl⟩ ⟨b, hb⟩
  dsimp only at h9
  have h10 : 2 ^ l ≤ 2 ^ 9 := two_mono (by omega)
  have b01 : b = 0 ∨ b = 1 := by omega
  have hmul : b * 2 ^ l ≤ 2 ^ l := by
    rcases b01 with e | e <;> subst e <;> omega
  rw [h9, ow_or (by omega) (by omega)]
  congr 1
  rcases b01 with e | e
  · subst e
    simp
  · subst e
    rw [Nat.one_mul]
    have := Nat.two_pow_add_eq_or_of_lt hk 1
    rw [Nat.mul_one] at this
    rw [Nat.or_comm, ← this, Nat.add_comm]
/-- the place of a bit below l, or nothing, for loops at the crossing -/
def crF (m a b l : Nat) (φ : Nat → Nat) (k : Nat) : Prop := k < 2 ^ l ∧ pc k = (((List.range l).filter (fun j => decide (j ≠ a ∧ j ≠ b))).map (fun j => btN m (φ j))).sum ∧ btN k a = 0 ∧ btN k b = 0
theorem crF_s {m a b l k : Nat} {φ : Nat → Nat} (hl : l < 10) (h : crF m a b l φ k) : (l ≠ a → l ≠ b → crF m a b (l + 1) φ (k + btN m (φ l) * 2 ^ l)) ∧ ((l = a ∨ l = b) → crF m a b (l + 1) φ k) := by
  obtain ⟨h1, h2, h3, h4⟩ := h
  have hb2 : btN m (φ l) < 2 := by unfold btN; omega
  constructor
  · intro ha hb
    have fl : (List.range (l + 1)).filter (fun j => decide (j ≠ a ∧ j ≠ b)) = (List.range l).filter (fun j => decide (j ≠ a ∧ j ≠ b)) ++ [l] := by
      rw [List.range_succ, List.filter_append, List.filter_cons_of_pos (by simp [ha, hb])]
      rfl
    have b01 : btN m (φ l) = 0 ∨ btN m (φ l) = 1 := by omega
    unfold crF
    rw [fl, List.map_append, List.sum_append_nat, ← h2]
    rcases b01 with e | e
    · rw [e, Nat.zero_mul, Nat.add_zero]
      refine ⟨by rw [Nat.pow_succ]; omega, ?_, h3, h4⟩
      simp [e]
    · rw [e, Nat.one_mul]
      refine ⟨by rw [Nat.pow_succ]; omega, ?_, ?_, ?_⟩
      · rw [pc_add (by omega) (bt_lt h1 (Nat.le_refl _))]
        simp [e]
      · rw [bt_add h1, if_neg (fun h9 => ha h9.symm)]
        exact h3
      · rw [bt_add h1, if_neg (fun h9 => hb h9.symm)]
        exact h4
  · intro hab
    have fl : (List.range (l + 1)).filter (fun j => decide (j ≠ a ∧ j ≠ b)) = (List.range l).filter (fun j => decide (j ≠ a ∧ j ≠ b)) := by
      rw [List.range_succ, List.filter_append, List.filter_cons_of_neg (by simp; grind)]
      simp
    unfold crF
    rw [fl]
    exact ⟨by rw [Nat.pow_succ]; omega, h2, h3, h4⟩
theorem u_X1_carry_1 {vl : Nat → Nat} {x1 : Int32} {x2 : Int32} {x3 : Int32} {x4 : Int32} {x5 : Int32} {x6 : Int32} {x7 : Int32} {r0 : Nat} {z : ow_MS} {Q : (Int32 × ow_MS) → Prop} (H : Tt (fun K k => cm_X1_carry_1 vl K (c_X1_carry vl K k) x1 x2 x3 x4 x5 x6 x7 r0 z) Q) : Tt (fun K k => c_X1_carry vl K k 1 x1 x2 x3 x4 x5 x6 x7 r0 z) Q := w_un (fun _ _ => rfl) H
theorem u_X1_carry_2 {vl : Nat → Nat} {x1 : Int32} {x2 : Int32} {x3 : Int32} {x4 : Int32} {x5 : Int32} {x6 : Int32} {x7 : Int32} {r0 : Nat} {z : ow_MS} {Q : (Int32 × ow_MS) → Prop} (H : Tt (fun K k => cm_X1_carry_2 vl K (c_X1_carry vl K k) x1 x2 x3 x4 x5 x6 x7 r0 z) Q) : Tt (fun K k => c_X1_carry vl K k 2 x1 x2 x3 x4 x5 x6 x7 r0 z) Q := w_un (fun _ _ => rfl) H
theorem e_X1_carry {vl : Nat → Nat} {r0 : Nat} {x1 : Int32} {x2 : Int32} {x3 : Int32} {x4 : Int32} {x5 : Int32} {z : ow_MS} {Q : (Int32 × ow_MS) → Prop} (H : Tt (fun K k => c_X1_carry vl K k 0 x1 x2 x3 x4 x5 0 0 r0 z) Q) : Te (fun K => ce_X1_carry vl K r0 x1 x2 x3 x4 x5 z) Q := w_te H
theorem u_X1_carry_0 {vl : Nat → Nat} {x1 : Int32} {x2 : Int32} {x3 : Int32} {x4 : Int32} {x5 : Int32} {x6 : Int32} {x7 : Int32} {r0 : Nat} {z : ow_MS} {Q : (Int32 × ow_MS) → Prop} (H : Tt (fun K k => cm_X1_carry_0 vl K (c_X1_carry vl K k) x1 x2 x3 x4 x5 x6 x7 r0 z) Q) : Tt (fun K k => c_X1_carry vl K k 0 x1 x2 x3 x4 x5 x6 x7 r0 z) Q := w_un (fun _ _ => rfl) H
theorem tc_carry {s t m a b : Nat} (hc : c ≤ 8) (hL : LpY y S G c Ls ns) (hs : s < 2 ^ c) (ht : t < 2 ^ c) (hm : m < 1024) (ha : a < 10) (hb : b < 10) : Te (fun K => ce_X1_carry vl K 43000 (nI s) (nI m) (nI t) (nI a) (nI b) y) (fun r => r.2 = y ∧ ∃ (k : Nat) (ga : Nat → Nat), (∀ l, l < ns t → ga l < 2 * c ∧ Ls t (ga l) = l) ∧ r.1 = nI k ∧ crF m a b (ns t) (fun l => Ls s (ga l)) k) := by
  obtain ⟨⟨h1, h2, h3, h4, h5⟩, h6⟩ := hL s hs
  obtain ⟨⟨t1, t2, t3, t4, t5⟩, t6⟩ := hL t ht
  have h256 : 2 ^ c ≤ 256 := two_mono (b := 8) hc
  obtain ⟨ga, hga⟩ : ∃ ga : Nat → Nat, ∀ l, l < ns t → ga l < 2 * c ∧ y.2.1 43004 (10 * t + l) = nI (ga l) ∧ Ls t (ga l) = l := by
    refine ⟨fun l => if h : l < ns t then Classical.choose (t3 l h) else 0, fun l hl => ?_⟩
    dsimp only
    rw [dif_pos hl]
    exact Classical.choose_spec (t3 l hl)
  let Q : Int32 × ow_MS → Prop := fun r => r.2 = y ∧ ∃ (k : Nat) (ga : Nat → Nat), (∀ l, l < ns t → ga l < 2 * c ∧ Ls t (ga l) = l) ∧ r.1 = nI k ∧ crF m a b (ns t) (fun l => Ls s (ga l)) k
  have c1 : ∀ (d l k : Nat), l + d = ns t → crF m a b l (fun l => Ls s (ga l)) k → Tt (fun K i => c_X1_carry vl K i 1 (nI s) (nI m) (nI t) (nI a) (nI b) (nI k) (nI l) 43000 y) Q := by
    intro d
    induction d with
    | zero =>
      intro l k hl hk
      have hl : l = ns t := by omega
      subst hl
      refine u_X1_carry_1 ?_; unfold cm_X1_carry_1
      exact w_crI ch_43003 rfl (by omega) t2 (w_leT (by omega) (by omega) (w_some ⟨rfl, k, ga, fun l hl => ⟨(hga l hl).1, (hga l hl).2.2⟩, rfl, hk⟩))
    | succ d ih =>
      intro l k hl hk
      obtain ⟨g1, g2, g3⟩ := hga l (by omega)
      obtain ⟨o1, o2⟩ := h1 _ g1
      have c2 : ∀ k', crF m a b (l + 1) (fun l => Ls s (ga l)) k' → Tt (fun K i => c_X1_carry vl K i 2 (nI s) (nI m) (nI t) (nI a) (nI b) (nI k') (nI l) 43000 y) Q := by
        intro k' hk'
        refine u_X1_carry_2 ?_; unfold cm_X1_carry_2
        rw [nI_1]
        exact ih (l + 1) k' (by omega) hk'
      obtain ⟨f1, f2⟩ := crF_s (show l < 10 by omega) hk
      refine u_X1_carry_1 ?_; unfold cm_X1_carry_1
      refine w_crI ch_43003 rfl (by omega) t2 (w_leF (by omega) (by omega) (w_eqN (by omega) (by omega) (fun e => c2 k (f2 (Or.inl e))) (fun e1 => w_eqN (by omega) (by omega) (fun e => c2 k (f2 (Or.inr e))) (fun e2 => ?_))))
      rw [i10]
      refine w_crI ch_43004 rfl (by omega) g2 ?_
      rw [i16]
      refine w_crI ch_43002 rfl (by omega) o1 ?_
      rw [crS hm (by omega), crO hk.1 (by omega) (by unfold btN; omega)]
      exact c2 _ (f1 e1 e2)
  refine e_X1_carry ?_
  refine u_X1_carry_0 ?_; unfold cm_X1_carry_0
  refine c1 (ns t) 0 0 (by omega) ⟨by decide, rfl, ?_, ?_⟩
  · unfold btN
    rw [Nat.zero_div]
  · unfold btN
    rw [Nat.zero_div]
theorem e_X1_addTo {vl : Nat → Nat} {r0 : Nat} {x1 : Int32} {x2 : Int32} {x3 : Int32} {z : ow_MS} {Q : ow_MS → Prop} (H : Tt (fun K _ => cm_X1_addTo_0 vl K x1 x2 x3 r0 z) Q) : Te (fun K => ce_X1_addTo vl K r0 x1 x2 x3 z) Q := w_te0 H
theorem tc_addTo {t m bg W p : Nat} {x : Int32} (ht : t < 256) (hm : m < 1024) (hp : tbP y) (hbg : y.2.1 43008 t = nI bg) (hW : vl 43011 = W) (hW2 : W < 2 ^ 31) (hix : bg + cpN (pc m) m < W) (h10 : y.1 43010 = nI p) (hp1 : 2 ≤ p) (hp2 : p ≤ 997) : Te (fun K => ce_X1_addTo vl K 43000 (nI t) (nI m) x y) (fun y1 => fr (fun g => g = 43011) y y1) := by
  have hnz : nI p ≠ 0 := fun h9 => by
    have := (nI_eq (a := p) (b := 0) (by omega) (by omega)).mp h9
    omega
  refine e_X1_addTo ?_; unfold cm_X1_addTo_0
  refine w_crI ch_43008 rfl ht hbg (w_crI ch_43005 rfl hm (hp m hm) ?_)
  rw [nI_add]
  exact w_crI (ch_43011.trans hW) rfl hix rfl (w_rdF h10 (w_nzI hnz (w_ctI (ch_43011.trans hW) rfl hix (w_some (fr_I rfl)))))
end IMG
end
section
/-! 99zzzzzzzn.cimg2 -/
/-! the class: D of a generator stays in its degree -/
def kpF (n h : Nat) (dg : Int) : Option Nat := if ((n : Int) + dg - h) % 2 = 0 ∧ 0 ≤ (n : Int) + dg - h ∧ (n : Int) + dg - h ≤ 2 * n then some (((n : Int) + dg - h) / 2).toNat else none
def bkF (ns : Nat → Nat) (dg : Int) (s : Nat) : Nat := match kpF (ns s) (pc s) dg with
  | some k => biN (ns s) k
  | none => 0
theorem kpF_m {n h k : Nat} {dg : Int} (hk : kpF (n + 1) h dg = some (k + 1)) : kpF n (h + 1) dg = some k := by
  unfold kpF at hk ⊢
  split at hk
  · rename_i h1
    injection hk with hk
    rw [if_pos (by omega)]
    congr 1
    omega
  · cases hk
theorem kpF_s {n h k : Nat} {dg : Int} (hk : kpF n h dg = some k) : kpF (n + 1) (h + 1) dg = some k := by
  unfold kpF at hk ⊢
  split at hk
  · rename_i h1
    injection hk with hk
    rw [if_pos (by omega)]
    congr 1
    omega
  · cases hk
theorem kpF_le {n h k : Nat} {dg : Int} (hk : kpF n h dg = some k) : k ≤ n := by
  unfold kpF at hk
  split at hk
  · injection hk with hk
    omega
  · cases hk
theorem bt_flip {s x : Nat} (h : btN s x = 0) (k : Nat) : btN (s + 2 ^ x) k = if k = x then 1 else btN s k := by
  have e1 : s % 2 ^ (x + 1) < 2 ^ x := by
    have h1 : s % 2 ^ (x + 1) < 2 ^ (x + 1) := Nat.mod_lt _ (Nat.two_pow_pos _)
    unfold btN at h
    have h2 : s % 2 ^ (x + 1) / 2 ^ x = s / 2 ^ x % 2 := by
      rw [Nat.pow_succ, Nat.mod_mul_right_div_self]
    rw [h] at h2
    rcases Nat.lt_or_ge (s % 2 ^ (x + 1)) (2 ^ x) with h3 | h3
    · exact h3
    · have := Nat.div_pos h3 (Nat.two_pow_pos x)
      omega
  have e2 : s = 2 ^ (x + 1) * (s / 2 ^ (x + 1)) + s % 2 ^ (x + 1) := (Nat.div_add_mod _ _).symm
  generalize s / 2 ^ (x + 1) = q at e2
  generalize s % 2 ^ (x + 1) = r at e1 e2
  have p1 : 2 ^ (x + 1) = 2 ^ x * 2 := Nat.pow_succ 2 x
  unfold btN
  rcases Nat.lt_trichotomy k x with hk | hk | hk
  · rw [if_neg (by omega)]
    have e3 : 2 ^ x = 2 ^ k * (2 * 2 ^ (x - k - 1)) := by
      rw [← Nat.pow_succ', ← Nat.pow_add]
      congr 1
      omega
    rw [e3, Nat.add_mul_div_left _ _ (Nat.two_pow_pos k), Nat.add_mul_mod_self_left]
  · subst hk
    rw [if_pos rfl]
    have : s + 2 ^ k = r + 2 ^ k * (2 * q + 1) := by
      rw [e2, p1, Nat.mul_add, Nat.mul_one, ← Nat.mul_assoc]
      omega
    rw [this, Nat.add_mul_div_left _ _ (Nat.two_pow_pos k), Nat.div_eq_of_lt e1]
    omega
  · rw [if_neg (by omega)]
    have e3 : 2 ^ k = 2 ^ (x + 1) * 2 ^ (k - x - 1) := by
      rw [← Nat.pow_add]
      congr 1
      omega
    have dd : ∀ u, u < 2 ^ (x + 1) → (u + 2 ^ (x + 1) * q) / 2 ^ k = q / 2 ^ (k - x - 1) := by
      intro u hu
      rw [e3, ← Nat.div_div_eq_div_mul, Nat.add_mul_div_left _ _ (Nat.two_pow_pos _), Nat.div_eq_of_lt hu, Nat.zero_add]
    have f1 : s = r + 2 ^ (x + 1) * q := by omega
    have f2 : s + 2 ^ x = (r + 2 ^ x) + 2 ^ (x + 1) * q := by omega
    rw [f2, dd _ (by omega), f1, dd _ (by omega)]
theorem or_add {k l : Nat} (h : btN k l = 0) : k ||| 2 ^ l = k + 2 ^ l := by
  refine Nat.eq_of_testBit_eq (fun i => ?_)
  rw [Nat.testBit_or, Nat.testBit_two_pow]
  have h1 := bt_flip h i
  unfold btN at h1
  rw [Nat.testBit_eq_decide_div_mod_eq, Nat.testBit_eq_decide_div_mod_eq, h1]
  by_cases e : i = l
  · rw [if_pos e, decide_eq_true (show l = i from e.symm)]
    simp
  · rw [if_neg e, decide_eq_false (show ¬ l = i from fun h9 => e h9.symm), Bool.or_false]
theorem cpN_lt {m n : Nat} (hn : n < 32) (hm : m < 2 ^ n) : cpN (pc m) m < biN n (pc m) := by
  rw [← cpN_bi n (pc m) hn]
  have h1 : cpN (pc m) (m + 1) = cpN (pc m) m + 1 := by
    show cpN (pc m) m + (if pc m = pc m then 1 else 0) = _
    rw [if_pos rfl]
  have h2 := cpN_mono (r := pc m) (a := m + 1) (2 ^ n) hm
  omega
/-- the place of a generator -/
theorem ix_lt {ns : Nat → Nat} {dg : Int} {c t m : Nat} (ht : t < 2 ^ c) (hn : ns t ≤ 9) (hm : m < 2 ^ ns t) (hk : kpF (ns t) (pc t) dg = some (pc m)) : smH (bkF ns dg) (pc t) 0 t + cpN (pc m) m < smH (bkF ns dg) (pc t) 0 (2 ^ c) := by
  have h1 := cpN_lt (show ns t < 32 by omega) hm
  have h2 : smH (bkF ns dg) (pc t) 0 (t + 1) = smH (bkF ns dg) (pc t) 0 t + bkF ns dg t := by
    show smH _ _ _ t + (if pc t = pc t then bkF ns dg (0 + t) else 0) = _
    rw [if_pos rfl, Nat.zero_add]
  have h3 := smH_mono (w := bkF ns dg) (h := pc t) (t := 0) (a := t + 1) (2 ^ c) ht
  have h4 : bkF ns dg t = biN (ns t) (pc m) := by
    unfold bkF
    rw [hk]
  omega
/-- how the states are laid out for a degree -/
def LyY (y : ow_MS) (c : Nat) (ns : Nat → Nat) (dg : Int) : Prop := (∀ s, s < 2 ^ c → y.2.1 43007 s = oM (kpF (ns s) (pc s) dg) ∧ y.2.1 43008 s = nI (smH (bkF ns dg) (pc s) 0 s)) ∧ ∀ h, h < 10 → y.2.1 43009 h = nI (smH (bkF ns dg) h 0 (2 ^ c))
theorem LyY_fr {P : Nat → Prop} {y y1 : ow_MS} {c : Nat} {ns : Nat → Nat} {dg : Int} (hf : fr P y y1) (hP : ¬ P 43007 ∧ ¬ P 43008 ∧ ¬ P 43009) (h : LyY y c ns dg) : LyY y1 c ns dg := by
  obtain ⟨h1, h2⟩ := h
  refine ⟨fun s hs => ?_, fun k hk => ?_⟩
  · rw [(hf _ hP.1).2.1, (hf _ hP.2.1).2.1]
    exact h1 s hs
  · rw [(hf _ hP.2.2).2.1]
    exact h2 k hk
theorem tbP_fr {P : Nat → Prop} {y y1 : ow_MS} (hf : fr P y y1) (hP : ¬ P 43005) (h : tbP y) : tbP y1 := fun m hm => by
  rw [(hf _ hP).2.1]
  exact h m hm
section IM2
variable {vl : Nat → Nat} {y : ow_MS} {S : ow_NP} {G : Nat → Int32} {c ci : Nat} {Ls : Nat → Nat → Nat} {ns : Nat → Nat}
theorem tb_flip {s x : Nat} (h : btN s x = 0) : ∀ k, tb (s + 2 ^ x) k = seB (tb s) x true k := by
  intro k
  unfold tb seB
  have := bt_flip h k
  unfold btN at this
  by_cases e : k = x
  · rw [if_pos e] at this ⊢
    rw [this]
    rfl
  · rw [if_neg e] at this ⊢
    rw [this]
theorem u_X1_writeImage_1 {vl : Nat → Nat} {x1 : Int32} {x2 : Int32} {x3 : Int32} {x4 : Int32} {x5 : Int32} {x6 : Int32} {x7 : Int32} {x8 : Int32} {x9 : Int32} {x10 : Int32} {x11 : Int32} {x12 : Int32} {r0 : Nat} {t0 : Int32} {t1 : Int32} {z : ow_MS} {Q : ow_MS → Prop} (H : Tt (fun K k => cm_X1_writeImage_1 vl K (c_X1_writeImage vl K k) x1 x2 x3 x4 x5 x6 x7 x8 x9 x10 x11 x12 r0 t0 t1 z) Q) : Tt (fun K k => c_X1_writeImage vl K k 1 x1 x2 x3 x4 x5 x6 x7 x8 x9 x10 x11 x12 r0 t0 t1 z) Q := w_un (fun _ _ => rfl) H
theorem u_X1_writeImage_8 {vl : Nat → Nat} {x1 : Int32} {x2 : Int32} {x3 : Int32} {x4 : Int32} {x5 : Int32} {x6 : Int32} {x7 : Int32} {x8 : Int32} {x9 : Int32} {x10 : Int32} {x11 : Int32} {x12 : Int32} {r0 : Nat} {t0 : Int32} {t1 : Int32} {z : ow_MS} {Q : ow_MS → Prop} (H : Tt (fun K k => cm_X1_writeImage_8 vl K (c_X1_writeImage vl K k) x1 x2 x3 x4 x5 x6 x7 x8 x9 x10 x11 x12 r0 t0 t1 z) Q) : Tt (fun K k => c_X1_writeImage vl K k 8 x1 x2 x3 x4 x5 x6 x7 x8 x9 x10 x11 x12 r0 t0 t1 z) Q := w_un (fun _ _ => rfl) H
theorem u_X1_writeImage_7 {vl : Nat → Nat} {x1 : Int32} {x2 : Int32} {x3 : Int32} {x4 : Int32} {x5 : Int32} {x6 : Int32} {x7 : Int32} {x8 : Int32} {x9 : Int32} {x10 : Int32} {x11 : Int32} {x12 : Int32} {r0 : Nat} {t0 : Int32} {t1 : Int32} {z : ow_MS} {Q : ow_MS → Prop} (H : Tt (fun K k => cm_X1_writeImage_7 vl K (c_X1_writeImage vl K k) x1 x2 x3 x4 x5 x6 x7 x8 x9 x10 x11 x12 r0 t0 t1 z) Q) : Tt (fun K k => c_X1_writeImage vl K k 7 x1 x2 x3 x4 x5 x6 x7 x8 x9 x10 x11 x12 r0 t0 t1 z) Q := w_un (fun _ _ => rfl) H
theorem u_X1_writeImage_6 {vl : Nat → Nat} {x1 : Int32} {x2 : Int32} {x3 : Int32} {x4 : Int32} {x5 : Int32} {x6 : Int32} {x7 : Int32} {x8 : Int32} {x9 : Int32} {x10 : Int32} {x11 : Int32} {x12 : Int32} {r0 : Nat} {t0 : Int32} {t1 : Int32} {z : ow_MS} {Q : ow_MS → Prop} (H : Tt (fun K k => cm_X1_writeImage_6 vl K (c_X1_writeImage vl K k) x1 x2 x3 x4 x5 x6 x7 x8 x9 x10 x11 x12 r0 t0 t1 z) Q) : Tt (fun K k => c_X1_writeImage vl K k 6 x1 x2 x3 x4 x5 x6 x7 x8 x9 x10 x11 x12 r0 t0 t1 z) Q := w_un (fun _ _ => rfl) H
theorem u_X1_writeImage_5 {vl : Nat → Nat} {x1 : Int32} {x2 : Int32} {x3 : Int32} {x4 : Int32} {x5 : Int32} {x6 : Int32} {x7 : Int32} {x8 : Int32} {x9 : Int32} {x10 : Int32} {x11 : Int32} {x12 : Int32} {r0 : Nat} {t0 : Int32} {t1 : Int32} {z : ow_MS} {Q : ow_MS → Prop} (H : Tt (fun K k => cm_X1_writeImage_5 vl K (c_X1_writeImage vl K k) x1 x2 x3 x4 x5 x6 x7 x8 x9 x10 x11 x12 r0 t0 t1 z) Q) : Tt (fun K k => c_X1_writeImage vl K k 5 x1 x2 x3 x4 x5 x6 x7 x8 x9 x10 x11 x12 r0 t0 t1 z) Q := w_un (fun _ _ => rfl) H
theorem u_X1_writeImage_4 {vl : Nat → Nat} {x1 : Int32} {x2 : Int32} {x3 : Int32} {x4 : Int32} {x5 : Int32} {x6 : Int32} {x7 : Int32} {x8 : Int32} {x9 : Int32} {x10 : Int32} {x11 : Int32} {x12 : Int32} {r0 : Nat} {t0 : Int32} {t1 : Int32} {z : ow_MS} {Q : ow_MS → Prop} (H : Tt (fun K k => cm_X1_writeImage_4 vl K (c_X1_writeImage vl K k) x1 x2 x3 x4 x5 x6 x7 x8 x9 x10 x11 x12 r0 t0 t1 z) Q) : Tt (fun K k => c_X1_writeImage vl K k 4 x1 x2 x3 x4 x5 x6 x7 x8 x9 x10 x11 x12 r0 t0 t1 z) Q := w_un (fun _ _ => rfl) H
theorem u_X1_writeImage_3 {vl : Nat → Nat} {x1 : Int32} {x2 : Int32} {x3 : Int32} {x4 : Int32} {x5 : Int32} {x6 : Int32} {x7 : Int32} {x8 : Int32} {x9 : Int32} {x10 : Int32} {x11 : Int32} {x12 : Int32} {r0 : Nat} {t0 : Int32} {t1 : Int32} {z : ow_MS} {Q : ow_MS → Prop} (H : Tt (fun K k => cm_X1_writeImage_3 vl K (c_X1_writeImage vl K k) x1 x2 x3 x4 x5 x6 x7 x8 x9 x10 x11 x12 r0 t0 t1 z) Q) : Tt (fun K k => c_X1_writeImage vl K k 3 x1 x2 x3 x4 x5 x6 x7 x8 x9 x10 x11 x12 r0 t0 t1 z) Q := w_un (fun _ _ => rfl) H
theorem u_X1_writeImage_2 {vl : Nat → Nat} {x1 : Int32} {x2 : Int32} {x3 : Int32} {x4 : Int32} {x5 : Int32} {x6 : Int32} {x7 : Int32} {x8 : Int32} {x9 : Int32} {x10 : Int32} {x11 : Int32} {x12 : Int32} {r0 : Nat} {t0 : Int32} {t1 : Int32} {z : ow_MS} {Q : ow_MS → Prop} (H : Tt (fun K k => cm_X1_writeImage_2 vl K (c_X1_writeImage vl K k) x1 x2 x3 x4 x5 x6 x7 x8 x9 x10 x11 x12 r0 t0 t1 z) Q) : Tt (fun K k => c_X1_writeImage vl K k 2 x1 x2 x3 x4 x5 x6 x7 x8 x9 x10 x11 x12 r0 t0 t1 z) Q := w_un (fun _ _ => rfl) H
theorem e_X1_writeImage {vl : Nat → Nat} {r0 : Nat} {x1 : Int32} {x2 : Int32} {z : ow_MS} {Q : ow_MS → Prop} (H : Tt (fun K k => c_X1_writeImage vl K k 0 x1 x2 0 0 0 0 0 0 0 0 0 0 r0 0 0 z) Q) : Te (fun K => ce_X1_writeImage vl K r0 x1 x2 z) Q := w_te H
theorem u_X1_writeImage_0 {vl : Nat → Nat} {x1 : Int32} {x2 : Int32} {x3 : Int32} {x4 : Int32} {x5 : Int32} {x6 : Int32} {x7 : Int32} {x8 : Int32} {x9 : Int32} {x10 : Int32} {x11 : Int32} {x12 : Int32} {r0 : Nat} {t0 : Int32} {t1 : Int32} {z : ow_MS} {Q : ow_MS → Prop} (H : Tt (fun K k => cm_X1_writeImage_0 vl K (c_X1_writeImage vl K k) x1 x2 x3 x4 x5 x6 x7 x8 x9 x10 x11 x12 r0 t0 t1 z) Q) : Tt (fun K k => c_X1_writeImage vl K k 0 x1 x2 x3 x4 x5 x6 x7 x8 x9 x10 x11 x12 r0 t0 t1 z) Q := w_un (fun _ _ => rfl) H
theorem tc_writeImage {s m W p : Nat} {dg : Int} {w : Nat → Bool} (hy : cAt y 44000 (c, ci, S, G)) (hv : vn c S) (hc : c ≤ 8) (hw : gaO c S w) (hL : LpY y S G c Ls ns) (hly : LyY y c ns dg) (htb : tbP y) (hs : s < 2 ^ c) (hm : m < 2 ^ ns s) (hk : kpF (ns s) (pc s) dg = some (pc m)) (hW : vl 43011 = W) (hW2 : W < 2 ^ 31) (hsz : smH (bkF ns dg) (pc s + 1) 0 (2 ^ c) ≤ W) (h10 : y.1 43010 = nI p) (hp1 : 2 ≤ p) (hp2 : p ≤ 997) : Te (fun K => ce_X1_writeImage vl K 43000 (nI s) (nI m) y) (fun y1 => fr (fun g => g = 43011) y y1) := by
  let Q : ow_MS → Prop := fun y1 => fr (fun g => g = 43011) y y1
  have h256 : 2 ^ c ≤ 256 := two_mono (b := 8) hc
  have hns := (hL s hs).2
  have hm10 : m < 1024 := Nat.lt_of_lt_of_le hm (two_mono (b := 10) (by omega))
  have c1 : ∀ (d x : Nat) (z : ow_MS), x + d = c → Q z → Tt (fun K k => c_X1_writeImage vl K k 1 (nI s) (nI m) (nI x) 0 0 0 0 0 0 0 0 0 43000 0 0 z) Q := by
    intro d
    induction d with
    | zero =>
      intro x z hx hz
      have hz4 : cAt z 44000 (c, ci, S, G) := cAt_fr hz (fun g hg h9 => by unfold cP at hg; omega) hy
      refine u_X1_writeImage_1 ?_; unfold cm_X1_writeImage_1
      exact w_rdF hz4.1 (w_leT (by show x < 2 ^ 31; omega) (show c ≤ x by omega) (w_some hz))
    | succ d ih =>
      intro x z hx hz
      have hz4 : cAt z 44000 (c, ci, S, G) := cAt_fr hz (fun g hg h9 => by unfold cP at hg; omega) hy
      have hLz : LpY z S G c Ls ns := LpY_fr hz (by decide) hL
      have c8 : ∀ z1, Q z1 → Tt (fun K k => c_X1_writeImage vl K k 8 (nI s) (nI m) (nI x) 0 0 0 0 0 0 0 0 0 43000 0 0 z1) Q := by
        intro z1 hz1
        refine u_X1_writeImage_8 ?_; unfold cm_X1_writeImage_8
        rw [nI_1]
        exact ih (x + 1) z1 (by omega) hz1
      have hxc : x < c := by omega
      by_cases hb : btN s x = 0
      · have ht : s + 2 ^ x < 2 ^ c := st_lt hs hxc hb
        generalize hte : s + 2 ^ x = t at ht
        have hpt : pc t = pc s + 1 := by rw [← hte]; exact pc_add (by omega) hb
        have l1 := (hv (2 * x) (by omega)).2.1
        obtain ⟨⟨s1, s2, s3, s4, s5⟩, s6⟩ := hLz s hs
        obtain ⟨⟨t1, t2, t3, t4, t5⟩, t6⟩ := hLz t ht
        have hbs : tb s x = false := by
          unfold tb
          unfold btN at hb
          rw [hb]
          rfl
        have eT : uPx S G (tb t) c = uPx S G (seB (tb s) x true) c := by
          rw [← hte]
          exact (uPx_c c (fun k _ => tb_flip hb k)).1
        have kind := st_kind (G := G) hv hw hxc hbs
        rw [← eT] at kind
        have labx := lab_x2 (show 2 * x < 2 * c by omega) l1 s4 t4 kind
        have ab : Ls s (2 * x) ≠ Ls s (S.2 (2 * x)) ∧ ns t + 1 = ns s ∨ Ls s (2 * x) = Ls s (S.2 (2 * x)) ∧ ns t = ns s + 1 := by
          rcases kind with k | k
          · refine Or.inl ⟨fun h9 => k.1 ((s4 _ _ (by omega) l1).mp h9), ?_⟩
            have := k.2.2
            omega
          · refine Or.inr ⟨(s4 _ _ (by omega) l1).mpr ((k.2.1 _ _ (by omega) l1).mpr (Or.inr ⟨Or.inl rfl, Or.inr rfl⟩)), ?_⟩
            have := k.2.2
            omega
        have la := (s1 (2 * x) (by omega)).2
        have lb' := (s1 _ l1).2
        have lc := (t1 (2 * x) (by omega)).2
        have le := (t1 _ l1).2
        -- adding at a set of the right size
        have ad : ∀ (z1 : ow_MS) (m' : Nat) (x3 : Int32), Q z1 → m' < 2 ^ ns t → kpF (ns t) (pc t) dg = some (pc m') → Te (fun K => ce_X1_addTo vl K 43000 (nI t) (nI m') x3 z1) Q := by
          intro z1 m' x3 hz1 hm' hk'
          have hm10' : m' < 1024 := Nat.lt_of_lt_of_le hm' (two_mono (b := 10) (by omega))
          have hix := ix_lt ht t6 hm' hk'
          rw [hpt] at hix
          refine w_monoE (tc_addTo (bg := smH (bkF ns dg) (pc t) 0 t) (W := W) (p := p) (by omega) hm10' (tbP_fr hz1 (by decide) htb) ?_ hW hW2 (by rw [hpt]; omega) ?_ hp1 hp2) (fun r hr => fr_tr hz1 hr)
          · rw [(hz1 43008 (by decide)).2.1]
            exact (hly.1 t ht).2
          · rw [(hz1 43010 (by decide)).1]
            exact h10
        have main : ∀ (kp : Nat) (ga : Nat → Nat) (nm : Int32), (∀ l, l < ns t → ga l < 2 * c ∧ Ls t (ga l) = l) → crF m (Ls t (2 * x)) (Ls t (S.2 (2 * x))) (ns t) (fun l => Ls s (ga l)) kp → Tt (fun K k => c_X1_writeImage vl K k 2 (nI s) (nI m) (nI x) (nI t) (nI (Ls s (2 * x))) (nI (Ls s (S.2 (2 * x)))) (nI (Ls t (2 * x))) (nI (Ls t (S.2 (2 * x)))) (nI kp) 0 0 0 43000 nm 0 z) Q := by
          intro kp ga nm hga hkp
          obtain ⟨k1, k2, k3, k4⟩ := hkp
          have hsum := crr_sum (n := ns s) (n' := ns t) (ga := ga) m (show 2 * x < 2 * c by omega) l1 (fun g hg => (s1 g hg).2) (fun g hg => (t1 g hg).2) (fun l hl => by
            obtain ⟨g, g1, -, g3⟩ := s3 l hl
            exact ⟨g, g1, g3⟩) hga labx
          rw [← k2, ← pc_sbt (by omega) hm] at hsum
          have ba : btN m (Ls s (2 * x)) = 0 ∨ btN m (Ls s (2 * x)) = 1 := by unfold btN; omega
          have bb : btN m (Ls s (S.2 (2 * x))) = 0 ∨ btN m (Ls s (S.2 (2 * x))) = 1 := by unfold btN; omega
          have or1 : ∀ l, l < ns t → btN kp l = 0 → nI kp ||| ((1 : Int32) <<< (nI l &&& 31)) = nI (kp + 2 ^ l) := by
            intro l hl hbl
            have h9 : 2 ^ l ≤ 2 ^ 9 := two_mono (by omega)
            have h9' : kp < 2 ^ 9 := Nat.lt_of_lt_of_le k1 (two_mono t6)
            rw [shl1 (by omega), ow_or (by omega) (by omega), or_add hbl]
          have add1 : ∀ l, l < ns t → btN kp l = 0 → kp + 2 ^ l < 2 ^ ns t ∧ pc (kp + 2 ^ l) = pc kp + 1 := fun l hl hbl => ⟨add_lt k1 hl hbl, pc_add (by omega) hbl⟩
          have c7 : ∀ (m' : Nat) (x5 x6 x7 x8 x9 x10 x11 x12 : Int32), m' < 2 ^ ns t → kpF (ns t) (pc t) dg = some (pc m') → Tt (fun K k => c_X1_writeImage vl K k 7 (nI s) (nI m) (nI x) (nI t) x5 x6 x7 x8 x9 x10 x11 x12 43000 (nI m') (nI t) z) Q := by
            intro m' x5 x6 x7 x8 x9 x10 x11 x12 hm' hk'
            refine u_X1_writeImage_7 ?_; unfold cm_X1_writeImage_7
            exact w_cs0 (ad z m' x10 hz hm' hk') (fun z1 h1 => c8 z1 h1)
          -- both bits known
          have c4 : ∀ (fa fb : Nat), fa = btN m (Ls s (2 * x)) → fb = btN m (Ls s (S.2 (2 * x))) → Tt (fun K k => c_X1_writeImage vl K k 4 (nI s) (nI m) (nI x) (nI t) (nI (Ls s (2 * x))) (nI (Ls s (S.2 (2 * x)))) (nI (Ls t (2 * x))) (nI (Ls t (S.2 (2 * x)))) (nI kp) nm (nI fa) 0 43000 (nI fb) 0 z) Q := by
            intro fa fb hfa hfb
            have fa01 : fa = 0 ∨ fa = 1 := by omega
            have fb01 : fb = 0 ∨ fb = 1 := by omega
            rcases ab with ⟨hne, hn1⟩ | ⟨heq, hn1⟩
            · -- two loops become one
              rw [if_neg hne, ← hfa, ← hfb] at hsum
              rw [← hn1] at hk
              have c5 : 1 ≤ fa + fb → Tt (fun K k => c_X1_writeImage vl K k 5 (nI s) (nI m) (nI x) (nI t) (nI (Ls s (2 * x))) (nI (Ls s (S.2 (2 * x)))) (nI (Ls t (2 * x))) (nI (Ls t (S.2 (2 * x)))) (nI kp) nm (nI fa) (nI fb) 43000 0 0 z) Q := by
                intro hab
                have hkt : kpF (ns t) (pc t) dg = some (pc m - 1) := by
                  rw [hpt]
                  refine kpF_m ?_
                  rw [hk]
                  exact congrArg some (by omega)
                have c6 : fa + fb = 1 → Tt (fun K k => c_X1_writeImage vl K k 6 (nI s) (nI m) (nI x) (nI t) (nI (Ls s (2 * x))) (nI (Ls s (S.2 (2 * x)))) (nI (Ls t (2 * x))) (nI (Ls t (S.2 (2 * x)))) (nI kp) nm (nI fa) (nI fb) 43000 (nI t) 0 z) Q := by
                  intro h1
                  refine u_X1_writeImage_6 ?_; unfold cm_X1_writeImage_6
                  exact c7 kp _ _ _ _ _ _ _ _ k1 (by rw [hkt]; exact congrArg some (by omega))
                refine u_X1_writeImage_5 ?_; unfold cm_X1_writeImage_5
                rcases fa01 with h9 | h9
                · exact w_ifT (by rw [h9]; rfl) (c6 (by omega))
                · refine w_ifF (by rw [h9]; decide) ?_
                  rcases fb01 with h8 | h8
                  · exact w_ifT (by rw [h8]; rfl) (c6 (by omega))
                  · refine w_ifF (by rw [h8]; decide) ?_
                    rw [or1 _ lc k3]
                    obtain ⟨d1, d2⟩ := add1 _ lc k3
                    exact c7 _ _ _ _ _ _ _ _ _ d1 (by rw [hkt, d2]; exact congrArg some (by omega))
              refine u_X1_writeImage_4 ?_; unfold cm_X1_writeImage_4
              refine w_ifF (fun h9 => hne (nI_inj9 (by omega) (by omega) h9)) ?_
              rcases fa01 with h9 | h9
              · refine w_ifT (by rw [h9]; rfl) ?_
                rcases fb01 with h8 | h8
                · exact w_ifT (by rw [h8]; rfl) (c8 z hz)
                · exact w_ifF (by rw [h8]; decide) (c5 (by omega))
              · exact w_ifF (by rw [h9]; decide) (c5 (by omega))
            · -- one loop becomes two
              rw [if_pos heq, ← hfa] at hsum
              have hkt : kpF (ns t) (pc t) dg = some (pc m) := by
                rw [hpt, hn1]
                exact kpF_s hk
              refine u_X1_writeImage_4 ?_; unfold cm_X1_writeImage_4
              refine w_ifT (by rw [heq]) ?_
              rcases fa01 with h9 | h9
              · exact w_ifT (by rw [h9]; rfl) (w_cs0 (ad z kp nm hz k1 (by rw [hkt]; exact congrArg some (by omega))) (fun z1 h1 => c8 z1 h1))
              · refine w_ifF (by rw [h9]; decide) ?_
                rw [or1 _ lc k3, or1 _ le k4]
                obtain ⟨d1, d2⟩ := add1 _ lc k3
                obtain ⟨d3, d4⟩ := add1 _ le k4
                exact w_cs0 (ad z _ nm hz d1 (by rw [hkt, d2]; exact congrArg some (by omega))) (fun z1 h1 => w_cs0 (ad z1 _ nm h1 d3 (by rw [hkt, d4]; exact congrArg some (by omega))) (fun z2 h2 => c8 z2 h2))
          have c3 : ∀ fa : Nat, fa = btN m (Ls s (2 * x)) → Tt (fun K k => c_X1_writeImage vl K k 3 (nI s) (nI m) (nI x) (nI t) (nI (Ls s (2 * x))) (nI (Ls s (S.2 (2 * x)))) (nI (Ls t (2 * x))) (nI (Ls t (S.2 (2 * x)))) (nI kp) nm 0 0 43000 (nI fa) 0 z) Q := by
            intro fa hfa
            refine u_X1_writeImage_3 ?_; unfold cm_X1_writeImage_3
            rw [crS hm10 (by omega)]
            rcases bb with h9 | h9
            · exact w_ifT (by rw [h9]; rfl) (c4 fa 0 hfa h9.symm)
            · exact w_ifF (by rw [h9]; decide) (c4 fa 1 hfa h9.symm)
          refine u_X1_writeImage_2 ?_; unfold cm_X1_writeImage_2
          rw [crS hm10 (by omega)]
          rcases ba with h9 | h9
          · exact w_ifT (by rw [h9]; rfl) (c3 0 h9.symm)
          · exact w_ifF (by rw [h9]; decide) (c3 1 h9.symm)
        have eor : nI s ||| ((1 : Int32) <<< (nI x &&& 31)) = nI t := by
          rw [← hte]
          exact st_or (by omega) (by omega) hb
        refine u_X1_writeImage_1 ?_; unfold cm_X1_writeImage_1
        rw [bit_nI (by omega) (by omega), hb, eor, rn_mul2, i16, i16]
        refine w_rdF hz4.1 (w_leF (show c < 2 ^ 31 by omega) (show x < c by omega) (w_ifT rfl (w_crI ch_43002 rfl (by omega) (s1 (2 * x) (by omega)).1 (w_cs1 (tc_otherLoop hz4 hv hc hLz hs hxc) ?_))))
        rintro v1 z1 e1
        cases e1
        refine w_crI ch_43002 rfl (by omega) (t1 (2 * x) (by omega)).1 (w_cs1 (tc_otherLoop hz4 hv hc hLz ht hxc) ?_)
        rintro v2 z2 e2
        cases e2
        refine w_cs1 (tc_carry hc hLz hs ht hm10 (show Ls t (2 * x) < 10 by omega) (show Ls t (S.2 (2 * x)) < 10 by omega)) ?_
        rintro v3 z3 ⟨e3, kp, ga, q1, q2, q3⟩
        dsimp only at e3 q2
        rw [e3, q2]
        exact w_if (fun _ => main kp ga _ q1 q3) (fun _ => w_rdF rfl (main kp ga _ q1 q3))
      · have hb1 : btN s x = 1 := by unfold btN at hb ⊢; omega
        refine u_X1_writeImage_1 ?_; unfold cm_X1_writeImage_1
        rw [bit_nI (by omega) (by omega), hb1]
        exact w_rdF hz4.1 (w_leF (show c < 2 ^ 31 by omega) (show x < c by omega) (w_ifF (by decide) (c8 z hz)))
  refine e_X1_writeImage ?_
  refine u_X1_writeImage_0 ?_; unfold cm_X1_writeImage_0
  exact c1 c 0 y (by omega) fr_rf
end IM2
end
section
/-! 99zzzzzzzo.cdv -/
/-! the class: rows that grow -/
def gQ {α : Type} (vl : Nat → Nat) (Q : α × (Nat → Nat) × ow_MS → Prop) : α × (Nat → Nat) × ow_MS → Prop := fun r => dPhi vl ≤ dPhi r.2.1 ∧ Q r
section DV
variable {α O : Type} {vl v : Nat → Nat} {z : ow_MS}
theorem w_chV {E : Nat → Nat → Option (α × (Nat → Nat) × ow_MS)} {Q : α × (Nat → Nat) × ow_MS → Prop} (h : dPhi vl ≤ dPhi v) (H : Tt E (gQ v Q)) : Tt (fun K k => chV v (E K k)) (gQ vl Q) := by
  obtain ⟨r, ⟨b, hb⟩, h1, h2⟩ := H
  refine ⟨r, ⟨b, fun K k hK hk => ?_⟩, Nat.le_trans h h1, h2⟩
  show chV v (E K k) = some r
  rw [hb K k hK hk]
  show (if dPhi v ≤ dPhi r.2.1 then some r else none) = some r
  rw [if_pos h1]
theorem w_dc1 {f : Nat → Option (α × (Nat → Nat) × ow_MS)} {R : α × (Nat → Nat) × ow_MS → Prop} {Q : O → Prop} {E : α → (Nat → Nat) → ow_MS → Nat → Nat → Option O} (hc : Te f R) (H : ∀ a w z1, R (a, w, z1) → Tt (E a w z1) Q) : Tt (fun K k => dc1 (f K) (fun a w z => E a w z K k)) Q := by
  obtain ⟨⟨a, w, z1⟩, ⟨b, hb⟩, h1⟩ := hc
  obtain ⟨r, ⟨b2, hb2⟩, h2⟩ := H a w z1 h1
  refine ⟨r, ⟨max b b2, fun K k hK hk => ?_⟩, h2⟩
  show dc1 (f K) _ = some r
  rw [hb K (by omega)]
  exact hb2 K k (by omega) (by omega)
theorem nI_nat {n : Nat} (h : n < 2 ^ 31) : (nI n).toNatClampNeg = n := by
  have := nI_toInt h
  show (nI n).toInt.toNat = n
  rw [this]
  omega
theorem w_nwR {E : (Nat → Nat) → ow_MS → Nat → Nat → Option O} {Q : O → Prop} {h n : Nat} (h1 : n ≤ 100000000) (h2 : 2 * vl h ≤ n) (h3 : vl h + 640 ≤ n) (H : Tt (E (usV vl h n) (usR z h (fun _ => 0))) Q) : Tt (fun K k => nwR vl z h (nI n) (fun w z1 => E w z1 K k)) Q := by
  have e := nI_nat (n := n) (by omega)
  have h0 : ¬ nI n < 0 := nI_nlt (b := 0) (Nat.zero_le _) (by omega)
  unfold nwR
  rw [e]
  refine w_ifF (fun h9 => ?_) H
  rcases h9 with h9 | h9
  · exact h0 h9
  · omega
theorem w_cpR {E : (Nat → Nat) → ow_MS → Nat → Nat → Option O} {Q : O → Prop} {h n : Nat} (h1 : n ≤ 100000000) (h2 : 2 * vl h ≤ n) (h3 : vl h + 640 ≤ n) (H : Tt (E (usV vl h n) (usR z h (va_cpy (z.2.1 h) (fun _ => 0) 0 0 (vl h)))) Q) : Tt (fun K k => cpR vl z h (nI n) (fun w z1 => E w z1 K k)) Q := by
  have e := nI_nat (n := n) (by omega)
  have h0 : ¬ nI n < 0 := nI_nlt (b := 0) (Nat.zero_le _) (by omega)
  unfold cpR
  rw [e]
  refine w_ifF (fun h9 => ?_) H
  rcases h9 with h9 | h9
  · exact h0 h9
  · omega
theorem dPhi_u2 {h n : Nat} (hh : h ∈ dynL) (hn : v h ≤ n) : dPhi v ≤ dPhi (usV v h n) := by
  unfold dynL at hh
  simp only [List.mem_cons, List.not_mem_nil, or_false] at hh
  unfold dPhi usV
  rcases hh with rfl | rfl | rfl | rfl | rfl | rfl <;> simp <;> omega
/-- the lengths of the rows that grow -/
def vI (v : Nat → Nat) (W C : Nat) : Prop := v 43011 = W ∧ v 43012 = W ∧ v 43013 = W ∧ v 43014 = W ∧ v 43015 = C ∧ v 43016 = C ∧ 640 ≤ W ∧ W ≤ 2280 ∧ 20000 ≤ C ∧ C ≤ 1303020
theorem vI_phi {W C : Nat} (h : vI v W C) : dPhi v = 4 * W + 2 * C := by
  obtain ⟨h1, h2, h3, h4, h5, h6, -⟩ := h
  unfold dPhi
  omega
end DV
section DV2
variable {vl : Nat → Nat} {y : ow_MS} {W C : Nat}
theorem e_X1_makeRoom {r0 : Nat} {x1 : Int32} {vl : Nat → Nat} {z : ow_MS} {Q : (Unit × (Nat → Nat) × ow_MS) → Prop} (H : Tt (fun K k => d_X1_makeRoom K k 0 x1 r0 vl z) Q) : Te (fun K => de_X1_makeRoom K r0 x1 vl z) Q := w_te H
theorem u_X1_makeRoom_0 {x1 : Int32} {r0 : Nat} {vl : Nat → Nat} {z : ow_MS} {Q : (Unit × (Nat → Nat) × ow_MS) → Prop} (H : Tt (fun K k => dm_X1_makeRoom_0 K (d_X1_makeRoom K k) x1 r0 vl z) (gQ vl Q)) : Tt (fun K k => d_X1_makeRoom K k 0 x1 r0 vl z) (gQ vl Q) := w_un (fun _ _ => rfl) (w_chV (Nat.le_refl _) H)
theorem tc_makeRoom {n : Nat} (hv : vI vl W C) (hn : n ≤ 1140) : Te (fun K => de_X1_makeRoom K 43000 (nI n) vl y) (gQ vl (fun r => fr (fun g => g = 43011 ∨ g = 43012 ∨ g = 43013 ∨ g = 43014) y r.2.2 ∧ ∃ W', vI r.2.1 W' C ∧ W ≤ W' ∧ n ≤ W')) := by
  obtain ⟨h1, h2, h3, h4, h5, h6, h7, h8, h9, h10⟩ := hv
  refine e_X1_makeRoom ?_
  refine u_X1_makeRoom_0 ?_; unfold dm_X1_makeRoom_0
  rw [show uw_len (cX vl) y (43000 + 11) = W from ch_43011.trans h1]
  refine w_le (a := n) (b := W) (by omega) (by omega) (fun hle => w_some ⟨Nat.le_refl _, fr_rf, W, ⟨h1, h2, h3, h4, h5, h6, h7, h8, h9, h10⟩, Nat.le_refl _, hle⟩) (fun hlt => ?_)
  have p1 : ∀ v : Nat → Nat, ∀ h, h ∈ dynL → v h = W → dPhi v ≤ dPhi (usV v h (2 * n)) := fun v h hh e => dPhi_u2 hh (by omega)
  rw [rn_mul2]
  have q1 := p1 vl 43011 (by decide) h1
  have q2 := p1 (usV vl 43011 (2 * n)) 43012 (by decide) h2
  have q3 := p1 (usV (usV vl 43011 (2 * n)) 43012 (2 * n)) 43013 (by decide) h3
  have q4 := p1 (usV (usV (usV vl 43011 (2 * n)) 43012 (2 * n)) 43013 (2 * n)) 43014 (by decide) h4
  refine w_nwR (h := 43011) (by omega) (by omega) (by omega) (w_chV q1 ?_)
  refine w_nwR (h := 43012) (by omega) (by show 2 * vl 43012 ≤ _; omega) (by show vl 43012 + 640 ≤ _; omega) (w_chV q2 ?_)
  refine w_nwR (h := 43013) (by omega) (by show 2 * vl 43013 ≤ _; omega) (by show vl 43013 + 640 ≤ _; omega) (w_chV q3 ?_)
  refine w_nwR (h := 43014) (by omega) (by show 2 * vl 43014 ≤ _; omega) (by show vl 43014 + 640 ≤ _; omega) (w_chV q4 ?_)
  refine w_some ⟨Nat.le_refl _, fr_R2 (fr_R2 (fr_R2 (fr_R2 fr_rf (Or.inl rfl)) (Or.inr (Or.inl rfl))) (Or.inr (Or.inr (Or.inl rfl)))) (Or.inr (Or.inr (Or.inr rfl))), 2 * n, ⟨rfl, rfl, rfl, rfl, h5, h6, by omega, by omega, h9, h10⟩, by omega, by omega⟩
theorem u_X1_reciprocal_1 {vl : Nat → Nat} {x1 : Int32} {x2 : Int32} {x3 : Int32} {x4 : Int32} {r0 : Nat} {t0 : Int32} {z : ow_MS} {Q : (Int32 × ow_MS) → Prop} (H : Tt (fun K k => cm_X1_reciprocal_1 vl K (c_X1_reciprocal vl K k) x1 x2 x3 x4 r0 t0 z) Q) : Tt (fun K k => c_X1_reciprocal vl K k 1 x1 x2 x3 x4 r0 t0 z) Q := w_un (fun _ _ => rfl) H
theorem u_X1_reciprocal_2 {vl : Nat → Nat} {x1 : Int32} {x2 : Int32} {x3 : Int32} {x4 : Int32} {r0 : Nat} {t0 : Int32} {z : ow_MS} {Q : (Int32 × ow_MS) → Prop} (H : Tt (fun K k => cm_X1_reciprocal_2 vl K (c_X1_reciprocal vl K k) x1 x2 x3 x4 r0 t0 z) Q) : Tt (fun K k => c_X1_reciprocal vl K k 2 x1 x2 x3 x4 r0 t0 z) Q := w_un (fun _ _ => rfl) H
theorem e_X1_reciprocal {vl : Nat → Nat} {r0 : Nat} {x1 : Int32} {z : ow_MS} {Q : (Int32 × ow_MS) → Prop} (H : Tt (fun K k => c_X1_reciprocal vl K k 0 x1 0 0 0 r0 0 z) Q) : Te (fun K => ce_X1_reciprocal vl K r0 x1 z) Q := w_te H
theorem u_X1_reciprocal_0 {vl : Nat → Nat} {x1 : Int32} {x2 : Int32} {x3 : Int32} {x4 : Int32} {r0 : Nat} {t0 : Int32} {z : ow_MS} {Q : (Int32 × ow_MS) → Prop} (H : Tt (fun K k => cm_X1_reciprocal_0 vl K (c_X1_reciprocal vl K k) x1 x2 x3 x4 r0 t0 z) Q) : Tt (fun K k => c_X1_reciprocal vl K k 0 x1 x2 x3 x4 r0 t0 z) Q := w_un (fun _ _ => rfl) H
theorem tc_reciprocal {p : Nat} {x : Int32} (h10 : y.1 43010 = nI p) (hp1 : 2 ≤ p) (hp2 : p ≤ 997) : Te (fun K => ce_X1_reciprocal vl K 43000 x y) (fun r => r.2 = y) := by
  have hnz : nI p ≠ 0 := fun h9 => by
    have := (nI_eq (a := p) (b := 0) (by omega) (by omega)).mp h9
    omega
  have hsh : ∀ l : Fin 1024, nI l.val >>> ((1 : Int32) &&& 31) = nI (l.val / 2) := by decide +kernel
  have c1 : ∀ (d l : Nat) (x2 x3 : Int32), l ≤ d → l < 1024 → Tt (fun K k => c_X1_reciprocal vl K k 1 x x2 x3 (nI l) 43000 0 y) (fun r => r.2 = y) := by
    intro d
    induction d with
    | zero =>
      intro l x2 x3 hl _
      refine u_X1_reciprocal_1 ?_; unfold cm_X1_reciprocal_1
      exact w_leT (b := 0) (by omega) hl (w_some rfl)
    | succ d ih =>
      intro l x2 x3 hl h1
      refine u_X1_reciprocal_1 ?_; unfold cm_X1_reciprocal_1
      refine w_le (b := 0) (by omega) (by omega) (fun _ => w_some rfl) (fun hlt => ?_)
      have c2 : ∀ t0 : Int32, Tt (fun K k => c_X1_reciprocal vl K k 2 x x2 x3 (nI l) 43000 t0 y) (fun r => r.2 = y) := by
        intro t0
        refine u_X1_reciprocal_2 ?_; unfold cm_X1_reciprocal_2
        rw [hsh ⟨l, h1⟩]
        exact w_rdF h10 (w_nzI hnz (ih (l / 2) _ _ (by omega) (by omega)))
      exact w_if (fun _ => w_rdF h10 (w_nzI hnz (c2 _))) (fun _ => c2 _)
  refine e_X1_reciprocal ?_
  refine u_X1_reciprocal_0 ?_; unfold cm_X1_reciprocal_0
  refine w_rdF h10 ?_
  rw [show nI p - 2 = nI (p - 2) from pk_sub (b := 2) hp1]
  exact c1 _ _ _ _ (Nat.le_refl _) (by omega)
theorem u_X1_addCircle_2 {vl : Nat → Nat} {x1 : Int32} {x2 : Int32} {x3 : Int32} {x4 : Int32} {x5 : Int32} {r0 : Nat} {t0 : Int32} {z : ow_MS} {Q : ow_MS → Prop} (H : Tt (fun K k => cm_X1_addCircle_2 vl K (c_X1_addCircle vl K k) x1 x2 x3 x4 x5 r0 t0 z) Q) : Tt (fun K k => c_X1_addCircle vl K k 2 x1 x2 x3 x4 x5 r0 t0 z) Q := w_un (fun _ _ => rfl) H
theorem u_X1_addCircle_3 {vl : Nat → Nat} {x1 : Int32} {x2 : Int32} {x3 : Int32} {x4 : Int32} {x5 : Int32} {r0 : Nat} {t0 : Int32} {z : ow_MS} {Q : ow_MS → Prop} (H : Tt (fun K k => cm_X1_addCircle_3 vl K (c_X1_addCircle vl K k) x1 x2 x3 x4 x5 r0 t0 z) Q) : Tt (fun K k => c_X1_addCircle vl K k 3 x1 x2 x3 x4 x5 r0 t0 z) Q := w_un (fun _ _ => rfl) H
theorem u_X1_addCircle_1 {vl : Nat → Nat} {x1 : Int32} {x2 : Int32} {x3 : Int32} {x4 : Int32} {x5 : Int32} {r0 : Nat} {t0 : Int32} {z : ow_MS} {Q : ow_MS → Prop} (H : Tt (fun K k => cm_X1_addCircle_1 vl K (c_X1_addCircle vl K k) x1 x2 x3 x4 x5 r0 t0 z) Q) : Tt (fun K k => c_X1_addCircle vl K k 1 x1 x2 x3 x4 x5 r0 t0 z) Q := w_un (fun _ _ => rfl) H
theorem e_X1_addCircle {vl : Nat → Nat} {r0 : Nat} {z : ow_MS} {Q : ow_MS → Prop} (H : Tt (fun K k => c_X1_addCircle vl K k 0 0 0 0 0 0 r0 0 z) Q) : Te (fun K => ce_X1_addCircle vl K r0 z) Q := w_te H
theorem u_X1_addCircle_0 {vl : Nat → Nat} {x1 : Int32} {x2 : Int32} {x3 : Int32} {x4 : Int32} {x5 : Int32} {r0 : Nat} {t0 : Int32} {z : ow_MS} {Q : ow_MS → Prop} (H : Tt (fun K k => cm_X1_addCircle_0 vl K (c_X1_addCircle vl K k) x1 x2 x3 x4 x5 r0 t0 z) Q) : Tt (fun K k => c_X1_addCircle vl K k 0 x1 x2 x3 x4 x5 r0 t0 z) Q := w_un (fun _ _ => rfl) H
theorem tc_addCircle : Te (fun K => ce_X1_addCircle vl K 43000 y) (fun y1 => fr (fun g => g = 43018) y y1) := by
  let Q : ow_MS → Prop := fun y1 => fr (fun g => g = 43018) y y1
  have c2 : ∀ (o : Nat), o ≤ 8 → (∀ z, Q z → Tt (fun K k => c_X1_addCircle vl K k 1 (nI (o + 1)) 0 0 0 0 43000 0 z) Q) → ∀ (d q : Nat) (x3 : Int32) (z : ow_MS), q + d = 56 → Q z → Tt (fun K k => c_X1_addCircle vl K k 2 (nI o) (nI (56 * o)) x3 (nI q) 0 43000 0 z) Q := by
    intro o ho hnext d
    induction d with
    | zero =>
      intro q x3 z hq hz
      refine u_X1_addCircle_2 ?_; unfold cm_X1_addCircle_2
      refine w_leT (a := 56) (b := q) (by omega) (by omega) ?_
      rw [nI_1]
      exact hnext z hz
    | succ d ih =>
      intro q x3 z hq hz
      have c3 : ∀ x5 t0 : Int32, Tt (fun K k => c_X1_addCircle vl K k 3 (nI o) (nI (56 * o)) x3 (nI q) x5 43000 t0 z) Q := by
        intro x5 t0
        refine u_X1_addCircle_3 ?_; unfold cm_X1_addCircle_3
        rw [nI_add, nI_1]
        exact w_ctI ch_43018 rfl (by omega) (ih (q + 1) _ _ (by omega) (fr_I2 hz rfl))
      refine u_X1_addCircle_2 ?_; unfold cm_X1_addCircle_2
      rw [nI_add, nI_1 q]
      exact w_leF (a := 56) (b := q) (by omega) (by omega) (w_crI ch_43018 rfl (by omega) rfl (w_le (a := 56) (b := q + 1) (by omega) (by omega) (fun _ => c3 _ _) (fun h9 => w_crI ch_43018 (nI_1 _) (by omega) rfl (c3 _ _))))
  have c1 : ∀ (d o : Nat) (z : ow_MS), o + d = 9 → Q z → Tt (fun K k => c_X1_addCircle vl K k 1 (nI o) 0 0 0 0 43000 0 z) Q := by
    intro d
    induction d with
    | zero =>
      intro o z ho hz
      refine u_X1_addCircle_1 ?_; unfold cm_X1_addCircle_1
      exact w_ltT (a := 8) (b := o) (by omega) (by omega) (w_some hz)
    | succ d ih =>
      intro o z ho hz
      refine u_X1_addCircle_1 ?_; unfold cm_X1_addCircle_1
      refine w_ltF (a := 8) (b := o) (by omega) (by omega) ?_
      rw [show nI o * 56 = nI (56 * o) from (Int32.mul_comm _ _).trans (pk_mul 56 o)]
      exact c2 o (by omega) (fun z1 h1 => ih (o + 1) z1 (by omega) h1) 56 0 _ z (by omega) hz
  refine e_X1_addCircle ?_
  refine u_X1_addCircle_0 ?_; unfold cm_X1_addCircle_0
  exact c1 9 0 y (by omega) fr_rf
theorem u_X11_isPrime_1 {vl : Nat → Nat} {x0 : Int32} {x1 : Int32} {z : ow_MS} {Q : (Int32 × ow_MS) → Prop} (H : Tt (fun K k => cm_X11_isPrime_1 vl K (c_X11_isPrime vl K k) x0 x1 z) Q) : Tt (fun K k => c_X11_isPrime vl K k 1 x0 x1 z) Q := w_un (fun _ _ => rfl) H
theorem e_X11_isPrime {vl : Nat → Nat} {x0 : Int32} {z : ow_MS} {Q : (Int32 × ow_MS) → Prop} (H : Tt (fun K k => c_X11_isPrime vl K k 0 x0 0 z) Q) : Te (fun K => ce_X11_isPrime vl K x0 z) Q := w_te H
theorem u_X11_isPrime_0 {vl : Nat → Nat} {x0 : Int32} {x1 : Int32} {z : ow_MS} {Q : (Int32 × ow_MS) → Prop} (H : Tt (fun K k => cm_X11_isPrime_0 vl K (c_X11_isPrime vl K k) x0 x1 z) Q) : Tt (fun K k => c_X11_isPrime vl K k 0 x0 x1 z) Q := w_un (fun _ _ => rfl) H
theorem tc_isPrime {p : Nat} (hp2 : 2 ≤ p) (hp9 : p ≤ 997) : Te (fun K => ce_X11_isPrime vl K (nI p) y) (fun r => r.2 = y ∧ (r.1 = 1 ∧ prT p ∨ r.1 = 0 ∧ ¬ prT p)) := by
  let Q : Int32 × ow_MS → Prop := fun r => r.2 = y ∧ (r.1 = 1 ∧ prT p ∨ r.1 = 0 ∧ ¬ prT p)
  have key : ∀ (d k : Nat), k + d = 32 → 2 ≤ k → (∀ j, 2 ≤ j → j < k → p % j ≠ 0) → Tt (fun K i => c_X11_isPrime vl K i 1 (nI p) (nI k) y) Q := by
    intro d
    induction d with
    | zero =>
      intro k hk hk2 hall
      have hk : k = 32 := by omega
      subst hk
      refine u_X11_isPrime_1 ?_; unfold cm_X11_isPrime_1
      rw [pk_mul]
      refine w_ltT (by omega) (by omega) (w_okZ (Or.inr rfl) (w_some ⟨rfl, Or.inl ⟨rfl, hp2, fun j hj hjj => hall j hj ?_⟩⟩))
      rcases Nat.lt_or_ge j 32 with h8 | h8
      · exact h8
      · have := Nat.mul_le_mul h8 h8
        omega
    | succ d ih =>
      intro k hk hk2 hall
      have hkk : k * k ≤ 1024 := Nat.mul_le_mul (show k ≤ 32 by omega) (show k ≤ 32 by omega)
      refine u_X11_isPrime_1 ?_; unfold cm_X11_isPrime_1
      rw [pk_mul, pk_rem (by omega) (by omega) (by omega)]
      refine w_lt (by omega) (by omega) (fun hlt => w_okZ (Or.inr rfl) (w_some ⟨rfl, Or.inl ⟨rfl, hp2, fun j hj hjj => hall j hj ?_⟩⟩)) (fun hge => w_nzI (fun e => by have := (nI_eq (a := k) (b := 0) (by omega) (by omega)).mp e; omega) ?_)
      · rcases Nat.lt_or_ge j k with h8 | h8
        · exact h8
        · have := Nat.mul_le_mul h8 h8
          omega
      · have hm : p % k < k := Nat.mod_lt _ (by omega)
        refine w_eqN (a := p % k) (b := 0) (by omega) (by omega) (fun h0 => w_okZ (Or.inl rfl) (w_some ⟨rfl, Or.inr ⟨rfl, fun h9 => h9.2 k hk2 hge h0⟩⟩)) (fun h0 => ?_)
        rw [nI_1]
        refine ih (k + 1) (by omega) (by omega) (fun j hj hjk => ?_)
        rcases Nat.lt_or_ge j k with h8 | h8
        · exact hall j hj h8
        · rw [show j = k by omega]
          exact h0
  refine e_X11_isPrime ?_
  refine u_X11_isPrime_0 ?_; unfold cm_X11_isPrime_0
  exact key 30 2 rfl (by omega) (fun j h1 h2 => by omega)
end DV2
end
