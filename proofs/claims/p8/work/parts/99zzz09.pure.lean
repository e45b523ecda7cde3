section
/-! 99zzzzzzzk.cst -/
/-! the class: what becomes of the loops when one choice changes -/
/-- visits in two kinds, by turns along the rows, and unlike at each crossing -/
def gaO (c : Nat) (S : ow_NP) (w : Nat → Bool) : Prop := ∀ v, v < 2 * c → w (S.1 v) = !w v ∧ w (mt v) = !w v
def gaT (c : Nat) (S : ow_NP) : Prop := ∃ w, gaO c S w
section CST
variable {S : ow_NP} {G : Nat → Int32} {b : Nat → Bool} {c : Nat}
/-- all crossings but x are joined -/
def uPz (S : ow_NP) (G : Nat → Int32) (b : Nat → Bool) (x : Nat) : Nat → Nat → Nat
  | 0 => fun g => g
  | k + 1 => if k = x then uPz S G b x k else uPs S G b k (uPz S G b x k)
theorem uPz_dn {x : Nat} : ∀ k, dn (uPz S G b x k)
  | 0 => fun _ => Nat.le_refl _
  | k + 1 => by
    unfold uPz
    split
    · exact uPz_dn k
    · exact un_dn (un_dn (uPz_dn k))
def acZ (c x k : Nat) : Nat → Prop := fun e => e < 4 * c ∧ (4 * k ≤ e ∨ e / 4 = x)
/-- the ends at x are two and two the ends of paths, over against under -/
theorem uPz_ti {w : Nat → Bool} {x : Nat} (hv : vn c S) (hw : gaO c S w) (hx : x < c) : ∀ k, k ≤ c → ∃ p, tiI S p (acZ c x k) (uPz S G b x k) ∧ (∀ e, acZ c x k e → w (p e / 2) = !w (e / 2)) ∧ rtsN (uPz S G b x k) (2 * c) ≤ 2 * c
  | 0, _ => by
    have h0 := p0E_ti (G := G) (b := b) hv
    have e0 : acZ c x 0 = opA c 0 := by
      funext e
      unfold acZ opA
      apply propext
      omega
    refine ⟨p0E S, ?_, fun e he => ?_, ?_⟩
    · rw [e0]
      exact h0
    · have he := he.1
      obtain ⟨v1, v2, v3, v4⟩ := hv (e / 2) (by omega)
      unfold p0E
      split
      · rw [show (2 * S.1 (e / 2) + 1) / 2 = S.1 (e / 2) by omega]
        exact (hw _ (by omega)).1
      · rw [show (2 * S.2 (e / 2)) / 2 = S.2 (e / 2) by omega]
        have := (hw _ v2).1
        rw [v4] at this
        rw [this]
        cases w (S.2 (e / 2)) <;> rfl
    · have := rtsN_id (S := S) (G := G) (b := b) (2 * c)
      exact Nat.le_of_eq this
  | k + 1, hk => by
    obtain ⟨p, h1, h2, h3⟩ := uPz_ti hv hw hx k (by omega)
    by_cases e : k = x
    · have ez : uPz S G b x (k + 1) = uPz S G b x k := by
        show (if k = x then _ else _) = _
        rw [if_pos e]
      have ea : acZ c x (k + 1) = acZ c x k := by
        funext d
        unfold acZ
        apply propext
        omega
      rw [ez, ea]
      exact ⟨p, h1, h2, h3⟩
    · have ez : uPz S G b x (k + 1) = uPs S G b k (uPz S G b x k) := by
        show (if k = x then _ else _) = _
        rw [if_neg e]
      have m0 : mt (2 * k) = 2 * k + 1 := by unfold mt; rw [if_pos (by omega)]
      have hwk := (hw (2 * k) (by omega)).2
      rw [m0] at hwk
      have A0 : acZ c x k (4 * k + 1) := ⟨by omega, by omega⟩
      have A1 : acZ c x k (toI G b k) := by unfold toI acZ; split <;> omega
      have A2 : (4 * k + 1) ≠ toI G b k := by unfold toI; split <;> omega
      have t1 := ti_step h1 A0 A1 A2
      have B0 : tiA (acZ c x k) (4 * k + 1) (toI G b k) (4 * k) := ⟨⟨by omega, by omega⟩, by omega, by unfold toI; split <;> omega⟩
      have B1 : tiA (acZ c x k) (4 * k + 1) (toI G b k) (toO G b k) := ⟨by unfold toO acZ; split <;> omega, by unfold toO; split <;> omega, by unfold toO toI; split <;> omega⟩
      have B2 : 4 * k ≠ toO G b k := by unfold toO; split <;> omega
      have t2 := ti_step t1 B0 B1 B2
      have ea : tiA (tiA (acZ c x k) (4 * k + 1) (toI G b k)) (4 * k) (toO G b k) = acZ c x (k + 1) := by
        funext d
        apply propext
        unfold tiA acZ toI toO
        by_cases h : alB G b k <;> simp only [h, if_true, if_false] <;> constructor <;> intro h9 <;> (try simp at h9) <;> (try simp) <;> omega
      rw [ea] at t2
      -- types
      have ty : ∀ (q : Nat → Nat) (ac : Nat → Prop) (P : Nat → Nat) (a d : Nat), tiI S q ac P → (∀ e, ac e → w (q e / 2) = !w (e / 2)) → ac a → ac d → w (a / 2) = !w (d / 2) → ∀ e, tiA ac a d e → w (tiP q a d e / 2) = !w (e / 2) := by
        intro q ac P a d hq hty ha hd had e he
        unfold tiP
        by_cases hc : q a = d
        · rw [if_pos hc]
          exact hty e he.1
        · rw [if_neg hc]
          show w ((if e = q d then q a else if e = q a then q d else q e) / 2) = _
          by_cases c1 : e = q d
          · rw [if_pos c1, hty a ha, c1, hty d hd, had]
          · rw [if_neg c1]
            by_cases c2 : e = q a
            · rw [if_pos c2, hty d hd, c2, hty a ha, had]
              cases w (d / 2) <;> rfl
            · rw [if_neg c2]
              exact hty e he.1
      have tI : w ((4 * k + 1) / 2) = !w (toI G b k / 2) := by
        rw [show (4 * k + 1) / 2 = 2 * k by omega, show toI G b k / 2 = 2 * k + 1 by unfold toI; split <;> omega, hwk]
        cases w (2 * k) <;> rfl
      have tO : w ((4 * k) / 2) = !w (toO G b k / 2) := by
        rw [show (4 * k) / 2 = 2 * k by omega, show toO G b k / 2 = 2 * k + 1 by unfold toO; split <;> omega, hwk]
        cases w (2 * k) <;> rfl
      have y1 := ty p _ _ _ _ h1 h2 A0 A1 tI
      have y2 := ty _ _ _ _ _ t1 y1 B0 B1 tO
      rw [ez]
      refine ⟨_, t2, fun e he => y2 e (by rw [ea]; exact he), ?_⟩
      unfold rtsN
      exact Nat.le_trans (List.length_filter_le _ _) (by rw [List.length_range]; exact Nat.le_refl _)
theorem uPz_j {x : Nat} : ∀ (k y : Nat), y < k → y ≠ x → rt (uPz S G b x k) (egp S (4 * y + 1)) = rt (uPz S G b x k) (egp S (toI G b y)) ∧ rt (uPz S G b x k) (egp S (4 * y)) = rt (uPz S G b x k) (egp S (toO G b y))
  | 0, y, h, _ => by omega
  | k + 1, y, h, hy => by
    have hp := uPz_dn (S := S) (G := G) (b := b) (x := x) k
    by_cases e : k = x
    · have ez : uPz S G b x (k + 1) = uPz S G b x k := by
        show (if k = x then _ else _) = _
        rw [if_pos e]
      rw [ez]
      exact uPz_j k y (by omega) hy
    · have ez : uPz S G b x (k + 1) = uPs S G b k (uPz S G b x k) := by
        show (if k = x then _ else _) = _
        rw [if_neg e]
      rw [ez]
      by_cases e2 : y = k
      · subst e2
        exact ⟨un_k (un_dn hp) (un_j hp), un_j (un_dn hp)⟩
      · obtain ⟨h1, h2⟩ := uPz_j k y (by omega) hy
        exact ⟨un_k (un_dn hp) (un_k hp h1), un_k (un_dn hp) (un_k hp h2)⟩
theorem uPz_min {x : Nat} {M : Nat → Nat} (hv : vn c S) (hM : ∀ y, y < c → y ≠ x → M (egp S (4 * y + 1)) = M (egp S (toI G b y)) ∧ M (egp S (4 * y)) = M (egp S (toO G b y))) : ∀ k, k ≤ c → ∀ g h, g < 2 * c → h < 2 * c → rt (uPz S G b x k) g = rt (uPz S G b x k) h → M g = M h
  | 0, _, g, h, _, _, e => by
    rw [rt_root (p := uPz S G b x 0) rfl, rt_root (p := uPz S G b x 0) rfl] at e
    rw [e]
  | k + 1, hk, g, h, hg, hh, e => by
    have ih := uPz_min hv hM k (by omega)
    have hp := uPz_dn (S := S) (G := G) (b := b) (x := x) k
    by_cases ek : k = x
    · have ez : uPz S G b x (k + 1) = uPz S G b x k := by
        show (if k = x then _ else _) = _
        rw [if_pos ek]
      rw [ez] at e
      exact ih g h hg hh e
    · have ez : uPz S G b x (k + 1) = uPs S G b k (uPz S G b x k) := by
        show (if k = x then _ else _) = _
        rw [if_neg ek]
      rw [ez] at e
      have hm := hM k (by omega) ek
      have t1 : toI G b k < 4 * c := by unfold toI; split <;> omega
      have t2 : toO G b k < 4 * c := by unfold toO; split <;> omega
      exact un_min (D := fun g => g < 2 * c) (un_dn hp) (un_min (D := fun g => g < 2 * c) hp ih (egp_lt hv (by omega)) (egp_lt hv t1) hm.1) (egp_lt hv (by omega)) (egp_lt hv t2) hm.2 g h hg hh e
/-- the loops of a state: x joined last -/
theorem uPx_z {x : Nat} (hv : vn c S) (hx : x < c) {g h : Nat} (hg : g < 2 * c) (hh : h < 2 * c) : rt (uPx S G b c) g = rt (uPx S G b c) h ↔ rt (uPs S G b x (uPz S G b x c)) g = rt (uPs S G b x (uPz S G b x c)) h := by
  have hz := uPz_dn (S := S) (G := G) (b := b) (x := x) c
  have t1 : toI G b x < 4 * c := by unfold toI; split <;> omega
  have t2 : toO G b x < 4 * c := by unfold toO; split <;> omega
  constructor
  · refine uPx_min (M := fun k => rt (uPs S G b x (uPz S G b x c)) k) hv (fun y hy => ?_) c (Nat.le_refl _) g h hg hh
    by_cases e : y = x
    · subst e
      exact ⟨un_k (un_dn hz) (un_j hz), un_j (un_dn hz)⟩
    · obtain ⟨a1, a2⟩ := uPz_j (S := S) (G := G) (b := b) c y hy e
      exact ⟨un_k (un_dn hz) (un_k hz a1), un_k (un_dn hz) (un_k hz a2)⟩
  · intro e
    have ih := uPz_min (x := x) (M := fun k => rt (uPx S G b c) k) hv (fun y hy _ => uPx_j (S := S) (G := G) (b := b) c y hy) c (Nat.le_refl _)
    obtain ⟨j1, j2⟩ := uPx_j (S := S) (G := G) (b := b) c x hx
    exact un_min (M := fun k => rt (uPx S G b c) k) (D := fun g => g < 2 * c) (un_dn hz) (un_min (M := fun k => rt (uPx S G b c) k) (D := fun g => g < 2 * c) hz ih (egp_lt hv (by omega)) (egp_lt hv t1) j1) (egp_lt hv (by omega)) (egp_lt hv t2) j2 g h hg hh e
theorem rtsN_same {p q : Nat → Nat} {V : Nat} (hp : dn p) (hq : dn q) (h : ∀ g g', g < V → g' < V → (rt p g = rt p g' ↔ rt q g = rt q g')) : rtsN p V = rtsN q V := Nat.le_antisymm (rtsN_le (f := fun g => g) hq (fun _ h => h) (fun g g' hg hg' e => (h g g' hg hg').mpr e)) (rtsN_le (f := fun g => g) hp (fun _ h => h) (fun g g' hg hg' e => (h g g' hg hg').mp e))
theorem uPz_c {x : Nat} {b b' : Nat → Bool} (h : ∀ k, k ≠ x → b k = b' k) : ∀ k, uPz S G b x k = uPz S G b' x k
  | 0 => rfl
  | k + 1 => by
    show (if k = x then uPz S G b x k else uPs S G b k (uPz S G b x k)) = (if k = x then uPz S G b' x k else uPs S G b' k (uPz S G b' x k))
    by_cases e : k = x
    · rw [if_pos e, if_pos e]
      exact uPz_c h k
    · rw [if_neg e, if_neg e, uPz_c h k]
      unfold uPs toI toO alB
      rw [h k e]
/-- a state's loops over the paths at x: either the paths close, or they become one -/
theorem st_one {P : Nat → Nat} {p : Nat → Nat} {x : Nat} (hv : vn c S) (hx : x < c) (ht : tiI S p (acZ c x c) P) : (p (4 * x) = toO G b x → (∀ g h, rt (uPs S G b x P) g = rt (uPs S G b x P) h ↔ rt P g = rt P h) ∧ rtsN (uPs S G b x P) (2 * c) = rtsN P (2 * c)) ∧ (p (4 * x) ≠ toO G b x ∧ p (4 * x) ≠ 4 * x + 1 → (∀ g h, rt (uPs S G b x P) g = rt (uPs S G b x P) h ↔ rt P g = rt P h ∨ ((rt P g = rt P (2 * x) ∨ rt P g = rt P (S.2 (2 * x))) ∧ (rt P h = rt P (2 * x) ∨ rt P h = rt P (S.2 (2 * x))))) ∧ rtsN (uPs S G b x P) (2 * c) + 1 = rtsN P (2 * c)) := by
  have e0 : egp S (4 * x) = 2 * x := by
    unfold egp
    rw [if_pos (by omega)]
    omega
  have e1 : egp S (4 * x + 1) = S.2 (2 * x) := by
    unfold egp
    rw [if_neg (by omega), show (4 * x + 1) / 2 = 2 * x by omega]
  have a0 : acZ c x c (4 * x) := ⟨by omega, by omega⟩
  have a1 : acZ c x c (4 * x + 1) := ⟨by omega, by omega⟩
  have aI : acZ c x c (toI G b x) := by unfold toI acZ; split <;> omega
  have aO : acZ c x c (toO G b x) := by unfold toO acZ; split <;> omega
  have dis : toI G b x ≠ toO G b x ∧ toI G b x ≠ 4 * x ∧ toI G b x ≠ 4 * x + 1 ∧ toO G b x ≠ 4 * x ∧ toO G b x ≠ 4 * x + 1 := by
    unfold toI toO
    split <;> omega
  have all4 : ∀ e, acZ c x c e → e = 4 * x ∨ e = 4 * x + 1 ∨ e = toI G b x ∨ e = toO G b x := by
    intro e he
    unfold acZ at he
    unfold toI toO
    split <;> omega
  have hP := ht.1
  obtain ⟨p1, p2, p3, p4⟩ := ht.2 _ a0
  obtain ⟨q1, q2, q3, q4⟩ := ht.2 _ a1
  have lO : egp S (toO G b x) < 2 * c := egp_lt hv aO.1
  have lI : egp S (toI G b x) < 2 * c := egp_lt hv aI.1
  have l0 : egp S (4 * x) < 2 * c := egp_lt hv a0.1
  have l1 : egp S (4 * x + 1) < 2 * c := egp_lt hv a1.1
  refine ⟨fun hc => ?_, fun hne => ?_⟩
  · have hI : p (4 * x + 1) = toI G b x := by
      rcases all4 _ q1 with h | h | h | h
      · exact absurd (by rw [← q3, h, hc]) dis.2.2.2.2.symm
      · exact absurd h q2
      · exact h
      · have : p (p (4 * x + 1)) = p (p (4 * x)) := by rw [h, hc]
        rw [q3, p3] at this
        omega
    have r1 : rt P (egp S (4 * x + 1)) = rt P (egp S (toI G b x)) := (q4 _ aI).mpr (Or.inr hI.symm)
    have r2 : rt P (egp S (4 * x)) = rt P (egp S (toO G b x)) := (p4 _ aO).mpr (Or.inr hc.symm)
    have i1 : ∀ g h, rt (un P (egp S (4 * x + 1)) (egp S (toI G b x))) g = rt (un P (egp S (4 * x + 1)) (egp S (toI G b x))) h ↔ rt P g = rt P h := by
      intro g h
      rw [un_iff hP]
      constructor
      · rintro (h9 | ⟨h9, h8⟩ | ⟨h9, h8⟩)
        · exact h9
        · rw [h9, h8, r1]
        · rw [h9, h8, r1]
      · exact Or.inl
    constructor
    · intro g h
      show rt (un (un P _ _) _ _) g = rt (un (un P _ _) _ _) h ↔ _
      rw [un_iff (un_dn hP), i1, i1, i1, i1, i1]
      constructor
      · rintro (h9 | ⟨h9, h8⟩ | ⟨h9, h8⟩)
        · exact h9
        · rw [h9, h8, r2]
        · rw [h9, h8, r2]
      · exact Or.inl
    · have s1 := rtsN_un hP l1 lI
      rw [if_pos r1] at s1
      have s2 := rtsN_un (un_dn hP (g := egp S (4 * x + 1)) (h := egp S (toI G b x))) l0 lO
      rw [if_pos ((i1 _ _).mpr r2)] at s2
      show rtsN (un (un P _ _) _ _) _ = _
      omega
  · have hc := hne.1
    have hpI : p (4 * x) = toI G b x := by
      rcases all4 _ p1 with h | h | h | h
      · exact absurd h p2
      · exact absurd h hne.2
      · exact h
      · exact absurd h hc
    have hqO : p (4 * x + 1) = toO G b x := by
      rcases all4 _ q1 with h | h | h | h
      · have := p3
        rw [hpI] at this
        have h7 : p (p (4 * x + 1)) = p (4 * x) := by rw [h]
        rw [q3] at h7
        exact absurd h7.symm hne.2
      · exact absurd h q2
      · have : p (p (4 * x + 1)) = p (p (4 * x)) := by rw [h, hpI]
        rw [q3, p3] at this
        omega
      · exact h
    have rI : rt P (egp S (toI G b x)) = rt P (2 * x) := by
      rw [← e0]
      exact ((p4 _ aI).mpr (Or.inr hpI.symm)).symm
    have rO : rt P (egp S (toO G b x)) = rt P (S.2 (2 * x)) := by
      rw [← e1]
      exact ((q4 _ aO).mpr (Or.inr hqO.symm)).symm
    have r01 : rt P (2 * x) ≠ rt P (S.2 (2 * x)) := by
      rw [← e1, ← e0]
      intro h9
      rcases (p4 _ a1).mp h9 with h8 | h8
      · omega
      · exact hne.2 h8.symm
    have i1 : ∀ g h, rt (un P (egp S (4 * x + 1)) (egp S (toI G b x))) g = rt (un P (egp S (4 * x + 1)) (egp S (toI G b x))) h ↔ rt P g = rt P h ∨ ((rt P g = rt P (2 * x) ∨ rt P g = rt P (S.2 (2 * x))) ∧ (rt P h = rt P (2 * x) ∨ rt P h = rt P (S.2 (2 * x)))) := by
      intro g h
      rw [un_iff hP, rI, e1]
      constructor
      · rintro (h9 | ⟨h9, h8⟩ | ⟨h9, h8⟩)
        · exact Or.inl h9
        · exact Or.inr ⟨Or.inr h9, Or.inl h8⟩
        · exact Or.inr ⟨Or.inl h9, Or.inr h8⟩
      · rintro (h9 | ⟨h9 | h9, h8 | h8⟩)
        · exact Or.inl h9
        · exact Or.inl (by rw [h9, h8])
        · exact Or.inr (Or.inr ⟨h9, h8⟩)
        · exact Or.inr (Or.inl ⟨h9, h8⟩)
        · exact Or.inl (by rw [h9, h8])
    have r2 : rt (un P (egp S (4 * x + 1)) (egp S (toI G b x))) (egp S (4 * x)) = rt (un P (egp S (4 * x + 1)) (egp S (toI G b x))) (egp S (toO G b x)) := (i1 _ _).mpr (Or.inr ⟨Or.inl (by rw [e0]), Or.inr rO⟩)
    constructor
    · intro g h
      show rt (un (un P _ _) _ _) g = rt (un (un P _ _) _ _) h ↔ _
      rw [un_iff (un_dn hP), ← i1]
      constructor
      · rintro (h9 | ⟨h9, h8⟩ | ⟨h9, h8⟩)
        · exact h9
        · rw [h9, h8, r2]
        · rw [h9, h8, r2]
      · exact Or.inl
    · have s1 := rtsN_un hP l1 lI
      rw [if_neg (by rw [rI, e1]; exact fun h9 => r01 h9.symm)] at s1
      have s2 := rtsN_un (un_dn hP (g := egp S (4 * x + 1)) (h := egp S (toI G b x))) l0 lO
      rw [if_pos r2] at s2
      show rtsN (un (un P _ _) _ _) _ + 1 = _
      omega
/-- what holds of two states that differ at x: the loops of one are those of the other, but that two at x are one -/
def mgX (S : ow_NP) (c x : Nat) (R R' : Nat → Nat) : Prop := rt R (2 * x) ≠ rt R (S.2 (2 * x)) ∧ (∀ g h, g < 2 * c → h < 2 * c → (rt R' g = rt R' h ↔ rt R g = rt R h ∨ ((rt R g = rt R (2 * x) ∨ rt R g = rt R (S.2 (2 * x))) ∧ (rt R h = rt R (2 * x) ∨ rt R h = rt R (S.2 (2 * x)))))) ∧ rtsN R' (2 * c) + 1 = rtsN R (2 * c)
theorem st_kind {w : Nat → Bool} {x : Nat} (hv : vn c S) (hw : gaO c S w) (hx : x < c) (hb : b x = false) : mgX S c x (uPx S G b c) (uPx S G (seB b x true) c) ∨ mgX S c x (uPx S G (seB b x true) c) (uPx S G b c) := by
  obtain ⟨p, t1, t2, -⟩ := uPz_ti (G := G) (b := b) hv hw hx c (Nat.le_refl _)
  have ez : uPz S G (seB b x true) x c = uPz S G b x c := uPz_c (fun k hk => if_neg hk) c
  have a0 : acZ c x c (4 * x) := ⟨by omega, by omega⟩
  have a1 : acZ c x c (4 * x + 1) := ⟨by omega, by omega⟩
  obtain ⟨p1, p2, p3, p4⟩ := t1.2 _ a0
  have hn1 : p (4 * x) ≠ 4 * x + 1 := fun h => by
    have := t2 _ a0
    rw [h, show (4 * x + 1) / 2 = 2 * x by omega, show 4 * x / 2 = 2 * x by omega] at this
    cases hq : w (2 * x) <;> rw [hq] at this <;> cases this
  have e0 : egp S (4 * x) = 2 * x := by
    unfold egp
    rw [if_pos (by omega)]
    omega
  have e1 : egp S (4 * x + 1) = S.2 (2 * x) := by
    unfold egp
    rw [if_neg (by omega), show (4 * x + 1) / 2 = 2 * x by omega]
  have r01 : rt (uPz S G b x c) (2 * x) ≠ rt (uPz S G b x c) (S.2 (2 * x)) := by
    rw [← e1, ← e0]
    intro h9
    rcases (p4 _ a1).mp h9 with h8 | h8
    · omega
    · exact hn1 h8.symm
  have tt : toO G (seB b x true) x ≠ toO G b x ∧ (p (4 * x) = toO G b x ∨ p (4 * x) = toO G (seB b x true) x) := by
    have hp := p1
    unfold acZ at hp
    unfold toO alB
    rw [show seB b x true x = true from if_pos rfl, hb]
    cases sgP G x <;> simp <;> omega
  have s2 := (hv (2 * x) (by omega)).2.1
  have o1 := st_one (G := G) (b := b) hv hx t1
  have o2 := st_one (G := G) (b := seB b x true) hv hx t1
  have z1 : ∀ {g h : Nat}, g < 2 * c → h < 2 * c → (rt (uPx S G b c) g = rt (uPx S G b c) h ↔ rt (uPs S G b x (uPz S G b x c)) g = rt (uPs S G b x (uPz S G b x c)) h) := fun hg hh => uPx_z hv hx hg hh
  have z2 : ∀ {g h : Nat}, g < 2 * c → h < 2 * c → (rt (uPx S G (seB b x true) c) g = rt (uPx S G (seB b x true) c) h ↔ rt (uPs S G (seB b x true) x (uPz S G b x c)) g = rt (uPs S G (seB b x true) x (uPz S G b x c)) h) := fun hg hh => by
    rw [uPx_z (x := x) hv hx hg hh, ez]
  have hz := uPz_dn (S := S) (G := G) (b := b) (x := x) c
  have n1 : rtsN (uPx S G b c) (2 * c) = rtsN (uPs S G b x (uPz S G b x c)) (2 * c) := rtsN_same (uPx_dn c) (un_dn (un_dn hz)) (fun g g' hg hg' => z1 hg hg')
  have n2 : rtsN (uPx S G (seB b x true) c) (2 * c) = rtsN (uPs S G (seB b x true) x (uPz S G b x c)) (2 * c) := rtsN_same (uPx_dn c) (un_dn (un_dn hz)) (fun g g' hg hg' => z2 hg hg')
  rcases tt.2 with hp | hp
  · refine Or.inl ?_
    obtain ⟨i1, i2⟩ := o1.1 hp
    obtain ⟨k1, k2⟩ := o2.2 ⟨fun h => tt.1 (h.symm.trans hp), hn1⟩
    refine ⟨fun h9 => r01 ((i1 _ _).mp ((z1 (by omega) s2).mp h9)), fun g h hg hh => ?_, by omega⟩
    rw [z2 hg hh, k1, z1 hg hh, i1, z1 hg (show 2 * x < 2 * c by omega), i1, z1 hg s2, i1, z1 hh (show 2 * x < 2 * c by omega), i1, z1 hh s2, i1]
  · refine Or.inr ?_
    obtain ⟨i1, i2⟩ := o2.1 hp
    obtain ⟨k1, k2⟩ := o1.2 ⟨fun h => tt.1 (hp.symm.trans h), hn1⟩
    refine ⟨fun h9 => r01 ((i1 _ _).mp ((z2 (by omega) s2).mp h9)), fun g h hg hh => ?_, by omega⟩
    rw [z1 hg hh, k1, z2 hg hh, i1, z2 hg (show 2 * x < 2 * c by omega), i1, z2 hg s2, i1, z2 hh (show 2 * x < 2 * c by omega), i1, z2 hh s2, i1]
end CST
end
section
/-! 99zzzzzzzl.cim -/
/-! bits and ones -/
theorem pcF_add : ∀ (x n k : Nat), x < n → k / 2 ^ x % 2 = 0 → pcF n (k + 2 ^ x) = pcF n k + 1
  | 0, n + 1, k, _, h => by
    rw [Nat.pow_zero, Nat.div_one] at h
    show (k + 2 ^ 0) % 2 + pcF n ((k + 2 ^ 0) / 2) = k % 2 + pcF n (k / 2) + 1
    rw [Nat.pow_zero, show (k + 1) / 2 = k / 2 by omega]
    omega
  | x + 1, n + 1, k, h1, h => by
    have e : k / 2 / 2 ^ x % 2 = 0 := by
      rw [Nat.div_div_eq_div_mul, ← Nat.pow_succ']
      exact h
    have ih := pcF_add x n (k / 2) (by omega) e
    show (k + 2 ^ (x + 1)) % 2 + pcF n ((k + 2 ^ (x + 1)) / 2) = k % 2 + pcF n (k / 2) + 1
    rw [Nat.pow_succ, show (k + 2 ^ x * 2) / 2 = k / 2 + 2 ^ x by omega, ih]
    omega
theorem pc_add {x k : Nat} (hx : x < 32) (h : btN k x = 0) : pc (k + 2 ^ x) = pc k + 1 := pcF_add x 32 k hx h
def sbt (m : Nat) : Nat → Nat
  | 0 => 0
  | n + 1 => sbt m n + btN m n
theorem sbt_s (m : Nat) : ∀ n, sbt m (n + 1) = m % 2 + sbt (m / 2) n
  | 0 => by
    show 0 + btN m 0 = m % 2 + 0
    unfold btN
    rw [Nat.pow_zero, Nat.div_one]
    omega
  | n + 1 => by
    show sbt m (n + 1) + btN m (n + 1) = m % 2 + (sbt (m / 2) n + btN (m / 2) n)
    rw [sbt_s m n]
    unfold btN
    have e : m / 2 / 2 ^ n = m / 2 ^ (n + 1) := by
      rw [Nat.div_div_eq_div_mul, ← Nat.pow_succ']
    rw [e]
    omega
theorem pcF_sbt : ∀ (n N m : Nat), n ≤ N → m < 2 ^ n → pcF N m = sbt m n
  | 0, N, m, _, h => by
    have : m = 0 := by simpa using h
    subst this
    have := pcF_le N 0 0 (by decide)
    show pcF N 0 = 0
    omega
  | n + 1, 0, m, h, _ => absurd h (by omega)
  | n + 1, N + 1, m, h, hm => by
    rw [sbt_s]
    show m % 2 + pcF N (m / 2) = _
    rw [pcF_sbt n N (m / 2) (by omega) (by rw [Nat.pow_succ] at hm; omega)]
theorem pc_sbt {n m : Nat} (hn : n ≤ 32) (h : m < 2 ^ n) : pc m = sbt m n := pcF_sbt n 32 m hn h
theorem sbt_sum (m : Nat) : ∀ n, sbt m n = ((List.range n).map (btN m)).sum
  | 0 => rfl
  | n + 1 => by
    show sbt m n + btN m n = _
    rw [sbt_sum m n, List.range_succ, List.map_append, List.sum_append]
    simp
theorem bt_lt {k x l : Nat} (hk : k < 2 ^ l) (hx : l ≤ x) : btN k x = 0 := by
  unfold btN
  rw [Nat.div_eq_of_lt (Nat.lt_of_lt_of_le hk (two_mono hx))]
theorem bt_add {k l x : Nat} (hk : k < 2 ^ l) : btN (k + 2 ^ l) x = if x = l then 1 else btN k x := by
  unfold btN
  by_cases e : x = l
  · subst e
    rw [if_pos rfl, Nat.add_div_right _ (Nat.two_pow_pos x), Nat.div_eq_of_lt hk]
  · rw [if_neg e]
    rcases Nat.lt_or_ge x l with h | h
    · have e2 : 2 ^ l = 2 ^ x * (2 * 2 ^ (l - x - 1)) := by
        rw [← Nat.pow_succ', ← Nat.pow_add]
        congr 1
        omega
      rw [e2, Nat.add_mul_div_left _ _ (Nat.two_pow_pos x), Nat.add_mul_mod_self_left]
    · have h1 : k + 2 ^ l < 2 ^ x := by
        have : 2 ^ (l + 1) ≤ 2 ^ x := two_mono (by omega)
        rw [Nat.pow_succ] at this
        omega
      rw [Nat.div_eq_of_lt h1, Nat.div_eq_of_lt (Nat.lt_of_lt_of_le hk (two_mono h))]
theorem add_lt {k x n : Nat} (hk : k < 2 ^ n) (hx : x < n) (hb : btN k x = 0) : k + 2 ^ x < 2 ^ n := st_lt hk hx hb
/-! two states that differ at a crossing: labels -/
section LAB
variable {S : ow_NP} {c x : Nat} {R R' L L' : Nat → Nat}
def labR (c : Nat) (R L : Nat → Nat) : Prop := ∀ g g', g < 2 * c → g' < 2 * c → (L g = L g' ↔ rt R g = rt R g')
def atL (S : ow_NP) (x : Nat) (L : Nat → Nat) (g : Nat) : Prop := L g = L (2 * x) ∨ L g = L (S.2 (2 * x))
theorem lab_x1 (h1 : 2 * x < 2 * c) (h2 : S.2 (2 * x) < 2 * c) (hL : labR c R L) (hL' : labR c R' L') (h : mgX S c x R R') : (∀ g, g < 2 * c → (atL S x L g ↔ atL S x L' g)) ∧ ∀ g g', g < 2 * c → g' < 2 * c → ¬ atL S x L g → (L g = L g' ↔ L' g = L' g') := by
  obtain ⟨-, m2, -⟩ := h
  have k1 : ∀ g, g < 2 * c → (atL S x L g ↔ (rt R g = rt R (2 * x) ∨ rt R g = rt R (S.2 (2 * x)))) := fun g hg => by
    unfold atL
    rw [hL g _ hg h1, hL g _ hg h2]
  constructor
  · intro g hg
    rw [k1 g hg]
    unfold atL
    rw [hL' g _ hg h1, hL' g _ hg h2, m2 g _ hg h1, m2 g _ hg h2]
    constructor
    · rintro (h9 | h9)
      · exact Or.inl (Or.inl h9)
      · exact Or.inr (Or.inl h9)
    · rintro ((h9 | h9) | (h9 | h9))
      · exact Or.inl h9
      · exact h9.1
      · exact Or.inr h9
      · exact h9.1
  · intro g g' hg hg' hn
    rw [k1 g hg] at hn
    rw [hL g g' hg hg', hL' g g' hg hg', m2 g g' hg hg']
    exact ⟨Or.inl, fun h9 => h9.elim id (fun h8 => absurd h8.1 hn)⟩
theorem lab_x2 (h1 : 2 * x < 2 * c) (h2 : S.2 (2 * x) < 2 * c) (hL : labR c R L) (hL' : labR c R' L') (h : mgX S c x R R' ∨ mgX S c x R' R) : (∀ g, g < 2 * c → (atL S x L g ↔ atL S x L' g)) ∧ ∀ g g', g < 2 * c → g' < 2 * c → ¬ atL S x L g → (L g = L g' ↔ L' g = L' g') := by
  rcases h with h | h
  · exact lab_x1 h1 h2 hL hL' h
  · obtain ⟨a1, a2⟩ := lab_x1 h1 h2 hL' hL h
    refine ⟨fun g hg => (a1 g hg).symm, fun g g' hg hg' hn => ?_⟩
    exact (a2 g g' hg hg' (fun h9 => hn ((a1 g hg).mp h9))).symm
/-- the loops that are not at x, with their bits -/
theorem crr_sum {n n' : Nat} {ga : Nat → Nat} (m : Nat) (h1 : 2 * x < 2 * c) (h2 : S.2 (2 * x) < 2 * c) (hl : ∀ g, g < 2 * c → L g < n) (hl' : ∀ g, g < 2 * c → L' g < n') (hs : ∀ l, l < n → ∃ g, g < 2 * c ∧ L g = l) (hg : ∀ l, l < n' → ga l < 2 * c ∧ L' (ga l) = l) (hx : (∀ g, g < 2 * c → (atL S x L g ↔ atL S x L' g)) ∧ ∀ g g', g < 2 * c → g' < 2 * c → ¬ atL S x L g → (L g = L g' ↔ L' g = L' g')) : (((List.range n').filter (fun l => decide (l ≠ L' (2 * x) ∧ l ≠ L' (S.2 (2 * x))))).map (fun l => btN m (L (ga l)))).sum + btN m (L (2 * x)) + (if L (2 * x) = L (S.2 (2 * x)) then 0 else btN m (L (S.2 (2 * x)))) = sbt m n := by
  obtain ⟨x1, x2⟩ := hx
  have nat : ∀ l, l < n' → (l ≠ L' (2 * x) ∧ l ≠ L' (S.2 (2 * x)) ↔ ¬ atL S x L (ga l)) := fun l hl9 => by
    rw [x1 _ (hg l hl9).1]
    unfold atL
    rw [(hg l hl9).2]
    grind
  have e1 : (((List.range n').filter (fun l => decide (l ≠ L' (2 * x) ∧ l ≠ L' (S.2 (2 * x))))).map (fun l => btN m (L (ga l)))).sum = (((((List.range n').filter (fun l => decide (l ≠ L' (2 * x) ∧ l ≠ L' (S.2 (2 * x))))).map (fun l => L (ga l)))).map (btN m)).sum := by
    rw [List.map_map]
    rfl
  have e2 := sum_nd (g := btN m) (l1 := ((List.range n').filter (fun l => decide (l ≠ L' (2 * x) ∧ l ≠ L' (S.2 (2 * x))))).map (fun l => L (ga l))) (l2 := ((List.range n).erase (L (2 * x))).erase (L (S.2 (2 * x)))) ?_ ((List.nodup_range.erase _).erase _) (fun l => ?_)
  · have m1 : L (2 * x) ∈ List.range n := List.mem_range.mpr (hl _ h1)
    have s1 := sum_er (g := btN m) m1
    rw [e1, e2, sbt_sum, s1]
    by_cases c1 : L (2 * x) = L (S.2 (2 * x))
    · rw [if_pos c1, ← c1, List.erase_of_not_mem (fun h9 => by
        rw [List.nodup_range.mem_erase_iff] at h9
        exact h9.1 rfl)]
      omega
    · have m2 : L (S.2 (2 * x)) ∈ (List.range n).erase (L (2 * x)) := by
        rw [List.nodup_range.mem_erase_iff]
        exact ⟨fun h9 => c1 h9.symm, List.mem_range.mpr (hl _ h2)⟩
      have s2 := sum_er (g := btN m) m2
      rw [if_neg c1, s2]
      omega
  · refine nodup_map (List.nodup_range.filter _) (fun a b ha hb e => ?_)
    obtain ⟨a1, a2⟩ := List.mem_filter.mp ha
    obtain ⟨b1, b2⟩ := List.mem_filter.mp hb
    have a1 := List.mem_range.mp a1
    have b1 := List.mem_range.mp b1
    have a3 := (nat a a1).mp (of_decide_eq_true a2)
    have := (x2 _ _ (hg a a1).1 (hg b b1).1 a3).mp e
    rw [(hg a a1).2, (hg b b1).2] at this
    exact this
  · rw [(List.nodup_range.erase _).mem_erase_iff, List.nodup_range.mem_erase_iff, List.mem_range]
    constructor
    · intro h9
      obtain ⟨k, k1, rfl⟩ := List.mem_map.mp h9
      obtain ⟨k1, k2⟩ := List.mem_filter.mp k1
      have k1 := List.mem_range.mp k1
      have k3 := (nat k k1).mp (of_decide_eq_true k2)
      unfold atL at k3
      exact ⟨fun e => k3 (Or.inr e), fun e => k3 (Or.inl e), hl _ (hg k k1).1⟩
    · rintro ⟨h9, h8, h7⟩
      obtain ⟨g, g1, g2⟩ := hs l h7
      have hna : ¬ atL S x L g := by
        unfold atL
        rw [g2]
        rintro (e | e)
        · exact h8 e
        · exact h9 e
      have hl9 := hl' g g1
      obtain ⟨q1, q2⟩ := hg _ hl9
      have eL : L (ga (L' g)) = l := by
        rw [← g2]
        exact ((x2 g _ g1 q1 hna).mpr q2.symm).symm
      refine List.mem_map.mpr ⟨L' g, List.mem_filter.mpr ⟨List.mem_range.mpr hl9, decide_eq_true ((nat _ hl9).mpr ?_)⟩, eL⟩
      unfold atL
      rw [eL]
      rintro (e | e)
      · exact h8 e
      · exact h9 e
end LAB
end
section
/-! 99zzzzzzzm.cimg -/
/-! the class: D of a generator -/
theorem ch_43005 {vl : Nat → Nat} : ((cX vl).2 43005).2.1 = 1024 := rfl
theorem ch_43007 {vl : Nat → Nat} : ((cX vl).2 43007).2.1 = 256 := rfl
theorem ch_43008 {vl : Nat → Nat} : ((cX vl).2 43008).2.1 = 256 := rfl
theorem ch_43009 {vl : Nat → Nat} : ((cX vl).2 43009).2.1 = 10 := rfl
theorem ch_dyn {vl : Nat → Nat} {h : Nat} (hh : dynL.contains h = true) : ((cX vl).2 h).2.1 = vl h := by
  show (if dynL.contains h = true then (0, vl h, []) else cX_f h).2.1 = vl h
  rw [if_pos hh]
theorem ch_43011 {vl : Nat → Nat} : ((cX vl).2 43011).2.1 = vl 43011 := ch_dyn (by decide)
theorem ch_43012 {vl : Nat → Nat} : ((cX vl).2 43012).2.1 = vl 43012 := ch_dyn (by decide)
theorem ch_43013 {vl : Nat → Nat} : ((cX vl).2 43013).2.1 = vl 43013 := ch_dyn (by decide)
theorem ch_43014 {vl : Nat → Nat} : ((cX vl).2 43014).2.1 = vl 43014 := ch_dyn (by decide)
theorem ch_43015 {vl : Nat → Nat} : ((cX vl).2 43015).2.1 = vl 43015 := ch_dyn (by decide)
theorem ch_43016 {vl : Nat → Nat} : ((cX vl).2 43016).2.1 = vl 43016 := ch_dyn (by decide)
/-- the loops of all states -/
def LpY (y : ow_MS) (S : ow_NP) (G : Nat → Int32) (c : Nat) (Ls : Nat → Nat → Nat) (ns : Nat → Nat) : Prop := ∀ s, s < 2 ^ c → LpS y S G c s (Ls s) (ns s) ∧ ns s ≤ 9
theorem LpY_fr {P : Nat → Prop} {y y1 : ow_MS} {S : ow_NP} {G : Nat → Int32} {c : Nat} {Ls : Nat → Nat → Nat} {ns : Nat → Nat} (hf : fr P y y1) (hP : ¬ P 43002 ∧ ¬ P 43003 ∧ ¬ P 43004) (h : LpY y S G c Ls ns) : LpY y1 S G c Ls ns := by
  intro s hs
  obtain ⟨⟨h1, h2, h3, h4, h5⟩, h6⟩ := h s hs
  refine ⟨⟨fun g hg => ?_, ?_, fun l hl => ?_, h4, h5⟩, h6⟩
  · rw [(hf _ hP.1).2.1]
    exact h1 g hg
  · rw [(hf _ hP.2.1).2.1]
    exact h2
  · obtain ⟨g, g1, g2, g3⟩ := h3 l hl
    exact ⟨g, g1, by rw [(hf _ hP.2.2).2.1]; exact g2, g3⟩
/-- which set it is among those with as many -/
def tbP (y : ow_MS) : Prop := ∀ m, m < 1024 → y.2.1 43005 m = nI (cpN (pc m) m)
section IMG
variable {vl : Nat → Nat} {y : ow_MS} {S : ow_NP} {G : Nat → Int32} {c ci : Nat} {Ls : Nat → Nat → Nat} {ns : Nat → Nat}
theorem tb_j {s x : Nat} (hv : vn c S) (hx : x < c) {L : Nat → Nat} (hL : labR c (uPx S G (tb s) c) L) : (L (2 * x + 1) = L (2 * x) ∧ L (S.2 (2 * x + 1)) = L (S.2 (2 * x))) ∨ (L (S.2 (2 * x + 1)) = L (2 * x) ∧ L (2 * x + 1) = L (S.2 (2 * x))) := by
  have e0 : egp S (4 * x) = 2 * x := by
    unfold egp
    rw [if_pos (by omega)]
    omega
  have e1 : egp S (4 * x + 1) = S.2 (2 * x) := by
    unfold egp
    rw [if_neg (by omega), show (4 * x + 1) / 2 = 2 * x by omega]
  have e2 : egp S (4 * x + 2) = 2 * x + 1 := by
    unfold egp
    rw [if_pos (by omega)]
    omega
  have e3 : egp S (4 * x + 3) = S.2 (2 * x + 1) := by
    unfold egp
    rw [if_neg (by omega), show (4 * x + 3) / 2 = 2 * x + 1 by omega]
  obtain ⟨j1, j2⟩ := uPx_j (S := S) (G := G) (b := tb s) c x hx
  have l1 := (hv (2 * x) (by omega)).2.1
  have l2 := (hv (2 * x + 1) (by omega)).2.1
  unfold toI at j1
  unfold toO at j2
  by_cases ha : alB G (tb s) x = true
  · rw [if_pos ha] at j1 j2
    rw [e1, e2] at j1
    rw [e0, e3] at j2
    exact Or.inr ⟨((hL _ _ (by omega) l2).mpr j2).symm, ((hL _ _ l1 (by omega)).mpr j1).symm⟩
  · rw [if_neg ha] at j1 j2
    rw [e1, e3] at j1
    rw [e0, e2] at j2
    exact Or.inl ⟨((hL _ _ (by omega) (by omega)).mpr j2).symm, ((hL _ _ l1 l2).mpr j1).symm⟩
theorem e_X1_otherLoop {vl : Nat → Nat} {r0 : Nat} {x1 : Int32} {x2 : Int32} {z : ow_MS} {Q : (Int32 × ow_MS) → Prop} (H : Tt (fun K _ => cm_X1_otherLoop_0 vl K x1 x2 r0 z) Q) : Te (fun K => ce_X1_otherLoop vl K r0 x1 x2 z) Q := w_te0 H
theorem tc_otherLoop {s x : Nat} (hy : cAt y 44000 (c, ci, S, G)) (hv : vn c S) (hc : c ≤ 8) (hL : LpY y S G c Ls ns) (hs : s < 2 ^ c) (hx : x < c) : Te (fun K => ce_X1_otherLoop vl K 43000 (nI s) (nI x) y) (fun r => r = (nI (Ls s (S.2 (2 * x))), y)) := by
  obtain ⟨⟨h1, h2, h3, h4, h5⟩, h6⟩ := hL s hs
  have h256 : 2 ^ c ≤ 256 := two_mono (b := 8) hc
  have l1 := (hv (2 * x) (by omega)).2.1
  have l2 := (hv (2 * x + 1) (by omega)).2.1
  obtain ⟨a1, a2⟩ := h1 (2 * x) (by omega)
  obtain ⟨b1, b2⟩ := h1 (2 * x + 1) (by omega)
  obtain ⟨c1, c2⟩ := h1 _ l1
  obtain ⟨d1, d2⟩ := h1 _ l2
  have jj := tb_j (G := G) (s := s) hv hx h4
  refine e_X1_otherLoop ?_; unfold cm_X1_otherLoop_0
  rw [rn_mul2, i16, nI_1, nI_1]
  refine w_crI ch_43002 rfl (by omega) a1 (w_crI ch_43002 rfl (by omega) b1 (w_crI (nH_2 nH44) rfl (show 2 * x < 24 by omega) (hy.2.2.2.1 _) ?_))
  rw [show ((c, ci, S, G) : ow_NT).2.2.1.2 (2 * x) = S.2 (2 * x) from rfl, i16]
  refine w_crI ch_43002 rfl (by omega) c1 (w_crI (nH_2 nH44) rfl (show 2 * x + 1 < 24 by omega) (hy.2.2.2.1 _) ?_)
  rw [show ((c, ci, S, G) : ow_NT).2.2.1.2 (2 * x + 1) = S.2 (2 * x + 1) from rfl, i16]
  refine w_crI ch_43002 rfl (by omega) d1 (w_eqN (by omega) (by omega) (fun e => w_eqN (by omega) (by omega) (fun e2 => w_some ?_) (fun e2 => w_some rfl)) (fun e => w_some ?_))
  · rcases jj with ⟨j1, j2⟩ | ⟨j1, j2⟩
    · rw [j2]
    · rw [j1, e2]
  · rcases jj with ⟨j1, j2⟩ | ⟨j1, j2⟩
    · exact absurd j1 e
    · rw [j2]
theorem crS {m l : Nat} (hm : m < 1024) (hl : l < 10) : ((nI m >>> (nI l &&& 31)) &&& 1) = nI (btN m l) := gbit (by omega) (by omega)
theorem crO {k l b : Nat} (hk : k < 2 ^ l) (hl : l < 10) (hb : b < 2) : nI k ||| (nI b <<< (nI l &&& 31)) = nI (k + b * 2 ^ l) := by
  have key : ∀ l : Fin 10, ∀ b : Fin 2, nI b.val <<< (nI l.val &&& 31) = nI (b.val * 2 ^ l.val) := by decide +kernel
  have h9 := key ⟨l, hl⟩ ⟨b, hb⟩
  dsimp only at h9
  have h10 : 2 ^ l ≤ 2 ^ 9 := two_mono (by omega)
  have b01 : b = 0 ∨ b = 1 := by omega
  have hmul : b * 2 ^ l ≤ 2 ^ l := by
    rcases b01 with e | e <;> subst e <;> omega
  rw [h9, ow_or (by omega) (by omega)]
  congr 1
  rcases b01 with e | e
  · subst e
    simp
  · subst e
    rw [Nat.one_mul]
    have := Nat.two_pow_add_eq_or_of_lt hk 1
    rw [Nat.mul_one] at this
    rw [Nat.or_comm, ← this, Nat.add_comm]
/-- the place of a bit below l, or nothing, for loops at the crossing -/
def crF (m a b l : Nat) (φ : Nat → Nat) (k : Nat) : Prop := k < 2 ^ l ∧ pc k = (((List.range l).filter (fun j => decide (j ≠ a ∧ j ≠ b))).map (fun j => btN m (φ j))).sum ∧ btN k a = 0 ∧ btN k b = 0
theorem crF_s {m a b l k : Nat} {φ : Nat → Nat} (hl : l < 10) (h : crF m a b l φ k) : (l ≠ a → l ≠ b → crF m a b (l + 1) φ (k + btN m (φ l) * 2 ^ l)) ∧ ((l = a ∨ l = b) → crF m a b (l + 1) φ k) := by
  obtain ⟨h1, h2, h3, h4⟩ := h
  have hb2 : btN m (φ l) < 2 := by unfold btN; omega
  constructor
  · intro ha hb
    have fl : (List.range (l + 1)).filter (fun j => decide (j ≠ a ∧ j ≠ b)) = (List.range l).filter (fun j => decide (j ≠ a ∧ j ≠ b)) ++ [l] := by
      rw [List.range_succ, List.filter_append, List.filter_cons_of_pos (by simp [ha, hb])]
      rfl
    have b01 : btN m (φ l) = 0 ∨ btN m (φ l) = 1 := by omega
    unfold crF
    rw [fl, List.map_append, List.sum_append_nat, ← h2]
    rcases b01 with e | e
    · rw [e, Nat.zero_mul, Nat.add_zero]
      refine ⟨by rw [Nat.pow_succ]; omega, ?_, h3, h4⟩
      simp [e]
    · rw [e, Nat.one_mul]
      refine ⟨by rw [Nat.pow_succ]; omega, ?_, ?_, ?_⟩
      · rw [pc_add (by omega) (bt_lt h1 (Nat.le_refl _))]
        simp [e]
      · rw [bt_add h1, if_neg (fun h9 => ha h9.symm)]
        exact h3
      · rw [bt_add h1, if_neg (fun h9 => hb h9.symm)]
        exact h4
  · intro hab
    have fl : (List.range (l + 1)).filter (fun j => decide (j ≠ a ∧ j ≠ b)) = (List.range l).filter (fun j => decide (j ≠ a ∧ j ≠ b)) := by
      rw [List.range_succ, List.filter_append, List.filter_cons_of_neg (by simp; grind)]
      simp
    unfold crF
    rw [fl]
    exact ⟨by rw [Nat.pow_succ]; omega, h2, h3, h4⟩
theorem u_X1_carry_1 {vl : Nat → Nat} {x1 : Int32} {x2 : Int32} {x3 : Int32} {x4 : Int32} {x5 : Int32} {x6 : Int32} {x7 : Int32} {r0 : Nat} {z : ow_MS} {Q : (Int32 × ow_MS) → Prop} (H : Tt (fun K k => cm_X1_carry_1 vl K (c_X1_carry vl K k) x1 x2 x3 x4 x5 x6 x7 r0 z) Q) : Tt (fun K k => c_X1_carry vl K k 1 x1 x2 x3 x4 x5 x6 x7 r0 z) Q := w_un (fun _ _ => rfl) H
theorem u_X1_carry_2 {vl : Nat → Nat} {x1 : Int32} {x2 : Int32} {x3 : Int32} {x4 : Int32} {x5 : Int32} {x6 : Int32} {x7 : Int32} {r0 : Nat} {z : ow_MS} {Q : (Int32 × ow_MS) → Prop} (H : Tt (fun K k => cm_X1_carry_2 vl K (c_X1_carry vl K k) x1 x2 x3 x4 x5 x6 x7 r0 z) Q) : Tt (fun K k => c_X1_carry vl K k 2 x1 x2 x3 x4 x5 x6 x7 r0 z) Q := w_un (fun _ _ => rfl) H
theorem e_X1_carry {vl : Nat → Nat} {r0 : Nat} {x1 : Int32} {x2 : Int32} {x3 : Int32} {x4 : Int32} {x5 : Int32} {z : ow_MS} {Q : (Int32 × ow_MS) → Prop} (H : Tt (fun K k => c_X1_carry vl K k 0 x1 x2 x3 x4 x5 0 0 r0 z) Q) : Te (fun K => ce_X1_carry vl K r0 x1 x2 x3 x4 x5 z) Q := w_te H
theorem u_X1_carry_0 {vl : Nat → Nat} {x1 : Int32} {x2 : Int32} {x3 : Int32} {x4 : Int32} {x5 : Int32} {x6 : Int32} {x7 : Int32} {r0 : Nat} {z : ow_MS} {Q : (Int32 × ow_MS) → Prop} (H : Tt (fun K k => cm_X1_carry_0 vl K (c_X1_carry vl K k) x1 x2 x3 x4 x5 x6 x7 r0 z) Q) : Tt (fun K k => c_X1_carry vl K k 0 x1 x2 x3 x4 x5 x6 x7 r0 z) Q := w_un (fun _ _ => rfl) H
theorem tc_carry {s t m a b : Nat} (hc : c ≤ 8) (hL : LpY y S G c Ls ns) (hs : s < 2 ^ c) (ht : t < 2 ^ c) (hm : m < 1024) (ha : a < 10) (hb : b < 10) : Te (fun K => ce_X1_carry vl K 43000 (nI s) (nI m) (nI t) (nI a) (nI b) y) (fun r => r.2 = y ∧ ∃ (k : Nat) (ga : Nat → Nat), (∀ l, l < ns t → ga l < 2 * c ∧ Ls t (ga l) = l) ∧ r.1 = nI k ∧ crF m a b (ns t) (fun l => Ls s (ga l)) k) := by
  obtain ⟨⟨h1, h2, h3, h4, h5⟩, h6⟩ := hL s hs
  obtain ⟨⟨t1, t2, t3, t4, t5⟩, t6⟩ := hL t ht
  have h256 : 2 ^ c ≤ 256 := two_mono (b := 8) hc
  obtain ⟨ga, hga⟩ : ∃ ga : Nat → Nat, ∀ l, l < ns t → ga l < 2 * c ∧ y.2.1 43004 (10 * t + l) = nI (ga l) ∧ Ls t (ga l) = l := by
    refine ⟨fun l => if h : l < ns t then Classical.choose (t3 l h) else 0, fun l hl => ?_⟩
    dsimp only
    rw [dif_pos hl]
    exact Classical.choose_spec (t3 l hl)
  let Q : Int32 × ow_MS → Prop := fun r => r.2 = y ∧ ∃ (k : Nat) (ga : Nat → Nat), (∀ l, l < ns t → ga l < 2 * c ∧ Ls t (ga l) = l) ∧ r.1 = nI k ∧ crF m a b (ns t) (fun l => Ls s (ga l)) k
  have c1 : ∀ (d l k : Nat), l + d = ns t → crF m a b l (fun l => Ls s (ga l)) k → Tt (fun K i => c_X1_carry vl K i 1 (nI s) (nI m) (nI t) (nI a) (nI b) (nI k) (nI l) 43000 y) Q := by
    intro d
    induction d with
    | zero =>
      intro l k hl hk
      have hl : l = ns t := by omega
      subst hl
      refine u_X1_carry_1 ?_; unfold cm_X1_carry_1
      exact w_crI ch_43003 rfl (by omega) t2 (w_leT (by omega) (by omega) (w_some ⟨rfl, k, ga, fun l hl => ⟨(hga l hl).1, (hga l hl).2.2⟩, rfl, hk⟩))
    | succ d ih =>
      intro l k hl hk
      obtain ⟨g1, g2, g3⟩ := hga l (by omega)
      obtain ⟨o1, o2⟩ := h1 _ g1
      have c2 : ∀ k', crF m a b (l + 1) (fun l => Ls s (ga l)) k' → Tt (fun K i => c_X1_carry vl K i 2 (nI s) (nI m) (nI t) (nI a) (nI b) (nI k') (nI l) 43000 y) Q := by
        intro k' hk'
        refine u_X1_carry_2 ?_; unfold cm_X1_carry_2
        rw [nI_1]
        exact ih (l + 1) k' (by omega) hk'
      obtain ⟨f1, f2⟩ := crF_s (show l < 10 by omega) hk
      refine u_X1_carry_1 ?_; unfold cm_X1_carry_1
      refine w_crI ch_43003 rfl (by omega) t2 (w_leF (by omega) (by omega) (w_eqN (by omega) (by omega) (fun e => c2 k (f2 (Or.inl e))) (fun e1 => w_eqN (by omega) (by omega) (fun e => c2 k (f2 (Or.inr e))) (fun e2 => ?_))))
      rw [i10]
      refine w_crI ch_43004 rfl (by omega) g2 ?_
      rw [i16]
      refine w_crI ch_43002 rfl (by omega) o1 ?_
      rw [crS hm (by omega), crO hk.1 (by omega) (by unfold btN; omega)]
      exact c2 _ (f1 e1 e2)
  refine e_X1_carry ?_
  refine u_X1_carry_0 ?_; unfold cm_X1_carry_0
  refine c1 (ns t) 0 0 (by omega) ⟨by decide, rfl, ?_, ?_⟩
  · unfold btN
    rw [Nat.zero_div]
  · unfold btN
    rw [Nat.zero_div]
theorem e_X1_addTo {vl : Nat → Nat} {r0 : Nat} {x1 : Int32} {x2 : Int32} {x3 : Int32} {z : ow_MS} {Q : ow_MS → Prop} (H : Tt (fun K _ => cm_X1_addTo_0 vl K x1 x2 x3 r0 z) Q) : Te (fun K => ce_X1_addTo vl K r0 x1 x2 x3 z) Q := w_te0 H
theorem tc_addTo {t m bg W p : Nat} {x : Int32} (ht : t < 256) (hm : m < 1024) (hp : tbP y) (hbg : y.2.1 43008 t = nI bg) (hW : vl 43011 = W) (hW2 : W < 2 ^ 31) (hix : bg + cpN (pc m) m < W) (h10 : y.1 43010 = nI p) (hp1 : 2 ≤ p) (hp2 : p ≤ 997) : Te (fun K => ce_X1_addTo vl K 43000 (nI t) (nI m) x y) (fun y1 => fr (fun g => g = 43011) y y1) := by
  have hnz : nI p ≠ 0 := fun h9 => by
    have := (nI_eq (a := p) (b := 0) (by omega) (by omega)).mp h9
    omega
  refine e_X1_addTo ?_; unfold cm_X1_addTo_0
  refine w_crI ch_43008 rfl ht hbg (w_crI ch_43005 rfl hm (hp m hm) ?_)
  rw [nI_add]
  exact w_crI (ch_43011.trans hW) rfl hix rfl (w_rdF h10 (w_nzI hnz (w_ctI (ch_43011.trans hW) rfl hix (w_some (fr_I rfl)))))
end IMG
end
section
/-! 99zzzzzzzn.cimg2 -/
/-! the class: D of a generator stays in its degree -/
def kpF (n h : Nat) (dg : Int) : Option Nat := if ((n : Int) + dg - h) % 2 = 0 ∧ 0 ≤ (n : Int) + dg - h ∧ (n : Int) + dg - h ≤ 2 * n then some (((n : Int) + dg - h) / 2).toNat else none
def bkF (ns : Nat → Nat) (dg : Int) (s : Nat) : Nat := match kpF (ns s) (pc s) dg with
  | some k => biN (ns s) k
  | none => 0
theorem kpF_m {n h k : Nat} {dg : Int} (hk : kpF (n + 1) h dg = some (k + 1)) : kpF n (h + 1) dg = some k := by
  unfold kpF at hk ⊢
  split at hk
  · rename_i h1
    injection hk with hk
    rw [if_pos (by omega)]
    congr 1
    omega
  · cases hk
theorem kpF_s {n h k : Nat} {dg : Int} (hk : kpF n h dg = some k) : kpF (n + 1) (h + 1) dg = some k := by
  unfold kpF at hk ⊢
  split at hk
  · rename_i h1
    injection hk with hk
    rw [if_pos (by omega)]
    congr 1
    omega
  · cases hk
theorem kpF_le {n h k : Nat} {dg : Int} (hk : kpF n h dg = some k) : k ≤ n := by
  unfold kpF at hk
  split at hk
  · injection hk with hk
    omega
  · cases hk
theorem bt_flip {s x : Nat} (h : btN s x = 0) (k : Nat) : btN (s + 2 ^ x) k = if k = x then 1 else btN s k := by
  have e1 : s % 2 ^ (x + 1) < 2 ^ x := by
    have h1 : s % 2 ^ (x + 1) < 2 ^ (x + 1) := Nat.mod_lt _ (Nat.two_pow_pos _)
    unfold btN at h
    have h2 : s % 2 ^ (x + 1) / 2 ^ x = s / 2 ^ x % 2 := by
      rw [Nat.pow_succ, Nat.mod_mul_right_div_self]
    rw [h] at h2
    rcases Nat.lt_or_ge (s % 2 ^ (x + 1)) (2 ^ x) with h3 | h3
    · exact h3
    · have := Nat.div_pos h3 (Nat.two_pow_pos x)
      omega
  have e2 : s = 2 ^ (x + 1) * (s / 2 ^ (x + 1)) + s % 2 ^ (x + 1) := (Nat.div_add_mod _ _).symm
  generalize s / 2 ^ (x + 1) = q at e2
  generalize s % 2 ^ (x + 1) = r at e1 e2
  have p1 : 2 ^ (x + 1) = 2 ^ x * 2 := Nat.pow_succ 2 x
  unfold btN
  rcases Nat.lt_trichotomy k x with hk | hk | hk
  · rw [if_neg (by omega)]
    have e3 : 2 ^ x = 2 ^ k * (2 * 2 ^ (x - k - 1)) := by
      rw [← Nat.pow_succ', ← Nat.pow_add]
      congr 1
      omega
    rw [e3, Nat.add_mul_div_left _ _ (Nat.two_pow_pos k), Nat.add_mul_mod_self_left]
  · subst hk
    rw [if_pos rfl]
    have : s + 2 ^ k = r + 2 ^ k * (2 * q + 1) := by
      rw [e2, p1, Nat.mul_add, Nat.mul_one, ← Nat.mul_assoc]
      omega
    rw [this, Nat.add_mul_div_left _ _ (Nat.two_pow_pos k), Nat.div_eq_of_lt e1]
    omega
  · rw [if_neg (by omega)]
    have e3 : 2 ^ k = 2 ^ (x + 1) * 2 ^ (k - x - 1) := by
      rw [← Nat.pow_add]
      congr 1
      omega
    have dd : ∀ u, u < 2 ^ (x + 1) → (u + 2 ^ (x + 1) * q) / 2 ^ k = q / 2 ^ (k - x - 1) := by
      intro u hu
      rw [e3, ← Nat.div_div_eq_div_mul, Nat.add_mul_div_left _ _ (Nat.two_pow_pos _), Nat.div_eq_of_lt hu, Nat.zero_add]
    have f1 : s = r + 2 ^ (x + 1) * q := by omega
    have f2 : s + 2 ^ x = (r + 2 ^ x) + 2 ^ (x + 1) * q := by omega
    rw [f2, dd _ (by omega), f1, dd _ (by omega)]
theorem or_add {k l : Nat} (h : btN k l = 0) : k ||| 2 ^ l = k + 2 ^ l := by
  refine Nat.eq_of_testBit_eq (fun i => ?_)
  rw [Nat.testBit_or, Nat.testBit_two_pow]
  have h1 := bt_flip h i
  unfold btN at h1
  rw [Nat.testBit_eq_decide_div_mod_eq, Nat.testBit_eq_decide_div_mod_eq, h1]
  by_cases e : i = l
  · rw [if_pos e, decide_eq_true (show l = i from e.symm)]
    simp
  · rw [if_neg e, decide_eq_false (show ¬ l = i from fun h9 => e h9.symm), Bool.or_false]
theorem cpN_lt {m n : Nat} (hn : n < 32) (hm : m < 2 ^ n) : cpN (pc m) m < biN n (pc m) := by
  rw [← cpN_bi n (pc m) hn]
  have h1 : cpN (pc m) (m + 1) = cpN (pc m) m + 1 := by
    show cpN (pc m) m + (if pc m = pc m then 1 else 0) = _
    rw [if_pos rfl]
  have h2 := cpN_mono (r := pc m) (a := m + 1) (2 ^ n) hm
  omega
/-- the place of a generator -/
theorem ix_lt {ns : Nat → Nat} {dg : Int} {c t m : Nat} (ht : t < 2 ^ c) (hn : ns t ≤ 9) (hm : m < 2 ^ ns t) (hk : kpF (ns t) (pc t) dg = some (pc m)) : smH (bkF ns dg) (pc t) 0 t + cpN (pc m) m < smH (bkF ns dg) (pc t) 0 (2 ^ c) := by
  have h1 := cpN_lt (show ns t < 32 by omega) hm
  have h2 : smH (bkF ns dg) (pc t) 0 (t + 1) = smH (bkF ns dg) (pc t) 0 t + bkF ns dg t := by
    show smH _ _ _ t + (if pc t = pc t then bkF ns dg (0 + t) else 0) = _
    rw [if_pos rfl, Nat.zero_add]
  have h3 := smH_mono (w := bkF ns dg) (h := pc t) (t := 0) (a := t + 1) (2 ^ c) ht
  have h4 : bkF ns dg t = biN (ns t) (pc m) := by
    unfold bkF
    rw [hk]
  omega
/-- how the states are laid out for a degree -/
def LyY (y : ow_MS) (c : Nat) (ns : Nat → Nat) (dg : Int) : Prop := (∀ s, s < 2 ^ c → y.2.1 43007 s = oM (kpF (ns s) (pc s) dg) ∧ y.2.1 43008 s = nI (smH (bkF ns dg) (pc s) 0 s)) ∧ ∀ h, h < 10 → y.2.1 43009 h = nI (smH (bkF ns dg) h 0 (2 ^ c))
theorem LyY_fr {P : Nat → Prop} {y y1 : ow_MS} {c : Nat} {ns : Nat → Nat} {dg : Int} (hf : fr P y y1) (hP : ¬ P 43007 ∧ ¬ P 43008 ∧ ¬ P 43009) (h : LyY y c ns dg) : LyY y1 c ns dg := by
  obtain ⟨h1, h2⟩ := h
  refine ⟨fun s hs => ?_, fun k hk => ?_⟩
  · rw [(hf _ hP.1).2.1, (hf _ hP.2.1).2.1]
    exact h1 s hs
  · rw [(hf _ hP.2.2).2.1]
    exact h2 k hk
theorem tbP_fr {P : Nat → Prop} {y y1 : ow_MS} (hf : fr P y y1) (hP : ¬ P 43005) (h : tbP y) : tbP y1 := fun m hm => by
  rw [(hf _ hP).2.1]
  exact h m hm
section IM2
variable {vl : Nat → Nat} {y : ow_MS} {S : ow_NP} {G : Nat → Int32} {c ci : Nat} {Ls : Nat → Nat → Nat} {ns : Nat → Nat}
theorem tb_flip {s x : Nat} (h : btN s x = 0) : ∀ k, tb (s + 2 ^ x) k = seB (tb s) x true k := by
  intro k
  unfold tb seB
  have := bt_flip h k
  unfold btN at this
  by_cases e : k = x
  · rw [if_pos e] at this ⊢
    rw [this]
    rfl
  · rw [if_neg e] at this ⊢
    rw [this]
theorem u_X1_writeImage_1 {vl : Nat → Nat} {x1 : Int32} {x2 : Int32} {x3 : Int32} {x4 : Int32} {x5 : Int32} {x6 : Int32} {x7 : Int32} {x8 : Int32} {x9 : Int32} {x10 : Int32} {x11 : Int32} {x12 : Int32} {r0 : Nat} {t0 : Int32} {t1 : Int32} {z : ow_MS} {Q : ow_MS → Prop} (H : Tt (fun K k => cm_X1_writeImage_1 vl K (c_X1_writeImage vl K k) x1 x2 x3 x4 x5 x6 x7 x8 x9 x10 x11 x12 r0 t0 t1 z) Q) : Tt (fun K k => c_X1_writeImage vl K k 1 x1 x2 x3 x4 x5 x6 x7 x8 x9 x10 x11 x12 r0 t0 t1 z) Q := w_un (fun _ _ => rfl) H
theorem u_X1_writeImage_8 {vl : Nat → Nat} {x1 : Int32} {x2 : Int32} {x3 : Int32} {x4 : Int32} {x5 : Int32} {x6 : Int32} {x7 : Int32} {x8 : Int32} {x9 : Int32} {x10 : Int32} {x11 : Int32} {x12 : Int32} {r0 : Nat} {t0 : Int32} {t1 : Int32} {z : ow_MS} {Q : ow_MS → Prop} (H : Tt (fun K k => cm_X1_writeImage_8 vl K (c_X1_writeImage vl K k) x1 x2 x3 x4 x5 x6 x7 x8 x9 x10 x11 x12 r0 t0 t1 z) Q) : Tt (fun K k => c_X1_writeImage vl K k 8 x1 x2 x3 x4 x5 x6 x7 x8 x9 x10 x11 x12 r0 t0 t1 z) Q := w_un (fun _ _ => rfl) H
theorem u_X1_writeImage_7 {vl : Nat → Nat} {x1 : Int32} {x2 : Int32} {x3 : Int32} {x4 : Int32} {x5 : Int32} {x6 : Int32} {x7 : Int32} {x8 : Int32} {x9 : Int32} {x10 : Int32} {x11 : Int32} {x12 : Int32} {r0 : Nat} {t0 : Int32} {t1 : Int32} {z : ow_MS} {Q : ow_MS → Prop} (H : Tt (fun K k => cm_X1_writeImage_7 vl K (c_X1_writeImage vl K k) x1 x2 x3 x4 x5 x6 x7 x8 x9 x10 x11 x12 r0 t0 t1 z) Q) : Tt (fun K k => c_X1_writeImage vl K k 7 x1 x2 x3 x4 x5 x6 x7 x8 x9 x10 x11 x12 r0 t0 t1 z) Q := w_un (fun _ _ => rfl) H
theorem u_X1_writeImage_6 {vl : Nat → Nat} {x1 : Int32} {x2 : Int32} {x3 : Int32} {x4 : Int32} {x5 : Int32} {x6 : Int32} {x7 : Int32} {x8 : Int32} {x9 : Int32} {x10 : Int32} {x11 : Int32} {x12 : Int32} {r0 : Nat} {t0 : Int32} {t1 : Int32} {z : ow_MS} {Q : ow_MS → Prop} (H : Tt (fun K k => cm_X1_writeImage_6 vl K (c_X1_writeImage vl K k) x1 x2 x3 x4 x5 x6 x7 x8 x9 x10 x11 x12 r0 t0 t1 z) Q) : Tt (fun K k => c_X1_writeImage vl K k 6 x1 x2 x3 x4 x5 x6 x7 x8 x9 x10 x11 x12 r0 t0 t1 z) Q := w_un (fun _ _ => rfl) H
theorem u_X1_writeImage_5 {vl : Nat → Nat} {x1 : Int32} {x2 : Int32} {x3 : Int32} {x4 : Int32} {x5 : Int32} {x6 : Int32} {x7 : Int32} {x8 : Int32} {x9 : Int32} {x10 : Int32} {x11 : Int32} {x12 : Int32} {r0 : Nat} {t0 : Int32} {t1 : Int32} {z : ow_MS} {Q : ow_MS → Prop} (H : Tt (fun K k => cm_X1_writeImage_5 vl K (c_X1_writeImage vl K k) x1 x2 x3 x4 x5 x6 x7 x8 x9 x10 x11 x12 r0 t0 t1 z) Q) : Tt (fun K k => c_X1_writeImage vl K k 5 x1 x2 x3 x4 x5 x6 x7 x8 x9 x10 x11 x12 r0 t0 t1 z) Q := w_un (fun _ _ => rfl) H
theorem u_X1_writeImage_4 {vl : Nat → Nat} {x1 : Int32} {x2 : Int32} {x3 : Int32} {x4 : Int32} {x5 : Int32} {x6 : Int32} {x7 : Int32} {x8 : Int32} {x9 : Int32} {x10 : Int32} {x11 : Int32} {x12 : Int32} {r0 : Nat} {t0 : Int32} {t1 : Int32} {z : ow_MS} {Q : ow_MS → Prop} (H : Tt (fun K k => cm_X1_writeImage_4 vl K (c_X1_writeImage vl K k) x1 x2 x3 x4 x5 x6 x7 x8 x9 x10 x11 x12 r0 t0 t1 z) Q) : Tt (fun K k => c_X1_writeImage vl K k 4 x1 x2 x3 x4 x5 x6 x7 x8 x9 x10 x11 x12 r0 t0 t1 z) Q := w_un (fun _ _ => rfl) H
theorem u_X1_writeImage_3 {vl : Nat → Nat} {x1 : Int32} {x2 : Int32} {x3 : Int32} {x4 : Int32} {x5 : Int32} {x6 : Int32} {x7 : Int32} {x8 : Int32} {x9 : Int32} {x10 : Int32} {x11 : Int32} {x12 : Int32} {r0 : Nat} {t0 : Int32} {t1 : Int32} {z : ow_MS} {Q : ow_MS → Prop} (H : Tt (fun K k => cm_X1_writeImage_3 vl K (c_X1_writeImage vl K k) x1 x2 x3 x4 x5 x6 x7 x8 x9 x10 x11 x12 r0 t0 t1 z) Q) : Tt (fun K k => c_X1_writeImage vl K k 3 x1 x2 x3 x4 x5 x6 x7 x8 x9 x10 x11 x12 r0 t0 t1 z) Q := w_un (fun _ _ => rfl) H
theorem u_X1_writeImage_2 {vl : Nat → Nat} {x1 : Int32} {x2 : Int32} {x3 : Int32} {x4 : Int32} {x5 : Int32} {x6 : Int32} {x7 : Int32} {x8 : Int32} {x9 : Int32} {x10 : Int32} {x11 : Int32} {x12 : Int32} {r0 : Nat} {t0 : Int32} {t1 : Int32} {z : ow_MS} {Q : ow_MS → Prop} (H : Tt (fun K k => cm_X1_writeImage_2 vl K (c_X1_writeImage vl K k) x1 x2 x3 x4 x5 x6 x7 x8 x9 x10 x11 x12 r0 t0 t1 z) Q) : Tt (fun K k => c_X1_writeImage vl K k 2 x1 x2 x3 x4 x5 x6 x7 x8 x9 x10 x11 x12 r0 t0 t1 z) Q := w_un (fun _ _ => rfl) H
theorem e_X1_writeImage {vl : Nat → Nat} {r0 : Nat} {x1 : Int32} {x2 : Int32} {z : ow_MS} {Q : ow_MS → Prop} (H : Tt (fun K k => c_X1_writeImage vl K k 0 x1 x2 0 0 0 0 0 0 0 0 0 0 r0 0 0 z) Q) : Te (fun K => ce_X1_writeImage vl K r0 x1 x2 z) Q := w_te H
theorem u_X1_writeImage_0 {vl : Nat → Nat} {x1 : Int32} {x2 : Int32} {x3 : Int32} {x4 : Int32} {x5 : Int32} {x6 : Int32} {x7 : Int32} {x8 : Int32} {x9 : Int32} {x10 : Int32} {x11 : Int32} {x12 : Int32} {r0 : Nat} {t0 : Int32} {t1 : Int32} {z : ow_MS} {Q : ow_MS → Prop} (H : Tt (fun K k => cm_X1_writeImage_0 vl K (c_X1_writeImage vl K k) x1 x2 x3 x4 x5 x6 x7 x8 x9 x10 x11 x12 r0 t0 t1 z) Q) : Tt (fun K k => c_X1_writeImage vl K k 0 x1 x2 x3 x4 x5 x6 x7 x8 x9 x10 x11 x12 r0 t0 t1 z) Q := w_un (fun _ _ => rfl) H
theorem tc_writeImage {s m W p : Nat} {dg : Int} {w : Nat → Bool} (hy : cAt y 44000 (c, ci, S, G)) (hv : vn c S) (hc : c ≤ 8) (hw : gaO c S w) (hL : LpY y S G c Ls ns) (hly : LyY y c ns dg) (htb : tbP y) (hs : s < 2 ^ c) (hm : m < 2 ^ ns s) (hk : kpF (ns s) (pc s) dg = some (pc m)) (hW : vl 43011 = W) (hW2 : W < 2 ^ 31) (hsz : smH (bkF ns dg) (pc s + 1) 0 (2 ^ c) ≤ W) (h10 : y.1 43010 = nI p) (hp1 : 2 ≤ p) (hp2 : p ≤ 997) : Te (fun K => ce_X1_writeImage vl K 43000 (nI s) (nI m) y) (fun y1 => fr (fun g => g = 43011) y y1) := by
  let Q : ow_MS → Prop := fun y1 => fr (fun g => g = 43011) y y1
  have h256 : 2 ^ c ≤ 256 := two_mono (b := 8) hc
  have hns := (hL s hs).2
  have hm10 : m < 1024 := Nat.lt_of_lt_of_le hm (two_mono (b := 10) (by omega))
  have c1 : ∀ (d x : Nat) (z : ow_MS), x + d = c → Q z → Tt (fun K k => c_X1_writeImage vl K k 1 (nI s) (nI m) (nI x) 0 0 0 0 0 0 0 0 0 43000 0 0 z) Q := by
    intro d
    induction d with
    | zero =>
      intro x z hx hz
      have hz4 : cAt z 44000 (c, ci, S, G) := cAt_fr hz (fun g hg h9 => by unfold cP at hg; omega) hy
      refine u_X1_writeImage_1 ?_; unfold cm_X1_writeImage_1
      exact w_rdF hz4.1 (w_leT (by show x < 2 ^ 31; omega) (show c ≤ x by omega) (w_some hz))
    | succ d ih =>
      intro x z hx hz
      have hz4 : cAt z 44000 (c, ci, S, G) := cAt_fr hz (fun g hg h9 => by unfold cP at hg; omega) hy
      have hLz : LpY z S G c Ls ns := LpY_fr hz (by decide) hL
      have c8 : ∀ z1, Q z1 → Tt (fun K k => c_X1_writeImage vl K k 8 (nI s) (nI m) (nI x) 0 0 0 0 0 0 0 0 0 43000 0 0 z1) Q := by
        intro z1 hz1
        refine u_X1_writeImage_8 ?_; unfold cm_X1_writeImage_8
        rw [nI_1]
        exact ih (x + 1) z1 (by omega) hz1
      have hxc : x < c := by omega
      by_cases hb : btN s x = 0
      · have ht : s + 2 ^ x < 2 ^ c := st_lt hs hxc hb
        generalize hte : s + 2 ^ x = t at ht
        have hpt : pc t = pc s + 1 := by rw [← hte]; exact pc_add (by omega) hb
        have l1 := (hv (2 * x) (by omega)).2.1
        obtain ⟨⟨s1, s2, s3, s4, s5⟩, s6⟩ := hLz s hs
        obtain ⟨⟨t1, t2, t3, t4, t5⟩, t6⟩ := hLz t ht
        have hbs : tb s x = false := by
          unfold tb
          unfold btN at hb
          rw [hb]
          rfl
        have eT : uPx S G (tb t) c = uPx S G (seB (tb s) x true) c := by
          rw [← hte]
          exact (uPx_c c (fun k _ => tb_flip hb k)).1
        have kind := st_kind (G := G) hv hw hxc hbs
        rw [← eT] at kind
        have labx := lab_x2 (show 2 * x < 2 * c by omega) l1 s4 t4 kind
        have ab : Ls s (2 * x) ≠ Ls s (S.2 (2 * x)) ∧ ns t + 1 = ns s ∨ Ls s (2 * x) = Ls s (S.2 (2 * x)) ∧ ns t = ns s + 1 := by
          rcases kind with k | k
          · refine Or.inl ⟨fun h9 => k.1 ((s4 _ _ (by omega) l1).mp h9), ?_⟩
            have := k.2.2
            omega
          · refine Or.inr ⟨(s4 _ _ (by omega) l1).mpr ((k.2.1 _ _ (by omega) l1).mpr (Or.inr ⟨Or.inl rfl, Or.inr rfl⟩)), ?_⟩
            have := k.2.2
            omega
        have la := (s1 (2 * x) (by omega)).2
        have lb' := (s1 _ l1).2
        have lc := (t1 (2 * x) (by omega)).2
        have le := (t1 _ l1).2
        -- adding at a set of the right size
        have ad : ∀ (z1 : ow_MS) (m' : Nat) (x3 : Int32), Q z1 → m' < 2 ^ ns t → kpF (ns t) (pc t) dg = some (pc m') → Te (fun K => ce_X1_addTo vl K 43000 (nI t) (nI m') x3 z1) Q := by
          intro z1 m' x3 hz1 hm' hk'
          have hm10' : m' < 1024 := Nat.lt_of_lt_of_le hm' (two_mono (b := 10) (by omega))
          have hix := ix_lt ht t6 hm' hk'
          rw [hpt] at hix
          refine w_monoE (tc_addTo (bg := smH (bkF ns dg) (pc t) 0 t) (W := W) (p := p) (by omega) hm10' (tbP_fr hz1 (by decide) htb) ?_ hW hW2 (by rw [hpt]; omega) ?_ hp1 hp2) (fun r hr => fr_tr hz1 hr)
          · rw [(hz1 43008 (by decide)).2.1]
            exact (hly.1 t ht).2
          · rw [(hz1 43010 (by decide)).1]
            exact h10
        have main : ∀ (kp : Nat) (ga : Nat → Nat) (nm : Int32), (∀ l, l < ns t → ga l < 2 * c ∧ Ls t (ga l) = l) → crF m (Ls t (2 * x)) (Ls t (S.2 (2 * x))) (ns t) (fun l => Ls s (ga l)) kp → Tt (fun K k => c_X1_writeImage vl K k 2 (nI s) (nI m) (nI x) (nI t) (nI (Ls s (2 * x))) (nI (Ls s (S.2 (2 * x)))) (nI (Ls t (2 * x))) (nI (Ls t (S.2 (2 * x)))) (nI kp) 0 0 0 43000 nm 0 z) Q := by
          intro kp ga nm hga hkp
          obtain ⟨k1, k2, k3, k4⟩ := hkp
          have hsum := crr_sum (n := ns s) (n' := ns t) (ga := ga) m (show 2 * x < 2 * c by omega) l1 (fun g hg => (s1 g hg).2) (fun g hg => (t1 g hg).2) (fun l hl => by
            obtain ⟨g, g1, -, g3⟩ := s3 l hl
            exact ⟨g, g1, g3⟩) hga labx
          rw [← k2, ← pc_sbt (by omega) hm] at hsum
          have ba : btN m (Ls s (2 * x)) = 0 ∨ btN m (Ls s (2 * x)) = 1 := by unfold btN; omega
          have bb : btN m (Ls s (S.2 (2 * x))) = 0 ∨ btN m (Ls s (S.2 (2 * x))) = 1 := by unfold btN; omega
          have or1 : ∀ l, l < ns t → btN kp l = 0 → nI kp ||| ((1 : Int32) <<< (nI l &&& 31)) = nI (kp + 2 ^ l) := by
            intro l hl hbl
            have h9 : 2 ^ l ≤ 2 ^ 9 := two_mono (by omega)
            have h9' : kp < 2 ^ 9 := Nat.lt_of_lt_of_le k1 (two_mono t6)
            rw [shl1 (by omega), ow_or (by omega) (by omega), or_add hbl]
          have add1 : ∀ l, l < ns t → btN kp l = 0 → kp + 2 ^ l < 2 ^ ns t ∧ pc (kp + 2 ^ l) = pc kp + 1 := fun l hl hbl => ⟨add_lt k1 hl hbl, pc_add (by omega) hbl⟩
          have c7 : ∀ (m' : Nat) (x5 x6 x7 x8 x9 x10 x11 x12 : Int32), m' < 2 ^ ns t → kpF (ns t) (pc t) dg = some (pc m') → Tt (fun K k => c_X1_writeImage vl K k 7 (nI s) (nI m) (nI x) (nI t) x5 x6 x7 x8 x9 x10 x11 x12 43000 (nI m') (nI t) z) Q := by
            intro m' x5 x6 x7 x8 x9 x10 x11 x12 hm' hk'
            refine u_X1_writeImage_7 ?_; unfold cm_X1_writeImage_7
            exact w_cs0 (ad z m' x10 hz hm' hk') (fun z1 h1 => c8 z1 h1)
          -- both bits known
          have c4 : ∀ (fa fb : Nat), fa = btN m (Ls s (2 * x)) → fb = btN m (Ls s (S.2 (2 * x))) → Tt (fun K k => c_X1_writeImage vl K k 4 (nI s) (nI m) (nI x) (nI t) (nI (Ls s (2 * x))) (nI (Ls s (S.2 (2 * x)))) (nI (Ls t (2 * x))) (nI (Ls t (S.2 (2 * x)))) (nI kp) nm (nI fa) 0 43000 (nI fb) 0 z) Q := by
            intro fa fb hfa hfb
            have fa01 : fa = 0 ∨ fa = 1 := by omega
            have fb01 : fb = 0 ∨ fb = 1 := by omega
            rcases ab with ⟨hne, hn1⟩ | ⟨heq, hn1⟩
            · -- two loops become one
              rw [if_neg hne, ← hfa, ← hfb] at hsum
              rw [← hn1] at hk
              have c5 : 1 ≤ fa + fb → Tt (fun K k => c_X1_writeImage vl K k 5 (nI s) (nI m) (nI x) (nI t) (nI (Ls s (2 * x))) (nI (Ls s (S.2 (2 * x)))) (nI (Ls t (2 * x))) (nI (Ls t (S.2 (2 * x)))) (nI kp) nm (nI fa) (nI fb) 43000 0 0 z) Q := by
                intro hab
                have hkt : kpF (ns t) (pc t) dg = some (pc m - 1) := by
                  rw [hpt]
                  refine kpF_m ?_
                  rw [hk]
                  exact congrArg some (by omega)
                have c6 : fa + fb = 1 → Tt (fun K k => c_X1_writeImage vl K k 6 (nI s) (nI m) (nI x) (nI t) (nI (Ls s (2 * x))) (nI (Ls s (S.2 (2 * x)))) (nI (Ls t (2 * x))) (nI (Ls t (S.2 (2 * x)))) (nI kp) nm (nI fa) (nI fb) 43000 (nI t) 0 z) Q := by
                  intro h1
                  refine u_X1_writeImage_6 ?_; unfold cm_X1_writeImage_6
                  exact c7 kp _ _ _ _ _ _ _ _ k1 (by rw [hkt]; exact congrArg some (by omega))
                refine u_X1_writeImage_5 ?_; unfold cm_X1_writeImage_5
                rcases fa01 with h9 | h9
                · exact w_ifT (by rw [h9]; rfl) (c6 (by omega))
                · refine w_ifF (by rw [h9]; decide) ?_
                  rcases fb01 with h8 | h8
                  · exact w_ifT (by rw [h8]; rfl) (c6 (by omega))
                  · refine w_ifF (by rw [h8]; decide) ?_
                    rw [or1 _ lc k3]
                    obtain ⟨d1, d2⟩ := add1 _ lc k3
                    exact c7 _ _ _ _ _ _ _ _ _ d1 (by rw [hkt, d2]; exact congrArg some (by omega))
              refine u_X1_writeImage_4 ?_; unfold cm_X1_writeImage_4
              refine w_ifF (fun h9 => hne (nI_inj9 (by omega) (by omega) h9)) ?_
              rcases fa01 with h9 | h9
              · refine w_ifT (by rw [h9]; rfl) ?_
                rcases fb01 with h8 | h8
                · exact w_ifT (by rw [h8]; rfl) (c8 z hz)
                · exact w_ifF (by rw [h8]; decide) (c5 (by omega))
              · exact w_ifF (by rw [h9]; decide) (c5 (by omega))
            · -- one loop becomes two
              rw [if_pos heq, ← hfa] at hsum
              have hkt : kpF (ns t) (pc t) dg = some (pc m) := by
                rw [hpt, hn1]
                exact kpF_s hk
              refine u_X1_writeImage_4 ?_; unfold cm_X1_writeImage_4
              refine w_ifT (by rw [heq]) ?_
              rcases fa01 with h9 | h9
              · exact w_ifT (by rw [h9]; rfl) (w_cs0 (ad z kp nm hz k1 (by rw [hkt]; exact congrArg some (by omega))) (fun z1 h1 => c8 z1 h1))
              · refine w_ifF (by rw [h9]; decide) ?_
                rw [or1 _ lc k3, or1 _ le k4]
                obtain ⟨d1, d2⟩ := add1 _ lc k3
                obtain ⟨d3, d4⟩ := add1 _ le k4
                exact w_cs0 (ad z _ nm hz d1 (by rw [hkt, d2]; exact congrArg some (by omega))) (fun z1 h1 => w_cs0 (ad z1 _ nm h1 d3 (by rw [hkt, d4]; exact congrArg some (by omega))) (fun z2 h2 => c8 z2 h2))
          have c3 : ∀ fa : Nat, fa = btN m (Ls s (2 * x)) → Tt (fun K k => c_X1_writeImage vl K k 3 (nI s) (nI m) (nI x) (nI t) (nI (Ls s (2 * x))) (nI (Ls s (S.2 (2 * x)))) (nI (Ls t (2 * x))) (nI (Ls t (S.2 (2 * x)))) (nI kp) nm 0 0 43000 (nI fa) 0 z) Q := by
            intro fa hfa
            refine u_X1_writeImage_3 ?_; unfold cm_X1_writeImage_3
            rw [crS hm10 (by omega)]
            rcases bb with h9 | h9
            · exact w_ifT (by rw [h9]; rfl) (c4 fa 0 hfa h9.symm)
            · exact w_ifF (by rw [h9]; decide) (c4 fa 1 hfa h9.symm)
          refine u_X1_writeImage_2 ?_; unfold cm_X1_writeImage_2
          rw [crS hm10 (by omega)]
          rcases ba with h9 | h9
          · exact w_ifT (by rw [h9]; rfl) (c3 0 h9.symm)
          · exact w_ifF (by rw [h9]; decide) (c3 1 h9.symm)
        have eor : nI s ||| ((1 : Int32) <<< (nI x &&& 31)) = nI t := by
          rw [← hte]
          exact st_or (by omega) (by omega) hb
        refine u_X1_writeImage_1 ?_; unfold cm_X1_writeImage_1
        rw [bit_nI (by omega) (by omega), hb, eor, rn_mul2, i16, i16]
        refine w_rdF hz4.1 (w_leF (show c < 2 ^ 31 by omega) (show x < c by omega) (w_ifT rfl (w_crI ch_43002 rfl (by omega) (s1 (2 * x) (by omega)).1 (w_cs1 (tc_otherLoop hz4 hv hc hLz hs hxc) ?_))))
        rintro v1 z1 e1
        cases e1
        refine w_crI ch_43002 rfl (by omega) (t1 (2 * x) (by omega)).1 (w_cs1 (tc_otherLoop hz4 hv hc hLz ht hxc) ?_)
        rintro v2 z2 e2
        cases e2
        refine w_cs1 (tc_carry hc hLz hs ht hm10 (show Ls t (2 * x) < 10 by omega) (show Ls t (S.2 (2 * x)) < 10 by omega)) ?_
        rintro v3 z3 ⟨e3, kp, ga, q1, q2, q3⟩
        dsimp only at e3 q2
        rw [e3, q2]
        exact w_if (fun _ => main kp ga _ q1 q3) (fun _ => w_rdF rfl (main kp ga _ q1 q3))
      · have hb1 : btN s x = 1 := by unfold btN at hb ⊢; omega
        refine u_X1_writeImage_1 ?_; unfold cm_X1_writeImage_1
        rw [bit_nI (by omega) (by omega), hb1]
        exact w_rdF hz4.1 (w_leF (show c < 2 ^ 31 by omega) (show x < c by omega) (w_ifF (by decide) (c8 z hz)))
  refine e_X1_writeImage ?_
  refine u_X1_writeImage_0 ?_; unfold cm_X1_writeImage_0
  exact c1 c 0 y (by omega) fr_rf
end IM2
end
section
/-! 99zzzzzzzo.cdv -/
/-! the class: rows that grow -/
def gQ {α : Type} (vl : Nat → Nat) (Q : α × (Nat → Nat) × ow_MS → Prop) : α × (Nat → Nat) × ow_MS → Prop := fun r => dPhi vl ≤ dPhi r.2.1 ∧ Q r
section DV
variable {α O : Type} {vl v : Nat → Nat} {z : ow_MS}
theorem w_chV {E : Nat → Nat → Option (α × (Nat → Nat) × ow_MS)} {Q : α × (Nat → Nat) × ow_MS → Prop} (h : dPhi vl ≤ dPhi v) (H : Tt E (gQ v Q)) : Tt (fun K k => chV v (E K k)) (gQ vl Q) := by
  obtain ⟨r, ⟨b, hb⟩, h1, h2⟩ := H
  refine ⟨r, ⟨b, fun K k hK hk => ?_⟩, Nat.le_trans h h1, h2⟩
  show chV v (E K k) = some r
  rw [hb K k hK hk]
  show (if dPhi v ≤ dPhi r.2.1 then some r else none) = some r
  rw [if_pos h1]
theorem w_dc1 {f : Nat → Option (α × (Nat → Nat) × ow_MS)} {R : α × (Nat → Nat) × ow_MS → Prop} {Q : O → Prop} {E : α → (Nat → Nat) → ow_MS → Nat → Nat → Option O} (hc : Te f R) (H : ∀ a w z1, R (a, w, z1) → Tt (E a w z1) Q) : Tt (fun K k => dc1 (f K) (fun a w z => E a w z K k)) Q := by
  obtain ⟨⟨a, w, z1⟩, ⟨b, hb⟩, h1⟩ := hc
  obtain ⟨r, ⟨b2, hb2⟩, h2⟩ := H a w z1 h1
  refine ⟨r, ⟨max b b2, fun K k hK hk => ?_⟩, h2⟩
  show dc1 (f K) _ = some r
  rw [hb K (by omega)]
  exact hb2 K k (by omega) (by omega)
theorem nI_nat {n : Nat} (h : n < 2 ^ 31) : (nI n).toNatClampNeg = n := by
  have := nI_toInt h
  show (nI n).toInt.toNat = n
  rw [this]
  omega
theorem w_nwR {E : (Nat → Nat) → ow_MS → Nat → Nat → Option O} {Q : O → Prop} {h n : Nat} (h1 : n ≤ 100000000) (h2 : 2 * vl h ≤ n) (h3 : vl h + 640 ≤ n) (H : Tt (E (usV vl h n) (usR z h (fun _ => 0))) Q) : Tt (fun K k => nwR vl z h (nI n) (fun w z1 => E w z1 K k)) Q := by
  have e := nI_nat (n := n) (by omega)
  have h0 : ¬ nI n < 0 := nI_nlt (b := 0) (Nat.zero_le _) (by omega)
  unfold nwR
  rw [e]
  refine w_ifF (fun h9 => ?_) H
  rcases h9 with h9 | h9
  · exact h0 h9
  · omega
theorem w_cpR {E : (Nat → Nat) → ow_MS → Nat → Nat → Option O} {Q : O → Prop} {h n : Nat} (h1 : n ≤ 100000000) (h2 : 2 * vl h ≤ n) (h3 : vl h + 640 ≤ n) (H : Tt (E (usV vl h n) (usR z h (va_cpy (z.2.1 h) (fun _ => 0) 0 0 (vl h)))) Q) : Tt (fun K k => cpR vl z h (nI n) (fun w z1 => E w z1 K k)) Q := by
  have e := nI_nat (n := n) (by omega)
  have h0 : ¬ nI n < 0 := nI_nlt (b := 0) (Nat.zero_le _) (by omega)
  unfold cpR
  rw [e]
  refine w_ifF (fun h9 => ?_) H
  rcases h9 with h9 | h9
  · exact h0 h9
  · omega
theorem dPhi_u2 {h n : Nat} (hh : h ∈ dynL) (hn : v h ≤ n) : dPhi v ≤ dPhi (usV v h n) := by
  unfold dynL at hh
  simp only [List.mem_cons, List.not_mem_nil, or_false] at hh
  unfold dPhi usV
  rcases hh with rfl | rfl | rfl | rfl | rfl | rfl <;> simp <;> omega
/-- the lengths of the rows that grow -/
def vI (v : Nat → Nat) (W C : Nat) : Prop := v 43011 = W ∧ v 43012 = W ∧ v 43013 = W ∧ v 43014 = W ∧ v 43015 = C ∧ v 43016 = C ∧ 640 ≤ W ∧ W ≤ 2280 ∧ 20000 ≤ C ∧ C ≤ 1303020
theorem vI_phi {W C : Nat} (h : vI v W C) : dPhi v = 4 * W + 2 * C := by
  obtain ⟨h1, h2, h3, h4, h5, h6, -⟩ := h
  unfold dPhi
  omega
end DV
section DV2
variable {vl : Nat → Nat} {y : ow_MS} {W C : Nat}
theorem e_X1_makeRoom {r0 : Nat} {x1 : Int32} {vl : Nat → Nat} {z : ow_MS} {Q : (Unit × (Nat → Nat) × ow_MS) → Prop} (H : Tt (fun K k => d_X1_makeRoom K k 0 x1 r0 vl z) Q) : Te (fun K => de_X1_makeRoom K r0 x1 vl z) Q := w_te H
theorem u_X1_makeRoom_0 {x1 : Int32} {r0 : Nat} {vl : Nat → Nat} {z : ow_MS} {Q : (Unit × (Nat → Nat) × ow_MS) → Prop} (H : Tt (fun K k => dm_X1_makeRoom_0 K (d_X1_makeRoom K k) x1 r0 vl z) (gQ vl Q)) : Tt (fun K k => d_X1_makeRoom K k 0 x1 r0 vl z) (gQ vl Q) := w_un (fun _ _ => rfl) (w_chV (Nat.le_refl _) H)
theorem tc_makeRoom {n : Nat} (hv : vI vl W C) (hn : n ≤ 1140) : Te (fun K => de_X1_makeRoom K 43000 (nI n) vl y) (gQ vl (fun r => fr (fun g => g = 43011 ∨ g = 43012 ∨ g = 43013 ∨ g = 43014) y r.2.2 ∧ ∃ W', vI r.2.1 W' C ∧ W ≤ W' ∧ n ≤ W')) := by
  obtain ⟨h1, h2, h3, h4, h5, h6, h7, h8, h9, h10⟩ := hv
  refine e_X1_makeRoom ?_
  refine u_X1_makeRoom_0 ?_; unfold dm_X1_makeRoom_0
  rw [show uw_len (cX vl) y (43000 + 11) = W from ch_43011.trans h1]
  refine w_le (a := n) (b := W) (by omega) (by omega) (fun hle => w_some ⟨Nat.le_refl _, fr_rf, W, ⟨h1, h2, h3, h4, h5, h6, h7, h8, h9, h10⟩, Nat.le_refl _, hle⟩) (fun hlt => ?_)
  have p1 : ∀ v : Nat → Nat, ∀ h, h ∈ dynL → v h = W → dPhi v ≤ dPhi (usV v h (2 * n)) := fun v h hh e => dPhi_u2 hh (by omega)
  rw [rn_mul2]
  have q1 := p1 vl 43011 (by decide) h1
  have q2 := p1 (usV vl 43011 (2 * n)) 43012 (by decide) h2
  have q3 := p1 (usV (usV vl 43011 (2 * n)) 43012 (2 * n)) 43013 (by decide) h3
  have q4 := p1 (usV (usV (usV vl 43011 (2 * n)) 43012 (2 * n)) 43013 (2 * n)) 43014 (by decide) h4
  refine w_nwR (h := 43011) (by omega) (by omega) (by omega) (w_chV q1 ?_)
  refine w_nwR (h := 43012) (by omega) (by show 2 * vl 43012 ≤ _; omega) (by show vl 43012 + 640 ≤ _; omega) (w_chV q2 ?_)
  refine w_nwR (h := 43013) (by omega) (by show 2 * vl 43013 ≤ _; omega) (by show vl 43013 + 640 ≤ _; omega) (w_chV q3 ?_)
  refine w_nwR (h := 43014) (by omega) (by show 2 * vl 43014 ≤ _; omega) (by show vl 43014 + 640 ≤ _; omega) (w_chV q4 ?_)
  refine w_some ⟨Nat.le_refl _, fr_R2 (fr_R2 (fr_R2 (fr_R2 fr_rf (Or.inl rfl)) (Or.inr (Or.inl rfl))) (Or.inr (Or.inr (Or.inl rfl)))) (Or.inr (Or.inr (Or.inr rfl))), 2 * n, ⟨rfl, rfl, rfl, rfl, h5, h6, by omega, by omega, h9, h10⟩, by omega, by omega⟩
theorem u_X1_reciprocal_1 {vl : Nat → Nat} {x1 : Int32} {x2 : Int32} {x3 : Int32} {x4 : Int32} {r0 : Nat} {t0 : Int32} {z : ow_MS} {Q : (Int32 × ow_MS) → Prop} (H : Tt (fun K k => cm_X1_reciprocal_1 vl K (c_X1_reciprocal vl K k) x1 x2 x3 x4 r0 t0 z) Q) : Tt (fun K k => c_X1_reciprocal vl K k 1 x1 x2 x3 x4 r0 t0 z) Q := w_un (fun _ _ => rfl) H
theorem u_X1_reciprocal_2 {vl : Nat → Nat} {x1 : Int32} {x2 : Int32} {x3 : Int32} {x4 : Int32} {r0 : Nat} {t0 : Int32} {z : ow_MS} {Q : (Int32 × ow_MS) → Prop} (H : Tt (fun K k => cm_X1_reciprocal_2 vl K (c_X1_reciprocal vl K k) x1 x2 x3 x4 r0 t0 z) Q) : Tt (fun K k => c_X1_reciprocal vl K k 2 x1 x2 x3 x4 r0 t0 z) Q := w_un (fun _ _ => rfl) H
theorem e_X1_reciprocal {vl : Nat → Nat} {r0 : Nat} {x1 : Int32} {z : ow_MS} {Q : (Int32 × ow_MS) → Prop} (H : Tt (fun K k => c_X1_reciprocal vl K k 0 x1 0 0 0 r0 0 z) Q) : Te (fun K => ce_X1_reciprocal vl K r0 x1 z) Q := w_te H
theorem u_X1_reciprocal_0 {vl : Nat → Nat} {x1 : Int32} {x2 : Int32} {x3 : Int32} {x4 : Int32} {r0 : Nat} {t0 : Int32} {z : ow_MS} {Q : (Int32 × ow_MS) → Prop} (H : Tt (fun K k => cm_X1_reciprocal_0 vl K (c_X1_reciprocal vl K k) x1 x2 x3 x4 r0 t0 z) Q) : Tt (fun K k => c_X1_reciprocal vl K k 0 x1 x2 x3 x4 r0 t0 z) Q := w_un (fun _ _ => rfl) H
theorem tc_reciprocal {p : Nat} {x : Int32} (h10 : y.1 43010 = nI p) (hp1 : 2 ≤ p) (hp2 : p ≤ 997) : Te (fun K => ce_X1_reciprocal vl K 43000 x y) (fun r => r.2 = y) := by
  have hnz : nI p ≠ 0 := fun h9 => by
    have := (nI_eq (a := p) (b := 0) (by omega) (by omega)).mp h9
    omega
  have hsh : ∀ l : Fin 1024, nI l.val >>> ((1 : Int32) &&& 31) = nI (l.val / 2) := by decide +kernel
  have c1 : ∀ (d l : Nat) (x2 x3 : Int32), l ≤ d → l < 1024 → Tt (fun K k => c_X1_reciprocal vl K k 1 x x2 x3 (nI l) 43000 0 y) (fun r => r.2 = y) := by
    intro d
    induction d with
    | zero =>
      intro l x2 x3 hl _
      refine u_X1_reciprocal_1 ?_; unfold cm_X1_reciprocal_1
      exact w_leT (b := 0) (by omega) hl (w_some rfl)
    | succ d ih =>
      intro l x2 x3 hl h1
      refine u_X1_reciprocal_1 ?_; unfold cm_X1_reciprocal_1
      refine w_le (b := 0) (by omega) (by omega) (fun _ => w_some rfl) (fun hlt => ?_)
      have c2 : ∀ t0 : Int32, Tt (fun K k => c_X1_reciprocal vl K k 2 x x2 x3 (nI l) 43000 t0 y) (fun r => r.2 = y) := by
        intro t0
        refine u_X1_reciprocal_2 ?_; unfold cm_X1_reciprocal_2
        rw [hsh ⟨l, h1⟩]
        exact w_rdF h10 (w_nzI hnz (ih (l / 2) _ _ (by omega) (by omega)))
      exact w_if (fun _ => w_rdF h10 (w_nzI hnz (c2 _))) (fun _ => c2 _)
  refine e_X1_reciprocal ?_
  refine u_X1_reciprocal_0 ?_; unfold cm_X1_reciprocal_0
  refine w_rdF h10 ?_
  rw [show nI p - 2 = nI (p - 2) from pk_sub (b := 2) hp1]
  exact c1 _ _ _ _ (Nat.le_refl _) (by omega)
theorem u_X1_addCircle_2 {vl : Nat → Nat} {x1 : Int32} {x2 : Int32} {x3 : Int32} {x4 : Int32} {x5 : Int32} {r0 : Nat} {t0 : Int32} {z : ow_MS} {Q : ow_MS → Prop} (H : Tt (fun K k => cm_X1_addCircle_2 vl K (c_X1_addCircle vl K k) x1 x2 x3 x4 x5 r0 t0 z) Q) : Tt (fun K k => c_X1_addCircle vl K k 2 x1 x2 x3 x4 x5 r0 t0 z) Q := w_un (fun _ _ => rfl) H
theorem u_X1_addCircle_3 {vl : Nat → Nat} {x1 : Int32} {x2 : Int32} {x3 : Int32} {x4 : Int32} {x5 : Int32} {r0 : Nat} {t0 : Int32} {z : ow_MS} {Q : ow_MS → Prop} (H : Tt (fun K k => cm_X1_addCircle_3 vl K (c_X1_addCircle vl K k) x1 x2 x3 x4 x5 r0 t0 z) Q) : Tt (fun K k => c_X1_addCircle vl K k 3 x1 x2 x3 x4 x5 r0 t0 z) Q := w_un (fun _ _ => rfl) H
theorem u_X1_addCircle_1 {vl : Nat → Nat} {x1 : Int32} {x2 : Int32} {x3 : Int32} {x4 : Int32} {x5 : Int32} {r0 : Nat} {t0 : Int32} {z : ow_MS} {Q : ow_MS → Prop} (H : Tt (fun K k => cm_X1_addCircle_1 vl K (c_X1_addCircle vl K k) x1 x2 x3 x4 x5 r0 t0 z) Q) : Tt (fun K k => c_X1_addCircle vl K k 1 x1 x2 x3 x4 x5 r0 t0 z) Q := w_un (fun _ _ => rfl) H
theorem e_X1_addCircle {vl : Nat → Nat} {r0 : Nat} {z : ow_MS} {Q : ow_MS → Prop} (H : Tt (fun K k => c_X1_addCircle vl K k 0 0 0 0 0 0 r0 0 z) Q) : Te (fun K => ce_X1_addCircle vl K r0 z) Q := w_te H
theorem u_X1_addCircle_0 {vl : Nat → Nat} {x1 : Int32} {x2 : Int32} {x3 : Int32} {x4 : Int32} {x5 : Int32} {r0 : Nat} {t0 : Int32} {z : ow_MS} {Q : ow_MS → Prop} (H : Tt (fun K k => cm_X1_addCircle_0 vl K (c_X1_addCircle vl K k) x1 x2 x3 x4 x5 r0 t0 z) Q) : Tt (fun K k => c_X1_addCircle vl K k 0 x1 x2 x3 x4 x5 r0 t0 z) Q := w_un (fun _ _ => rfl) H
theorem tc_addCircle : Te (fun K => ce_X1_addCircle vl K 43000 y) (fun y1 => fr (fun g => g = 43018) y y1) := by
  let Q : ow_MS → Prop := fun y1 => fr (fun g => g = 43018) y y1
  have c2 : ∀ (o : Nat), o ≤ 8 → (∀ z, Q z → Tt (fun K k => c_X1_addCircle vl K k 1 (nI (o + 1)) 0 0 0 0 43000 0 z) Q) → ∀ (d q : Nat) (x3 : Int32) (z : ow_MS), q + d = 56 → Q z → Tt (fun K k => c_X1_addCircle vl K k 2 (nI o) (nI (56 * o)) x3 (nI q) 0 43000 0 z) Q := by
    intro o ho hnext d
    induction d with
    | zero =>
      intro q x3 z hq hz
      refine u_X1_addCircle_2 ?_; unfold cm_X1_addCircle_2
      refine w_leT (a := 56) (b := q) (by omega) (by omega) ?_
      rw [nI_1]
      exact hnext z hz
    | succ d ih =>
      intro q x3 z hq hz
      have c3 : ∀ x5 t0 : Int32, Tt (fun K k => c_X1_addCircle vl K k 3 (nI o) (nI (56 * o)) x3 (nI q) x5 43000 t0 z) Q := by
        intro x5 t0
        refine u_X1_addCircle_3 ?_; unfold cm_X1_addCircle_3
        rw [nI_add, nI_1]
        exact w_ctI ch_43018 rfl (by omega) (ih (q + 1) _ _ (by omega) (fr_I2 hz rfl))
      refine u_X1_addCircle_2 ?_; unfold cm_X1_addCircle_2
      rw [nI_add, nI_1 q]
      exact w_leF (a := 56) (b := q) (by omega) (by omega) (w_crI ch_43018 rfl (by omega) rfl (w_le (a := 56) (b := q + 1) (by omega) (by omega) (fun _ => c3 _ _) (fun h9 => w_crI ch_43018 (nI_1 _) (by omega) rfl (c3 _ _))))
  have c1 : ∀ (d o : Nat) (z : ow_MS), o + d = 9 → Q z → Tt (fun K k => c_X1_addCircle vl K k 1 (nI o) 0 0 0 0 43000 0 z) Q := by
    intro d
    induction d with
    | zero =>
      intro o z ho hz
      refine u_X1_addCircle_1 ?_; unfold cm_X1_addCircle_1
      exact w_ltT (a := 8) (b := o) (by omega) (by omega) (w_some hz)
    | succ d ih =>
      intro o z ho hz
      refine u_X1_addCircle_1 ?_; unfold cm_X1_addCircle_1
      refine w_ltF (a := 8) (b := o) (by omega) (by omega) ?_
      rw [show nI o * 56 = nI (56 * o) from (Int32.mul_comm _ _).trans (pk_mul 56 o)]
      exact c2 o (by omega) (fun z1 h1 => ih (o + 1) z1 (by omega) h1) 56 0 _ z (by omega) hz
  refine e_X1_addCircle ?_
  refine u_X1_addCircle_0 ?_; unfold cm_X1_addCircle_0
  exact c1 9 0 y (by omega) fr_rf
theorem u_X11_isPrime_1 {vl : Nat → Nat} {x0 : Int32} {x1 : Int32} {z : ow_MS} {Q : (Int32 × ow_MS) → Prop} (H : Tt (fun K k => cm_X11_isPrime_1 vl K (c_X11_isPrime vl K k) x0 x1 z) Q) : Tt (fun K k => c_X11_isPrime vl K k 1 x0 x1 z) Q := w_un (fun _ _ => rfl) H
theorem e_X11_isPrime {vl : Nat → Nat} {x0 : Int32} {z : ow_MS} {Q : (Int32 × ow_MS) → Prop} (H : Tt (fun K k => c_X11_isPrime vl K k 0 x0 0 z) Q) : Te (fun K => ce_X11_isPrime vl K x0 z) Q := w_te H
theorem u_X11_isPrime_0 {vl : Nat → Nat} {x0 : Int32} {x1 : Int32} {z : ow_MS} {Q : (Int32 × ow_MS) → Prop} (H : Tt (fun K k => cm_X11_isPrime_0 vl K (c_X11_isPrime vl K k) x0 x1 z) Q) : Tt (fun K k => c_X11_isPrime vl K k 0 x0 x1 z) Q := w_un (fun _ _ => rfl) H
theorem tc_isPrime {p : Nat} (hp2 : 2 ≤ p) (hp9 : p ≤ 997) : Te (fun K => ce_X11_isPrime vl K (nI p) y) (fun r => r.2 = y ∧ (r.1 = 1 ∧ prT p ∨ r.1 = 0 ∧ ¬ prT p)) := by
  let Q : Int32 × ow_MS → Prop := fun r => r.2 = y ∧ (r.1 = 1 ∧ prT p ∨ r.1 = 0 ∧ ¬ prT p)
  have key : ∀ (d k : Nat), k + d = 32 → 2 ≤ k → (∀ j, 2 ≤ j → j < k → p % j ≠ 0) → Tt (fun K i => c_X11_isPrime vl K i 1 (nI p) (nI k) y) Q := by
    intro d
    induction d with
    | zero =>
      intro k hk hk2 hall
      have hk : k = 32 := by omega
      subst hk
      refine u_X11_isPrime_1 ?_; unfold cm_X11_isPrime_1
      rw [pk_mul]
      refine w_ltT (by omega) (by omega) (w_okZ (Or.inr rfl) (w_some ⟨rfl, Or.inl ⟨rfl, hp2, fun j hj hjj => hall j hj ?_⟩⟩))
      rcases Nat.lt_or_ge j 32 with h8 | h8
      · exact h8
      · have := Nat.mul_le_mul h8 h8
        omega
    | succ d ih =>
      intro k hk hk2 hall
      have hkk : k * k ≤ 1024 := Nat.mul_le_mul (show k ≤ 32 by omega) (show k ≤ 32 by omega)
      refine u_X11_isPrime_1 ?_; unfold cm_X11_isPrime_1
      rw [pk_mul, pk_rem (by omega) (by omega) (by omega)]
      refine w_lt (by omega) (by omega) (fun hlt => w_okZ (Or.inr rfl) (w_some ⟨rfl, Or.inl ⟨rfl, hp2, fun j hj hjj => hall j hj ?_⟩⟩)) (fun hge => w_nzI (fun e => by have := (nI_eq (a := k) (b := 0) (by omega) (by omega)).mp e; omega) ?_)
      · rcases Nat.lt_or_ge j k with h8 | h8
        · exact h8
        · have := Nat.mul_le_mul h8 h8
          omega
      · have hm : p % k < k := Nat.mod_lt _ (by omega)
        refine w_eqN (a := p % k) (b := 0) (by omega) (by omega) (fun h0 => w_okZ (Or.inl rfl) (w_some ⟨rfl, Or.inr ⟨rfl, fun h9 => h9.2 k hk2 hge h0⟩⟩)) (fun h0 => ?_)
        rw [nI_1]
        refine ih (k + 1) (by omega) (by omega) (fun j hj hjk => ?_)
        rcases Nat.lt_or_ge j k with h8 | h8
        · exact hall j hj h8
        · rw [show j = k by omega]
          exact h0
  refine e_X11_isPrime ?_
  refine u_X11_isPrime_0 ?_; unfold cm_X11_isPrime_0
  exact key 30 2 rfl (by omega) (fun j h1 h2 => by omega)
end DV2
end
section
/-! 99zzzzzzzp.ckeep -/
/-! the class: kept rows -/
def suR (f : Nat → Int32) (w : Nat) : Nat → Nat
  | 0 => 0
  | n + 1 => suR f w n + (if f n = -1 then 0 else w - n)
theorem suR_le (f : Nat → Int32) (w : Nat) : ∀ n, n ≤ w → 2 * suR f w n + (w - n) * (w - n + 1) ≤ w * (w + 1) := by
  intro n
  induction n with
  | zero =>
    intro _
    show 2 * 0 + _ ≤ _
    rw [Nat.sub_zero]
    omega
  | succ n ih =>
    intro h
    have h1 := ih (by omega)
    show 2 * (suR f w n + (if f n = -1 then 0 else w - n)) + _ ≤ _
    obtain ⟨m, hm⟩ : ∃ m, w - n = m + 1 := ⟨w - n - 1, by omega⟩
    rw [hm] at h1 ⊢
    rw [show w - (n + 1) = m by omega]
    have h2 : (m + 1) * (m + 1 + 1) = m * (m + 1) + 2 * (m + 1) := by
      rw [Nat.add_mul m 1 (m + 1 + 1), Nat.mul_add m (m + 1) 1]
      omega
    split <;> omega
theorem suR_set {f g : Nat → Int32} {w k : Nat} (hf : f k = -1) (hg : g k ≠ -1) (hne : ∀ j, j ≠ k → g j = f j) : ∀ n, suR g w n = suR f w n + (if k < n then w - k else 0) := by
  intro n
  induction n with
  | zero => rfl
  | succ n ih =>
    show suR g w n + _ = suR f w n + _ + _
    rw [ih]
    by_cases e : n = k
    · subst e
      rw [if_neg hg, if_pos hf, if_neg (Nat.lt_irrefl _), if_pos (Nat.lt_succ_self _)]
    · rw [hne n e]
      have e1 : (if k < n + 1 then w - k else 0) = if k < n then w - k else 0 := by
        by_cases h : k < n
        · rw [if_pos h, if_pos (show k < n + 1 by omega)]
        · rw [if_neg h, if_neg (show ¬ k < n + 1 by omega)]
      rw [e1]
      omega
/-- the kept rows -/
def rI (z : ow_MS) (w u C : Nat) : Prop := z.1 43017 = nI u ∧ u ≤ suR (z.2.1 43012) w w ∧ u ≤ C ∧ (∀ c, c < w → z.2.1 43012 c = -1 ∨ ∃ a b, z.2.1 43012 c = nI a ∧ a < 2 ^ 31 ∧ z.2.1 43013 c = nI b ∧ b ≤ u) ∧ ∀ i, i < u → ∃ j, z.2.1 43015 i = nI j ∧ j < w
def kpG (g : Nat) : Prop := g = 43011 ∨ g = 43012 ∨ g = 43013 ∨ g = 43015 ∨ g = 43016 ∨ g = 43017
section KP
variable {vl : Nat → Nat} {y : ow_MS} {W C : Nat}
theorem u_X1_keepRow_2 {x1 : Int32} {x2 : Int32} {x3 : Int32} {x4 : Int32} {r0 : Nat} {vl : Nat → Nat} {z : ow_MS} {Q : (Unit × (Nat → Nat) × ow_MS) → Prop} (H : Tt (fun K k => dm_X1_keepRow_2 K (d_X1_keepRow K k) x1 x2 x3 x4 r0 vl z) (gQ vl Q)) : Tt (fun K k => d_X1_keepRow K k 2 x1 x2 x3 x4 r0 vl z) (gQ vl Q) := w_un (fun _ _ => rfl) (w_chV (Nat.le_refl _) H)
theorem u_X1_keepRow_3 {x1 : Int32} {x2 : Int32} {x3 : Int32} {x4 : Int32} {r0 : Nat} {vl : Nat → Nat} {z : ow_MS} {Q : (Unit × (Nat → Nat) × ow_MS) → Prop} (H : Tt (fun K k => dm_X1_keepRow_3 K (d_X1_keepRow K k) x1 x2 x3 x4 r0 vl z) (gQ vl Q)) : Tt (fun K k => d_X1_keepRow K k 3 x1 x2 x3 x4 r0 vl z) (gQ vl Q) := w_un (fun _ _ => rfl) (w_chV (Nat.le_refl _) H)
theorem u_X1_keepRow_1 {x1 : Int32} {x2 : Int32} {x3 : Int32} {x4 : Int32} {r0 : Nat} {vl : Nat → Nat} {z : ow_MS} {Q : (Unit × (Nat → Nat) × ow_MS) → Prop} (H : Tt (fun K k => dm_X1_keepRow_1 K (d_X1_keepRow K k) x1 x2 x3 x4 r0 vl z) (gQ vl Q)) : Tt (fun K k => d_X1_keepRow K k 1 x1 x2 x3 x4 r0 vl z) (gQ vl Q) := w_un (fun _ _ => rfl) (w_chV (Nat.le_refl _) H)
theorem e_X1_keepRow {r0 : Nat} {x1 : Int32} {x2 : Int32} {vl : Nat → Nat} {z : ow_MS} {Q : (Unit × (Nat → Nat) × ow_MS) → Prop} (H : Tt (fun K k => d_X1_keepRow K k 0 x1 x2 0 0 r0 vl z) Q) : Te (fun K => de_X1_keepRow K r0 x1 x2 vl z) Q := w_te H
theorem u_X1_keepRow_0 {x1 : Int32} {x2 : Int32} {x3 : Int32} {x4 : Int32} {r0 : Nat} {vl : Nat → Nat} {z : ow_MS} {Q : (Unit × (Nat → Nat) × ow_MS) → Prop} (H : Tt (fun K k => dm_X1_keepRow_0 K (d_X1_keepRow K k) x1 x2 x3 x4 r0 vl z) (gQ vl Q)) : Tt (fun K k => d_X1_keepRow K k 0 x1 x2 x3 x4 r0 vl z) (gQ vl Q) := w_un (fun _ _ => rfl) (w_chV (Nat.le_refl _) H)
theorem tc_keepRow {f w u p : Nat} (hv : vI vl W C) (hw : w ≤ 1140) (hwW : w ≤ W) (hf : f < w) (hI : rI y w u C) (hnf : y.2.1 43012 f = -1) (h10 : y.1 43010 = nI p) (hp1 : 2 ≤ p) (hp2 : p ≤ 997) : Te (fun K => de_X1_keepRow K 43000 (nI f) (nI w) vl y) (gQ vl (fun r => fr kpG y r.2.2 ∧ ∃ C' u', vI r.2.1 W C' ∧ rI r.2.2 w u' C')) := by
  obtain ⟨i1, i2, i3, i4, i5⟩ := hI
  have hnz : nI p ≠ 0 := fun h9 => by
    have := (nI_eq (a := p) (b := 0) (by omega) (by omega)).mp h9
    omega
  have hsu := suR_le (y.2.1 43012) w w (Nat.le_refl _)
  have hww : w * (w + 1) ≤ 1300740 := Nat.mul_le_mul hw (show w + 1 ≤ 1141 by omega)
  have hu : u ≤ 650370 := by omega
  -- from the second label on
  have tl0 : ∀ (v : Nat → Nat) (z : ow_MS) (C' : Nat), dPhi vl ≤ dPhi v → vI v W C' → u + w - f ≤ C' → fr kpG y z → z.1 43017 = nI u → (z.2.1 43012 = y.2.1 43012) → (z.2.1 43013 = y.2.1 43013) → (∀ i, i < u → z.2.1 43015 i = y.2.1 43015 i) → Tt (fun K k => d_X1_keepRow K k 1 (nI f) (nI w) 0 0 43000 v z) (gQ v (fun r => fr kpG y r.2.2 ∧ ∃ C' u', vI r.2.1 W C' ∧ rI r.2.2 w u' C')) := by
    intro v z C' hphi hv' hroom hz g17a e12 e13 e15
    obtain ⟨h1, h2, h3, h4, h5, h6, h7, h8, h9, h0⟩ := hv'
    have lp0 : ∀ (d c u' : Nat) (x3 : Int32) (z1 : ow_MS), c + d = w → f ≤ c → u' ≤ u + (c - f) → u ≤ u' → fr kpG y z1 → z1.1 43017 = nI u' → (z1.2.1 43012 f = nI u ∧ ∀ j, j ≠ f → z1.2.1 43012 j = y.2.1 43012 j) → (z1.2.1 43013 = y.2.1 43013) → (∀ i, i < u' → ∃ j, z1.2.1 43015 i = nI j ∧ j < w) → Tt (fun K k => d_X1_keepRow K k 2 (nI f) (nI w) x3 (nI c) 43000 v z1) (gQ v (fun r => fr kpG y r.2.2 ∧ ∃ C' u', vI r.2.1 W C' ∧ rI r.2.2 w u' C')) := by
      intro d
      induction d with
      | zero =>
        intro c u' x3 z1 hc hfc hu1 hu2 hz1 g17 g12 g13 g15
        refine u_X1_keepRow_2 ?_; unfold dm_X1_keepRow_2
        refine w_leT (a := w) (b := c) (by omega) (by omega) (w_rdF g17 (w_ctI (ch_43013.trans h3) rfl (by omega) (w_some ⟨Nat.le_refl _, fr_I2 hz1 (Or.inr (Or.inr (Or.inl rfl))), C', u', ⟨h1, h2, h3, h4, h5, h6, h7, h8, h9, h0⟩, g17, ?_, by omega, ?_, ?_⟩)))
        · show u' ≤ suR ((usI z1 43013 f (nI u')).2.1 43012) w w
          rw [po_usI_ot (show 43012 ≠ 43013 by omega), suR_set (f := y.2.1 43012) (k := f) hnf (by rw [g12.1]; exact rn_neg1 (by omega)) g12.2, if_pos hf]
          omega
        · intro c1 hc1
          show (usI z1 43013 f (nI u')).2.1 43012 c1 = -1 ∨ ∃ a b, (usI z1 43013 f (nI u')).2.1 43012 c1 = nI a ∧ a < 2 ^ 31 ∧ (usI z1 43013 f (nI u')).2.1 43013 c1 = nI b ∧ b ≤ u'
          rw [po_usI_ot (show 43012 ≠ 43013 by omega)]
          by_cases e : c1 = f
          · subst e
            exact Or.inr ⟨u, u', g12.1, by omega, po_usI_at, Nat.le_refl _⟩
          · rw [g12.2 c1 e, po_usI_ne e, g13]
            rcases i4 c1 hc1 with h | ⟨a, b, q1, q2, q3, q4⟩
            · exact Or.inl h
            · exact Or.inr ⟨a, b, q1, q2, q3, by omega⟩
        · intro i hi
          obtain ⟨j, j1, j2⟩ := g15 i hi
          exact ⟨j, rd_ot (by omega) j1, j2⟩
      | succ d ih =>
        intro c u' x3 z1 hc hfc hu1 hu2 hz1 g17 g12 g13 g15
        have c3 : ∀ (u2 : Nat) (z2 : ow_MS), u2 ≤ u + (c + 1 - f) → u ≤ u2 → fr kpG y z2 → z2.1 43017 = nI u2 → (z2.2.1 43012 f = nI u ∧ ∀ j, j ≠ f → z2.2.1 43012 j = y.2.1 43012 j) → (z2.2.1 43013 = y.2.1 43013) → (∀ i, i < u2 → ∃ j, z2.2.1 43015 i = nI j ∧ j < w) → Tt (fun K k => d_X1_keepRow K k 3 (nI f) (nI w) x3 (nI c) 43000 v z2) (gQ v (fun r => fr kpG y r.2.2 ∧ ∃ C' u', vI r.2.1 W C' ∧ rI r.2.2 w u' C')) := by
          intro u2 z2 k1 k2 k3 k4 k5 k6 k7
          refine u_X1_keepRow_3 ?_; unfold dm_X1_keepRow_3
          rw [nI_1]
          exact ih (c + 1) u2 x3 z2 (by omega) (by omega) k1 k2 k3 k4 k5 k6 k7
        refine u_X1_keepRow_2 ?_; unfold dm_X1_keepRow_2
        refine w_leF (a := w) (b := c) (by omega) (by omega) (w_crI (ch_43011.trans h1) rfl (by omega) rfl (w_if (fun _ => c3 u' z1 (by omega) hu2 hz1 g17 g12 g13 g15) (fun _ => ?_)))
        refine w_rdF g17 (w_ctI (ch_43015.trans h5) rfl (show u' < C' by omega) (w_rdF g17 (w_crI (ch_43011.trans h1) rfl (show c < W by omega) rfl (w_rdF (show _ = nI p from ((hz1 43010 (by unfold kpG; omega)).1).trans h10) (w_nzI hnz (w_ctI (ch_43016.trans h6) rfl (show u' < C' by omega) (w_rdF g17 (w_wrF (w_ctI (ch_43011.trans h1) rfl (show c < W by omega) ?_)))))))))
        rw [nI_1]
        refine c3 (u' + 1) _ (by omega) (by omega) (fr_I2 (fr_F2 (fr_I2 (fr_I2 hz1 (by unfold kpG; omega)) (by unfold kpG; omega)) (by unfold kpG; omega)) (by unfold kpG; omega)) ?_ ⟨?_, fun j hj => ?_⟩ ?_ (fun i hi => ?_)
        · rw [po_usI1]
          exact po_usF_at
        · exact rd_ot (by omega) (rd_ot (z := usI z1 43015 u' (nI c)) (by omega) (rd_ot (by omega) g12.1))
        · exact rd_ot (by omega) (rd_ot (z := usI z1 43015 u' (nI c)) (by omega) (rd_ot (by omega) (g12.2 j hj)))
        · rw [← g13]
          funext j
          exact rd_ot (by omega) (rd_ot (z := usI z1 43015 u' (nI c)) (by omega) (rd_ot (by omega) rfl))
        · by_cases e : i = u'
          · subst e
            exact ⟨c, rd_ot (by omega) (rd_ot (z := usI z1 43015 i (nI c)) (by omega) po_usI_at), by omega⟩
          · obtain ⟨j, j1, j2⟩ := g15 i (by omega)
            exact ⟨j, rd_ot (by omega) (rd_ot (z := usI z1 43015 u' (nI c)) (by omega) ((po_usI_ne e).trans j1)), j2⟩
    refine u_X1_keepRow_1 ?_; unfold dm_X1_keepRow_1
    refine w_crI (ch_43011.trans h1) rfl (show f < W by omega) rfl (w_cs1 (tc_reciprocal (p := p) (((hz 43010 (by unfold kpG; omega)).1).trans h10) hp1 hp2) ?_)
    rintro a z1 e1
    cases e1
    refine w_rdF g17a (w_ctI (ch_43012.trans h2) rfl (show f < W by omega) (lp0 (w - f) f u _ _ (by omega) (Nat.le_refl _) (by omega) (Nat.le_refl _) (fr_I2 hz (by unfold kpG; omega)) g17a ⟨po_usI_at, fun j hj => ?_⟩ ?_ (fun i hi => ?_)))
    · rw [po_usI_ne hj, e12]
    · rw [po_usI_ot (by omega), e13]
    · obtain ⟨j, j1, j2⟩ := i5 i hi
      exact ⟨j, rd_ot (by omega) ((e15 i hi).trans j1), j2⟩
  obtain ⟨h1, h2, h3, h4, h5, h6, h7, h8, h9, h0⟩ := hv
  refine e_X1_keepRow ?_
  refine u_X1_keepRow_0 ?_; unfold dm_X1_keepRow_0
  refine w_rdF i1 ?_
  rw [nI_add, pk_sub (show f ≤ u + w by omega), show uw_len (cX vl) y (43000 + 15) = C from ch_43015.trans h5]
  refine w_le (a := u + w - f) (b := C) (by omega) (by omega) (fun hle => tl0 vl y C (Nat.le_refl _) ⟨h1, h2, h3, h4, h5, h6, h7, h8, h9, h0⟩ hle fr_rf i1 rfl rfl (fun _ _ => rfl)) (fun hlt => ?_)
  have p1 : dPhi vl ≤ dPhi (usV vl 43015 (2 * (u + w))) := dPhi_u2 (by decide) (by omega)
  have p2 : dPhi (usV vl 43015 (2 * (u + w))) ≤ dPhi (usV (usV vl 43015 (2 * (u + w))) 43016 (2 * (u + w))) := dPhi_u2 (by decide) (by show vl 43016 ≤ _; omega)
  refine w_rdF i1 ?_
  rw [nI_add, rn_mul2]
  refine w_cpR (h := 43015) (by omega) (by omega) (by omega) (w_chV p1 (w_rdF i1 ?_))
  rw [nI_add, rn_mul2]
  refine w_cpR (h := 43016) (by omega) (by show 2 * vl 43016 ≤ _; omega) (by show vl 43016 + 640 ≤ _; omega) (w_chV p2 ?_)
  refine tl0 _ _ (2 * (u + w)) (Nat.le_trans p1 p2) ⟨h1, h2, h3, h4, rfl, rfl, h7, h8, by omega, by omega⟩ (by omega) (fr_R2 (fr_R2 fr_rf (by unfold kpG; omega)) (by unfold kpG; omega)) i1 rfl rfl (fun i hi => ?_)
  show va_cpy (y.2.1 43015) (fun _ => 0) 0 0 (vl 43015) i = y.2.1 43015 i
  rw [pk_cpy_in (Nat.zero_le i) (by omega), Nat.zero_add, Nat.sub_zero]
end KP
end
section
/-! 99zzzzzzzq.cred -/
/-! the class: the work row is reduced -/
theorem rI_fr {P : Nat → Prop} {z z1 : ow_MS} {w u C : Nat} (hf : fr P z z1) (hP : ¬ P 43012 ∧ ¬ P 43013 ∧ ¬ P 43015 ∧ ¬ P 43017) (h : rI z w u C) : rI z1 w u C := by
  unfold rI
  rw [(hf _ hP.2.2.2).1, (hf _ hP.1).2.1, (hf _ hP.2.1).2.1, (hf _ hP.2.2.1).2.1]
  exact h
section RD
variable {vl : Nat → Nat} {y : ow_MS} {W C : Nat}
theorem u_X1_reduce_1 {x1 : Int32} {x2 : Int32} {x3 : Int32} {x4 : Int32} {r0 : Nat} {vl : Nat → Nat} {z : ow_MS} {Q : (Int32 × (Nat → Nat) × ow_MS) → Prop} (H : Tt (fun K k => dm_X1_reduce_1 K (d_X1_reduce K k) x1 x2 x3 x4 r0 vl z) (gQ vl Q)) : Tt (fun K k => d_X1_reduce K k 1 x1 x2 x3 x4 r0 vl z) (gQ vl Q) := w_un (fun _ _ => rfl) (w_chV (Nat.le_refl _) H)
theorem u_X1_reduce_3 {x1 : Int32} {x2 : Int32} {x3 : Int32} {x4 : Int32} {r0 : Nat} {vl : Nat → Nat} {z : ow_MS} {Q : (Int32 × (Nat → Nat) × ow_MS) → Prop} (H : Tt (fun K k => dm_X1_reduce_3 K (d_X1_reduce K k) x1 x2 x3 x4 r0 vl z) (gQ vl Q)) : Tt (fun K k => d_X1_reduce K k 3 x1 x2 x3 x4 r0 vl z) (gQ vl Q) := w_un (fun _ _ => rfl) (w_chV (Nat.le_refl _) H)
theorem u_X1_reduce_2 {x1 : Int32} {x2 : Int32} {x3 : Int32} {x4 : Int32} {r0 : Nat} {vl : Nat → Nat} {z : ow_MS} {Q : (Int32 × (Nat → Nat) × ow_MS) → Prop} (H : Tt (fun K k => dm_X1_reduce_2 K (d_X1_reduce K k) x1 x2 x3 x4 r0 vl z) (gQ vl Q)) : Tt (fun K k => d_X1_reduce K k 2 x1 x2 x3 x4 r0 vl z) (gQ vl Q) := w_un (fun _ _ => rfl) (w_chV (Nat.le_refl _) H)
theorem e_X1_reduce {r0 : Nat} {x1 : Int32} {vl : Nat → Nat} {z : ow_MS} {Q : (Int32 × (Nat → Nat) × ow_MS) → Prop} (H : Tt (fun K k => d_X1_reduce K k 0 x1 0 0 0 r0 vl z) Q) : Te (fun K => de_X1_reduce K r0 x1 vl z) Q := w_te H
theorem u_X1_reduce_0 {x1 : Int32} {x2 : Int32} {x3 : Int32} {x4 : Int32} {r0 : Nat} {vl : Nat → Nat} {z : ow_MS} {Q : (Int32 × (Nat → Nat) × ow_MS) → Prop} (H : Tt (fun K k => dm_X1_reduce_0 K (d_X1_reduce K k) x1 x2 x3 x4 r0 vl z) (gQ vl Q)) : Tt (fun K k => d_X1_reduce K k 0 x1 x2 x3 x4 r0 vl z) (gQ vl Q) := w_un (fun _ _ => rfl) (w_chV (Nat.le_refl _) H)
theorem tc_reduce {w u p : Nat} (hv : vI vl W C) (hw : w ≤ 1140) (hwW : w ≤ W) (hI : rI y w u C) (h10 : y.1 43010 = nI p) (hp1 : 2 ≤ p) (hp2 : p ≤ 997) : Te (fun K => de_X1_reduce K 43000 (nI w) vl y) (gQ vl (fun r => fr kpG y r.2.2 ∧ ∃ C' u', vI r.2.1 W C' ∧ rI r.2.2 w u' C')) := by
  let Q : Int32 × (Nat → Nat) × ow_MS → Prop := fun r => fr kpG y r.2.2 ∧ ∃ C' u', vI r.2.1 W C' ∧ rI r.2.2 w u' C'
  have hnz : nI p ≠ 0 := fun h9 => by
    have := (nI_eq (a := p) (b := 0) (by omega) (by omega)).mp h9
    omega
  have hv0 := hv
  obtain ⟨h1, h2, h3, h4, h5, h6, h7, h8, h9, h0⟩ := hv
  have huC : u ≤ C := hI.2.2.1
  have k11 : ∀ g, g = 43011 → kpG g := fun g hg => Or.inl hg
  have c1 : ∀ (d c : Nat) (z : ow_MS), c + d = w → fr (fun g => g = 43011) y z → Tt (fun K k => d_X1_reduce K k 1 (nI w) (nI c) 0 0 43000 vl z) (gQ vl Q) := by
    intro d
    induction d with
    | zero =>
      intro c z hc hz
      refine u_X1_reduce_1 ?_; unfold dm_X1_reduce_1
      exact w_leT (a := w) (b := c) (by omega) (by omega) (w_some ⟨Nat.le_refl _, fr_mono k11 hz, C, u, hv0, rI_fr hz (by omega) hI⟩)
    | succ d ih =>
      intro c z hc hz
      have c3 : ∀ (x3 : Int32) (z1 : ow_MS), fr (fun g => g = 43011) y z1 → Tt (fun K k => d_X1_reduce K k 3 (nI w) (nI c) x3 0 43000 vl z1) (gQ vl Q) := by
        intro x3 z1 hz1
        refine u_X1_reduce_3 ?_; unfold dm_X1_reduce_3
        rw [nI_1]
        exact ih (c + 1) z1 (by omega) hz1
      have hIz := rI_fr hz (by omega) hI
      refine u_X1_reduce_1 ?_; unfold dm_X1_reduce_1
      refine w_leF (a := w) (b := c) (by omega) (by omega) (w_crI (ch_43011.trans h1) rfl (by omega) rfl (w_if (fun _ => c3 _ z hz) (fun _ => ?_)))
      rcases hIz.2.2.2.1 c (by omega) with hn | ⟨a, b, q1, q2, q3, q4⟩
      · refine w_crI (ch_43012.trans h2) rfl (by omega) hn (w_ifT rfl ?_)
        refine w_dc1 (tc_keepRow (f := c) hv0 hw hwW (by omega) hIz hn (((hz 43010 (by omega)).1).trans h10) hp1 hp2) ?_
        rintro x v z1 ⟨r1, r2, r3⟩
        exact w_chV r1 (w_some ⟨Nat.le_refl _, fr_tr (fr_mono k11 hz) r2, r3⟩)
      · have c2 : ∀ (d2 i : Nat) (x3 : Int32) (z1 : ow_MS), b ≤ i + d2 → i < 2 ^ 31 → fr (fun g => g = 43011) y z1 → Tt (fun K k => d_X1_reduce K k 2 (nI w) (nI c) x3 (nI i) 43000 vl z1) (gQ vl Q) := by
          intro d2
          induction d2 with
          | zero =>
            intro i x3 z1 hi hi2 hz1
            have e13 : z1.2.1 43013 c = nI b := by
              rw [(hz1 43013 (by omega)).2.1, ← (hz 43013 (by omega)).2.1]
              exact q3
            refine u_X1_reduce_2 ?_; unfold dm_X1_reduce_2
            exact w_crI (ch_43013.trans h3) rfl (by omega) e13 (w_leT (a := b) (b := i) (by omega) (by omega) (c3 _ z1 hz1))
          | succ d2 ih2 =>
            intro i x3 z1 hi hi2 hz1
            have e13 : z1.2.1 43013 c = nI b := by
              rw [(hz1 43013 (by omega)).2.1, ← (hz 43013 (by omega)).2.1]
              exact q3
            refine u_X1_reduce_2 ?_; unfold dm_X1_reduce_2
            refine w_crI (ch_43013.trans h3) rfl (by omega) e13 (w_le (a := b) (b := i) (by omega) (by omega) (fun _ => c3 _ z1 hz1) (fun hlt => ?_))
            obtain ⟨j, j1, j2⟩ := (rI_fr hz1 (by omega) hI).2.2.2.2 i (by omega)
            have ep : z1.1 43010 = nI p := ((hz1 43010 (by omega)).1).trans h10
            refine w_crI (ch_43015.trans h5) rfl (by omega) j1 (w_crI (ch_43015.trans h5) rfl (by omega) j1 (w_crI (ch_43011.trans h1) rfl (by omega) rfl (w_rdF ep (w_crI (ch_43016.trans h6) rfl (by omega) rfl (w_rdF ep (w_nzI hnz (w_ctI (ch_43011.trans h1) rfl (by omega) ?_)))))))
            rw [nI_1]
            exact ih2 (i + 1) _ _ (by omega) (by omega) (fr_I2 hz1 rfl)
        exact w_crI (ch_43012.trans h2) rfl (by omega) q1 (w_ifF (rn_neg1 q2) (w_crI (ch_43012.trans h2) rfl (by omega) q1 (c2 b a _ z (by omega) q2 hz)))
  refine e_X1_reduce ?_
  refine u_X1_reduce_0 ?_; unfold dm_X1_reduce_0
  exact c1 w 0 y (by omega) fr_rf
theorem u_X1_eliminate_1 {x1 : Int32} {x2 : Int32} {x3 : Int32} {x4 : Int32} {x5 : Int32} {r0 : Nat} {vl : Nat → Nat} {z : ow_MS} {Q : (Int32 × (Nat → Nat) × ow_MS) → Prop} (H : Tt (fun K k => dm_X1_eliminate_1 K (d_X1_eliminate K k) x1 x2 x3 x4 x5 r0 vl z) (gQ vl Q)) : Tt (fun K k => d_X1_eliminate K k 1 x1 x2 x3 x4 x5 r0 vl z) (gQ vl Q) := w_un (fun _ _ => rfl) (w_chV (Nat.le_refl _) H)
theorem u_X1_eliminate_4 {x1 : Int32} {x2 : Int32} {x3 : Int32} {x4 : Int32} {x5 : Int32} {r0 : Nat} {vl : Nat → Nat} {z : ow_MS} {Q : (Int32 × (Nat → Nat) × ow_MS) → Prop} (H : Tt (fun K k => dm_X1_eliminate_4 K (d_X1_eliminate K k) x1 x2 x3 x4 x5 r0 vl z) (gQ vl Q)) : Tt (fun K k => d_X1_eliminate K k 4 x1 x2 x3 x4 x5 r0 vl z) (gQ vl Q) := w_un (fun _ _ => rfl) (w_chV (Nat.le_refl _) H)
theorem u_X1_eliminate_2 {x1 : Int32} {x2 : Int32} {x3 : Int32} {x4 : Int32} {x5 : Int32} {r0 : Nat} {vl : Nat → Nat} {z : ow_MS} {Q : (Int32 × (Nat → Nat) × ow_MS) → Prop} (H : Tt (fun K k => dm_X1_eliminate_2 K (d_X1_eliminate K k) x1 x2 x3 x4 x5 r0 vl z) (gQ vl Q)) : Tt (fun K k => d_X1_eliminate K k 2 x1 x2 x3 x4 x5 r0 vl z) (gQ vl Q) := w_un (fun _ _ => rfl) (w_chV (Nat.le_refl _) H)
theorem u_X1_eliminate_3 {x1 : Int32} {x2 : Int32} {x3 : Int32} {x4 : Int32} {x5 : Int32} {r0 : Nat} {vl : Nat → Nat} {z : ow_MS} {Q : (Int32 × (Nat → Nat) × ow_MS) → Prop} (H : Tt (fun K k => dm_X1_eliminate_3 K (d_X1_eliminate K k) x1 x2 x3 x4 x5 r0 vl z) (gQ vl Q)) : Tt (fun K k => d_X1_eliminate K k 3 x1 x2 x3 x4 x5 r0 vl z) (gQ vl Q) := w_un (fun _ _ => rfl) (w_chV (Nat.le_refl _) H)
theorem e_X1_eliminate {r0 : Nat} {x1 : Int32} {vl : Nat → Nat} {z : ow_MS} {Q : (Int32 × (Nat → Nat) × ow_MS) → Prop} (H : Tt (fun K k => d_X1_eliminate K k 0 x1 0 0 0 0 r0 vl z) Q) : Te (fun K => de_X1_eliminate K r0 x1 vl z) Q := w_te H
theorem u_X1_eliminate_0 {x1 : Int32} {x2 : Int32} {x3 : Int32} {x4 : Int32} {x5 : Int32} {r0 : Nat} {vl : Nat → Nat} {z : ow_MS} {Q : (Int32 × (Nat → Nat) × ow_MS) → Prop} (H : Tt (fun K k => dm_X1_eliminate_0 K (d_X1_eliminate K k) x1 x2 x3 x4 x5 r0 vl z) (gQ vl Q)) : Tt (fun K k => d_X1_eliminate K k 0 x1 x2 x3 x4 x5 r0 vl z) (gQ vl Q) := w_un (fun _ _ => rfl) (w_chV (Nat.le_refl _) H)
theorem tc_eliminate {o p c ci : Nat} {S : ow_NP} {G : Nat → Int32} {Ls : Nat → Nat → Nat} {ns : Nat → Nat} {dg : Int} {wf : Nat → Bool} (hv : vI vl W C) (hy : cAt y 44000 (c, ci, S, G)) (hvn : vn c S) (hc : c ≤ 8) (hwf : gaO c S wf) (hL : LpY y S G c Ls ns) (hly : LyY y c ns dg) (htb : tbP y) (ho : o < c + 1) (h10 : y.1 43010 = nI p) (hp1 : 2 ≤ p) (hp2 : p ≤ 997) (hsz : ∀ h, smH (bkF ns dg) h 0 (2 ^ c) ≤ 1140 ∧ (h < 10 → smH (bkF ns dg) h 0 (2 ^ c) ≤ W)) : Te (fun K => de_X1_eliminate K 43000 (nI o) vl y) (gQ vl (fun r => fr kpG y r.2.2 ∧ ∃ C', vI r.2.1 W C')) := by
  let Q : Int32 × (Nat → Nat) × ow_MS → Prop := fun r => fr kpG y r.2.2 ∧ ∃ C', vI r.2.1 W C'
  generalize hw : smH (bkF ns dg) (o + 1) 0 (2 ^ c) = w
  have hw1 : w ≤ 1140 := by rw [← hw]; exact (hsz _).1
  have hwW : w ≤ W := by rw [← hw]; exact (hsz _).2 (by omega)
  have h256 : 2 ^ c ≤ 256 := two_mono (b := 8) hc
  have c1 : ∀ (d s : Nat) (x3 : Int32) (v : Nat → Nat) (z : ow_MS) (C' u : Nat), s + d = 2 ^ c → vI v W C' → fr kpG y z → rI z w u C' → Tt (fun K k => d_X1_eliminate K k 1 (nI o) (nI w) x3 (nI s) 0 43000 v z) (gQ v Q) := by
    intro d
    induction d with
    | zero =>
      intro s x3 v z C' u hs hv' hz hI
      have hz4 : cAt z 44000 (c, ci, S, G) := cAt_fr hz (fun g hg h9 => by unfold cP at hg; unfold kpG at h9; omega) hy
      refine u_X1_eliminate_1 ?_; unfold dm_X1_eliminate_1
      refine w_rdF hz4.1 ?_
      rw [shl1 (by omega)]
      exact w_leT (a := 2 ^ c) (b := s) (by omega) (by omega) (w_some ⟨Nat.le_refl _, hz, C', hv'⟩)
    | succ d ih =>
      intro s x3 v z C' u hs hv' hz hI
      have hz4 : cAt z 44000 (c, ci, S, G) := cAt_fr hz (fun g hg h9 => by unfold cP at hg; unfold kpG at h9; omega) hy
      have hsc : s < 2 ^ c := by omega
      have hns := (hL s hsc).2
      have two9 : 2 ^ ns s ≤ 512 := two_mono (b := 9) hns
      have c4 : ∀ (x3 : Int32) (v : Nat → Nat) (z : ow_MS) (C' u : Nat), vI v W C' → fr kpG y z → rI z w u C' → Tt (fun K k => d_X1_eliminate K k 4 (nI o) (nI w) x3 (nI s) 0 43000 v z) (gQ v Q) := by
        intro x3 v z C' u hv' hz hI
        refine u_X1_eliminate_4 ?_; unfold dm_X1_eliminate_4
        rw [nI_1]
        exact ih (s + 1) x3 v z C' u (by omega) hv' hz hI
      have fits : ∀ kp, kpF (ns s) (pc s) dg = some kp → pc s = o → ∀ (d2 m : Nat) (x3 : Int32) (v : Nat → Nat) (z : ow_MS) (C' u : Nat), m + d2 = 2 ^ ns s → vI v W C' → fr kpG y z → rI z w u C' → Tt (fun K k => d_X1_eliminate K k 2 (nI o) (nI w) x3 (nI s) (nI m) 43000 v z) (gQ v Q) := by
        intro kp hkp hpo d2
        induction d2 with
        | zero =>
          intro m x3 v z C' u hm hv' hz hI
          have e3 : z.2.1 43003 s = nI (ns s) := by
            rw [(hz 43003 (by unfold kpG; omega)).2.1]
            exact (hL s hsc).1.2.1
          refine u_X1_eliminate_2 ?_; unfold dm_X1_eliminate_2
          refine w_crI ch_43003 rfl (by omega) e3 ?_
          rw [shl1 (by omega)]
          exact w_leT (a := 2 ^ ns s) (b := m) (by omega) (by omega) (c4 _ v z C' u hv' hz hI)
        | succ d2 ih2 =>
          intro m x3 v z C' u hm hv' hz hI
          have e3 : z.2.1 43003 s = nI (ns s) := by
            rw [(hz 43003 (by unfold kpG; omega)).2.1]
            exact (hL s hsc).1.2.1
          have e7 : z.2.1 43007 s = nI kp := by
            rw [(hz 43007 (by unfold kpG; omega)).2.1, (hly.1 s hsc).1, hkp]
            rfl
          have e8 : z.2.1 43008 s = nI (smH (bkF ns dg) (pc s) 0 s) := by
            rw [(hz 43008 (by unfold kpG; omega)).2.1]
            exact (hly.1 s hsc).2
          have e5 : z.2.1 43005 m = nI (cpN (pc m) m) := by
            rw [(hz 43005 (by unfold kpG; omega)).2.1]
            exact htb m (by omega)
          have c3 : ∀ (x3 : Int32) (v : Nat → Nat) (z : ow_MS) (C' u : Nat), vI v W C' → fr kpG y z → rI z w u C' → Tt (fun K k => d_X1_eliminate K k 3 (nI o) (nI w) x3 (nI s) (nI m) 43000 v z) (gQ v Q) := by
            intro x3 v z C' u hv' hz hI
            refine u_X1_eliminate_3 ?_; unfold dm_X1_eliminate_3
            rw [nI_1]
            exact ih2 (m + 1) x3 v z C' u (by omega) hv' hz hI
          have hkp9 : kp ≤ ns s := kpF_le hkp
          have hpm : pc m ≤ ns s := pc_le (by omega)
          refine u_X1_eliminate_2 ?_; unfold dm_X1_eliminate_2
          refine w_crI ch_43003 rfl (by omega) e3 ?_
          rw [shl1 (by omega), bc_pc (show m < 4096 by omega)]
          refine w_leF (a := 2 ^ ns s) (b := m) (by omega) (by omega) (w_crI ch_43007 rfl (by omega) e7 (w_eqN (by omega) (by omega) (fun hpc => ?_) (fun _ => c3 _ v z C' u hv' hz hI)))
          have hk2 : kpF (ns s) (pc s) dg = some (pc m) := by rw [hkp, hpc]
          have hix := ix_lt hsc hns (show m < 2 ^ ns s by omega) hk2
          rw [hpo] at hix
          have hoW := (hsz o).2 (by omega)
          have ho1 := (hsz o).1
          have hv2 := hv'
          obtain ⟨h1, h2, h3, h4, h5, h6, h7, h8, h9, h0⟩ := hv'
          refine w_crI ch_43008 rfl (by omega) e8 (w_crI ch_43005 rfl (by omega) e5 ?_)
          rw [nI_add]
          refine w_crI (ch_43014.trans h4) rfl (show smH (bkF ns dg) (pc s) 0 s + cpN (pc m) m < W by rw [hpo]; omega) rfl (w_if (fun _ => ?_) (fun _ => c3 _ v z C' u hv2 hz hI))
          have ep : z.1 43010 = nI p := ((hz 43010 (by unfold kpG; omega)).1).trans h10
          have hz4 : cAt z 44000 (c, ci, S, G) := cAt_fr hz (fun g hg h9 => by unfold cP at hg; unfold kpG at h9; omega) hy
          refine w_cs0 (tc_writeImage (vl := v) (W := W) (p := p) (dg := dg) hz4 hvn hc hwf (LpY_fr hz (by unfold kpG; omega) hL) (LyY_fr hz (by unfold kpG; omega) hly) (tbP_fr hz (by unfold kpG; omega) htb) hsc (show m < 2 ^ ns s by omega) hk2 h1 (by omega) (by rw [hpo, hw]; exact hwW) ep hp1 hp2) (fun z1 hz1 => ?_)
          have hf1 : fr kpG y z1 := fr_tr hz (fr_mono (fun g hg => Or.inl hg) hz1)
          refine w_dc1 (tc_reduce hv2 hw1 hwW (rI_fr hz1 (by omega) hI) (((hf1 43010 (by unfold kpG; omega)).1).trans h10) hp1 hp2) ?_
          rintro x v2 z2 ⟨r1, r2, C2, u2, r3, r4⟩
          exact w_chV r1 (c3 _ v2 z2 C2 u2 r3 (fr_tr hf1 r2) r4)
      have e7 : z.2.1 43007 s = oM (kpF (ns s) (pc s) dg) := by
        rw [(hz 43007 (by unfold kpG; omega)).2.1]
        exact (hly.1 s hsc).1
      have hps := pc_le (c := c) hsc
      refine u_X1_eliminate_1 ?_; unfold dm_X1_eliminate_1
      refine w_rdF hz4.1 ?_
      rw [shl1 (by omega), bc_pc (show s < 4096 by omega)]
      refine w_leF (a := 2 ^ c) (b := s) (by omega) (by omega) (w_eqN (by omega) (by omega) (fun hpo => w_crI ch_43007 rfl (by omega) e7 ?_) (fun _ => c4 _ v z C' u hv' hz hI))
      cases hkp : kpF (ns s) (pc s) dg with
      | none => exact w_ifT rfl (c4 _ v z C' u hv' hz hI)
      | some kp =>
        have hkp9 : kp ≤ ns s := kpF_le hkp
        exact w_ifF (rn_neg1 (by omega)) (fits kp hkp hpo (2 ^ ns s) 0 x3 v z C' u (by omega) hv' hz hI)
  have hv0 := hv
  obtain ⟨h1, h2, h3, h4, h5, h6, h7, h8, h9, h0⟩ := hv
  refine e_X1_eliminate ?_
  refine u_X1_eliminate_0 ?_; unfold dm_X1_eliminate_0
  rw [nI_1]
  refine w_crI ch_43009 rfl (by omega) ((hly.2 (o + 1) (by omega)).trans (by rw [hw])) (w_wrF ?_)
  refine w_cs0 (tc_fill (a := 0) (b := w) (ch_43012.trans h2) (by omega) hwW (by omega)) ?_
  rintro z1 ⟨f1, f2⟩
  refine w_cs0 (tc_fill (a := 0) (b := w) (ch_43011.trans h1) (by omega) hwW (by omega)) ?_
  rintro z2 ⟨f3, f4⟩
  have g12 : ∀ k, k < w → z2.2.1 43012 k = -1 := fun k hk => by
    rw [(f4 43012 (by omega)).2.1, f1 k, if_pos (by omega)]
  refine c1 (2 ^ c) 0 0 vl z2 C 0 (by omega) hv0 (fr_tr (fr_tr (fr_F (by unfold kpG; omega)) (fr_mono (fun g hg => by unfold kpG; omega) f2)) (fr_mono (fun g hg => by unfold kpG; omega) f4)) ⟨?_, Nat.zero_le _, Nat.zero_le _, fun k hk => Or.inl (g12 k hk), fun i hi => absurd hi (Nat.not_lt_zero _)⟩
  rw [(f4 43017 (by omega)).1, (f2 43017 (by omega)).1]
  exact po_usF_at
end RD
end
section
/-! 99zzzzzzzr.clay -/
/-! the class: generators laid out -/
def dgI (d : Nat) : Int := (d : Int) - 10
theorem lk_A : ∀ n : Fin 10, ∀ h : Fin 9, ∀ d : Fin 29, (kpF n.val h.val (dgI d.val) = none → ¬ (nI n.val + (nI d.val - 10) - nI h.val) &&& 1 = 0 ∨ nI n.val + (nI d.val - 10) - nI h.val < 0 ∨ 2 * nI n.val < nI n.val + (nI d.val - 10) - nI h.val) := by decide +kernel
theorem lk_B : ∀ n : Fin 10, ∀ h : Fin 9, ∀ d : Fin 29, ∀ k : Fin 10, (kpF n.val h.val (dgI d.val) = some k.val → (nI n.val + (nI d.val - 10) - nI h.val) &&& 1 = 0 ∧ ¬ nI n.val + (nI d.val - 10) - nI h.val < 0 ∧ ¬ 2 * nI n.val < nI n.val + (nI d.val - 10) - nI h.val ∧ (nI n.val + (nI d.val - 10) - nI h.val) / 2 = nI k.val) := by decide +kernel
theorem ch_450 {vl : Nat → Nat} {j : Nat} (hj : j < 11) : ((cX vl).2 (43000 + 2001 + j)).2.1 = 11 := by
  have key : ∀ j, j < 11 → dynL.contains (43000 + 2001 + j) = false ∧ (cX_f (43000 + 2001 + j)).2.1 = 11 := by decide +kernel
  obtain ⟨k1, k2⟩ := key j hj
  show (if dynL.contains (43000 + 2001 + j) = true then (0, vl (43000 + 2001 + j), []) else cX_f (43000 + 2001 + j)).2.1 = 11
  rw [if_neg (by rw [k1]; decide)]
  exact k2
/-- the table of numbers of choices -/
def chP (y : ow_MS) : Prop := ∀ i k, i < 10 → k ≤ i → y.2.1 (45001 + i) k = nI (biN i k)
def lyG (g : Nat) : Prop := g = 43007 ∨ g = 43008 ∨ g = 43009 ∨ g = 43011 ∨ g = 43012 ∨ g = 43013 ∨ g = 43014
theorem lyG9 : lyG 43009 := Or.inr (Or.inr (Or.inl rfl))
theorem lyG7 : lyG 43007 := Or.inl rfl
theorem lyG8 : lyG 43008 := Or.inr (Or.inl rfl)
def lyA (z : ow_MS) (ns : Nat → Nat) (dg : Int) (s : Nat) : Prop := (∀ t, t < s → z.2.1 43007 t = oM (kpF (ns t) (pc t) dg) ∧ z.2.1 43008 t = nI (smH (bkF ns dg) (pc t) 0 t)) ∧ ∀ h, h < 10 → z.2.1 43009 h = nI (smH (bkF ns dg) h 0 s)
theorem lyA_st {z1 : ow_MS} {ns : Nat → Nat} {dg : Int} {s b : Nat} (hb : b = bkF ns dg s) (g1 : ∀ t, t < s + 1 → z1.2.1 43007 t = oM (kpF (ns t) (pc t) dg) ∧ z1.2.1 43008 t = nI (smH (bkF ns dg) (pc t) 0 t)) (g2 : ∀ h, h < 10 → z1.2.1 43009 h = nI (smH (bkF ns dg) h 0 s)) : lyA (usI z1 43009 (pc s) (nI (smH (bkF ns dg) (pc s) 0 s + b))) ns dg (s + 1) := by
  refine ⟨fun t ht => ⟨?_, ?_⟩, fun h hh => ?_⟩
  · exact rd_ot (by omega) (g1 t ht).1
  · exact rd_ot (by omega) (g1 t ht).2
  · show _ = nI (smH (bkF ns dg) h 0 s + if pc s = h then bkF ns dg (0 + s) else 0)
    by_cases e9 : h = pc s
    · rw [if_pos e9.symm, Nat.zero_add, ← hb, e9]
      exact po_usI_at
    · rw [if_neg (fun h9 => e9 h9.symm), Nat.add_zero]
      exact (po_usI_ne e9).trans (g2 h hh)
theorem lyA_pr {z : ow_MS} {ns : Nat → Nat} {dg : Int} {s : Nat} {t0 : Int32} (h0 : t0 = oM (kpF (ns s) (pc s) dg)) (hA : lyA z ns dg s) : (∀ t, t < s + 1 → (usI (usI z 43007 s t0) 43008 s (nI (smH (bkF ns dg) (pc s) 0 s))).2.1 43007 t = oM (kpF (ns t) (pc t) dg) ∧ (usI (usI z 43007 s t0) 43008 s (nI (smH (bkF ns dg) (pc s) 0 s))).2.1 43008 t = nI (smH (bkF ns dg) (pc t) 0 t)) ∧ ∀ h, h < 10 → (usI (usI z 43007 s t0) 43008 s (nI (smH (bkF ns dg) (pc s) 0 s))).2.1 43009 h = nI (smH (bkF ns dg) h 0 s) := by
  refine ⟨fun t1 ht1 => ?_, fun h hh => rd_ot (by omega) (rd_ot (by omega) (hA.2 h hh))⟩
  by_cases e9 : t1 = s
  · subst e9
    exact ⟨rd_ot (by omega) (po_usI_at.trans h0), po_usI_at⟩
  · obtain ⟨a1, a2⟩ := hA.1 t1 (by omega)
    exact ⟨rd_ot (by omega) ((po_usI_ne e9).trans a1), (po_usI_ne e9).trans (rd_ot (by omega) a2)⟩
section LY
variable {vl : Nat → Nat} {y : ow_MS} {W C : Nat}
theorem u_X1_layOut_6 {x1 : Int32} {x2 : Int32} {x3 : Int32} {x4 : Int32} {x5 : Int32} {r0 : Nat} {t0 : Int32} {t1 : Int32} {t2 : Int32} {vl : Nat → Nat} {z : ow_MS} {Q : (Unit × (Nat → Nat) × ow_MS) → Prop} (H : Tt (fun K k => dm_X1_layOut_6 K (d_X1_layOut K k) x1 x2 x3 x4 x5 r0 t0 t1 t2 vl z) (gQ vl Q)) : Tt (fun K k => d_X1_layOut K k 6 x1 x2 x3 x4 x5 r0 t0 t1 t2 vl z) (gQ vl Q) := w_un (fun _ _ => rfl) (w_chV (Nat.le_refl _) H)
theorem tc_lay6 {d c : Nat} {ns : Nat → Nat} (hsz : ∀ h, smH (bkF ns (dgI d)) h 0 (2 ^ c) ≤ 1140) : ∀ (e i : Nat) (v : Nat → Nat) (z : ow_MS) (W' : Nat), i + e = 10 → vI v W' C → (∀ h, h < i → smH (bkF ns (dgI d)) h 0 (2 ^ c) ≤ W') → fr lyG y z → LyY z c ns (dgI d) → Tt (fun K k => d_X1_layOut K k 6 (nI d - 10) (nI i) 0 0 0 43000 0 0 0 v z) (gQ v (fun r => fr lyG y r.2.2 ∧ LyY r.2.2 c ns (dgI d) ∧ ∃ W', vI r.2.1 W' C ∧ ∀ h, h < 10 → smH (bkF ns (dgI d)) h 0 (2 ^ c) ≤ W')) := by
  intro e
  induction e with
  | zero =>
    intro i v z W' hi hv' hle hz hly
    have hv2 := hv'
    obtain ⟨h1, h2, h3, h4, h5, h6, h7, h8, h9, h0⟩ := hv'
    refine u_X1_layOut_6 ?_; unfold dm_X1_layOut_6
    rw [show uw_len (cX v) z (43000 + 9) = 10 from rfl]
    refine w_leT (a := 10) (b := i) (by omega) (by omega) (w_cs0 (tc_fillA (ch_43014.trans h4) (by omega)) ?_)
    rintro z1 ⟨-, f2⟩
    exact w_some ⟨Nat.le_refl _, fr_tr hz (fr_mono (fun g hg => by unfold lyG; omega) f2), LyY_fr f2 (by omega) hly, W', hv2, fun h hh => hle h (by omega)⟩
  | succ e ih =>
    intro i v z W' hi hv' hle hz hly
    refine u_X1_layOut_6 ?_; unfold dm_X1_layOut_6
    rw [show uw_len (cX v) z (43000 + 9) = 10 from rfl]
    refine w_leF (a := 10) (b := i) (by omega) (by omega) (w_crI ch_43009 rfl (by omega) (hly.2 i (by omega)) (w_dc1 (tc_makeRoom hv' (hsz i)) ?_))
    rintro x v1 z1 ⟨r1, r2, W2, r3, r4, r5⟩
    refine w_chV r1 ?_
    rw [nI_1]
    refine ih (i + 1) v1 z1 W2 (by omega) r3 (fun h hh => ?_) (fr_tr hz (fr_mono (fun g hg => by unfold lyG; omega) r2)) (LyY_fr r2 (by omega) hly)
    rcases Nat.lt_or_ge h i with h9 | h9
    · exact Nat.le_trans (hle h h9) r4
    · rw [show h = i by omega]
      exact r5
theorem u_X1_layOut_1 {x1 : Int32} {x2 : Int32} {x3 : Int32} {x4 : Int32} {x5 : Int32} {r0 : Nat} {t0 : Int32} {t1 : Int32} {t2 : Int32} {vl : Nat → Nat} {z : ow_MS} {Q : (Unit × (Nat → Nat) × ow_MS) → Prop} (H : Tt (fun K k => dm_X1_layOut_1 K (d_X1_layOut K k) x1 x2 x3 x4 x5 r0 t0 t1 t2 vl z) (gQ vl Q)) : Tt (fun K k => d_X1_layOut K k 1 x1 x2 x3 x4 x5 r0 t0 t1 t2 vl z) (gQ vl Q) := w_un (fun _ _ => rfl) (w_chV (Nat.le_refl _) H)
theorem u_X1_layOut_5 {x1 : Int32} {x2 : Int32} {x3 : Int32} {x4 : Int32} {x5 : Int32} {r0 : Nat} {t0 : Int32} {t1 : Int32} {t2 : Int32} {vl : Nat → Nat} {z : ow_MS} {Q : (Unit × (Nat → Nat) × ow_MS) → Prop} (H : Tt (fun K k => dm_X1_layOut_5 K (d_X1_layOut K k) x1 x2 x3 x4 x5 r0 t0 t1 t2 vl z) (gQ vl Q)) : Tt (fun K k => d_X1_layOut K k 5 x1 x2 x3 x4 x5 r0 t0 t1 t2 vl z) (gQ vl Q) := w_un (fun _ _ => rfl) (w_chV (Nat.le_refl _) H)
theorem u_X1_layOut_4 {x1 : Int32} {x2 : Int32} {x3 : Int32} {x4 : Int32} {x5 : Int32} {r0 : Nat} {t0 : Int32} {t1 : Int32} {t2 : Int32} {vl : Nat → Nat} {z : ow_MS} {Q : (Unit × (Nat → Nat) × ow_MS) → Prop} (H : Tt (fun K k => dm_X1_layOut_4 K (d_X1_layOut K k) x1 x2 x3 x4 x5 r0 t0 t1 t2 vl z) (gQ vl Q)) : Tt (fun K k => d_X1_layOut K k 4 x1 x2 x3 x4 x5 r0 t0 t1 t2 vl z) (gQ vl Q) := w_un (fun _ _ => rfl) (w_chV (Nat.le_refl _) H)
theorem u_X1_layOut_3 {x1 : Int32} {x2 : Int32} {x3 : Int32} {x4 : Int32} {x5 : Int32} {r0 : Nat} {t0 : Int32} {t1 : Int32} {t2 : Int32} {vl : Nat → Nat} {z : ow_MS} {Q : (Unit × (Nat → Nat) × ow_MS) → Prop} (H : Tt (fun K k => dm_X1_layOut_3 K (d_X1_layOut K k) x1 x2 x3 x4 x5 r0 t0 t1 t2 vl z) (gQ vl Q)) : Tt (fun K k => d_X1_layOut K k 3 x1 x2 x3 x4 x5 r0 t0 t1 t2 vl z) (gQ vl Q) := w_un (fun _ _ => rfl) (w_chV (Nat.le_refl _) H)
theorem u_X1_layOut_2 {x1 : Int32} {x2 : Int32} {x3 : Int32} {x4 : Int32} {x5 : Int32} {r0 : Nat} {t0 : Int32} {t1 : Int32} {t2 : Int32} {vl : Nat → Nat} {z : ow_MS} {Q : (Unit × (Nat → Nat) × ow_MS) → Prop} (H : Tt (fun K k => dm_X1_layOut_2 K (d_X1_layOut K k) x1 x2 x3 x4 x5 r0 t0 t1 t2 vl z) (gQ vl Q)) : Tt (fun K k => d_X1_layOut K k 2 x1 x2 x3 x4 x5 r0 t0 t1 t2 vl z) (gQ vl Q) := w_un (fun _ _ => rfl) (w_chV (Nat.le_refl _) H)
theorem e_X1_layOut {r0 : Nat} {x1 : Int32} {vl : Nat → Nat} {z : ow_MS} {Q : (Unit × (Nat → Nat) × ow_MS) → Prop} (H : Tt (fun K k => d_X1_layOut K k 0 x1 0 0 0 0 r0 0 0 0 vl z) Q) : Te (fun K => de_X1_layOut K r0 x1 vl z) Q := w_te H
theorem u_X1_layOut_0 {x1 : Int32} {x2 : Int32} {x3 : Int32} {x4 : Int32} {x5 : Int32} {r0 : Nat} {t0 : Int32} {t1 : Int32} {t2 : Int32} {vl : Nat → Nat} {z : ow_MS} {Q : (Unit × (Nat → Nat) × ow_MS) → Prop} (H : Tt (fun K k => dm_X1_layOut_0 K (d_X1_layOut K k) x1 x2 x3 x4 x5 r0 t0 t1 t2 vl z) (gQ vl Q)) : Tt (fun K k => d_X1_layOut K k 0 x1 x2 x3 x4 x5 r0 t0 t1 t2 vl z) (gQ vl Q) := w_un (fun _ _ => rfl) (w_chV (Nat.le_refl _) H)
theorem tc_layOut {d c ci : Nat} {S : ow_NP} {G : Nat → Int32} {Ls : Nat → Nat → Nat} {ns : Nat → Nat} (hv : vI vl W C) (hy : cAt y 44000 (c, ci, S, G)) (hc : c ≤ 8) (hd : d < 29) (hL : LpY y S G c Ls ns) (hch : chP y) (hsz : ∀ h, smH (bkF ns (dgI d)) h 0 (2 ^ c) ≤ 1140) : Te (fun K => de_X1_layOut K 43000 (nI d - 10) vl y) (gQ vl (fun r => fr lyG y r.2.2 ∧ LyY r.2.2 c ns (dgI d) ∧ ∃ W', vI r.2.1 W' C ∧ ∀ h, h < 10 → smH (bkF ns (dgI d)) h 0 (2 ^ c) ≤ W')) := by
  let Q : Unit × (Nat → Nat) × ow_MS → Prop := fun r => fr lyG y r.2.2 ∧ LyY r.2.2 c ns (dgI d) ∧ ∃ W', vI r.2.1 W' C ∧ ∀ h, h < 10 → smH (bkF ns (dgI d)) h 0 (2 ^ c) ≤ W'
  have h256 : 2 ^ c ≤ 256 := two_mono (b := 8) hc
  have c6 := tc_lay6 (y := y) (C := C) hsz
  have c1 : ∀ (e s : Nat) (z : ow_MS), s + e = 2 ^ c → fr lyG y z → lyA z ns (dgI d) s → Tt (fun K k => d_X1_layOut K k 1 (nI d - 10) (nI s) 0 0 0 43000 0 0 0 vl z) (gQ vl Q) := by
    intro e
    induction e with
    | zero =>
      intro s z hs hz hA
      have hz4 : cAt z 44000 (c, ci, S, G) := cAt_fr hz (fun g hg h9 => by unfold cP at hg; unfold lyG at h9; omega) hy
      refine u_X1_layOut_1 ?_; unfold dm_X1_layOut_1
      refine w_rdF hz4.1 ?_
      rw [shl1 (by omega)]
      refine w_leT (a := 2 ^ c) (b := s) (by omega) (by omega) (c6 10 0 vl z W rfl hv (fun h hh => absurd hh (Nat.not_lt_zero _)) hz ?_)
      rw [show s = 2 ^ c by omega] at hA
      exact hA
    | succ e ih =>
      intro s z hs hz hA
      have hz4 : cAt z 44000 (c, ci, S, G) := cAt_fr hz (fun g hg h9 => by unfold cP at hg; unfold lyG at h9; omega) hy
      have hsc : s < 2 ^ c := by omega
      have hns := (hL s hsc).2
      have hps := pc_le (c := c) hsc
      have e3 : ∀ z1, fr lyG y z1 → z1.2.1 43003 s = nI (ns s) := fun z1 h1 => by
        rw [(h1 43003 (by unfold lyG; omega)).2.1]
        exact (hL s hsc).1.2.1
      generalize ht : nI (ns s) + (nI d - 10) - nI (pc s) = t
      -- the end of a state
      have c5 : ∀ (x5 : Int32) (b : Nat) (z1 : ow_MS), fr lyG y z1 → b = bkF ns (dgI d) s → (∀ t, t < s + 1 → z1.2.1 43007 t = oM (kpF (ns t) (pc t) (dgI d)) ∧ z1.2.1 43008 t = nI (smH (bkF ns (dgI d)) (pc t) 0 t)) → (∀ h, h < 10 → z1.2.1 43009 h = nI (smH (bkF ns (dgI d)) h 0 s)) → Tt (fun K k => d_X1_layOut K k 5 (nI d - 10) (nI s) (nI (pc s)) t x5 43000 (nI b) (nI (smH (bkF ns (dgI d)) (pc s) 0 s)) (nI (pc s)) vl z1) (gQ vl Q) := by
        intro x5 b z1 hz1 hb g1 g2
        refine u_X1_layOut_5 ?_; unfold dm_X1_layOut_5
        rw [nI_add, nI_1]
        exact w_ctI ch_43009 rfl (by omega) (ih (s + 1) _ (by omega) (fr_I2 hz1 lyG9) (lyA_st hb g1 g2))
      have c4 : ∀ (x5 t0 : Int32), t0 = oM (kpF (ns s) (pc s) (dgI d)) → (kpF (ns s) (pc s) (dgI d) = none ∧ x5 = 0 ∨ ∃ k, kpF (ns s) (pc s) (dgI d) = some k ∧ x5 = 1 ∧ t / 2 = nI k) → Tt (fun K k => d_X1_layOut K k 4 (nI d - 10) (nI s) (nI (pc s)) t x5 43000 t0 (nI s) 0 vl z) (gQ vl Q) := by
        intro x5 t0 h0 hk
        refine u_X1_layOut_4 ?_; unfold dm_X1_layOut_4
        have g9 : z.2.1 43009 (pc s) = nI (smH (bkF ns (dgI d)) (pc s) 0 s) := hA.2 _ (by omega)
        refine w_ctI ch_43007 rfl (by omega) (w_crI ch_43009 rfl (show pc s < 10 by omega) (rd_ot (by omega) g9) (w_ctI ch_43008 rfl (by omega) (w_crI ch_43009 rfl (show pc s < 10 by omega) (rd_ot (by omega) (rd_ot (by omega) g9)) ?_)))
        have hf : fr lyG y (usI (usI z (43000 + 7) s t0) (43000 + 8) s (nI (smH (bkF ns (dgI d)) (pc s) 0 s))) := fr_I2 (fr_I2 hz lyG7) lyG8
        obtain ⟨k1, k2⟩ := lyA_pr h0 hA
        rcases hk with ⟨hn, rfl⟩ | ⟨k, hk, rfl, hk2⟩
        · refine w_ifT rfl (c5 0 0 _ hf ?_ k1 k2)
          unfold bkF
          rw [hn]
        · have hkn := kpF_le hk
          refine w_ifF (by decide) (w_crI ch_43003 rfl (by omega) (e3 _ hf) (w_crX rfl (show ns s < 11 by omega) (w_nzI (by decide) ?_)))
          rw [hk2]
          refine w_crI (ch_450 (show ns s < 11 by omega)) rfl (show k < 11 by omega) ?_ (c5 1 (biN (ns s) k) _ hf ?_ k1 k2)
          · show (usI (usI z (43000 + 7) s t0) (43000 + 8) s (nI (smH (bkF ns (dgI d)) (pc s) 0 s))).2.1 (45001 + ns s) k = _
            rw [(hf (45001 + ns s) (by unfold lyG; omega)).2.1]
            exact hch (ns s) k (by omega) hkn
          · unfold bkF
            rw [hk]
      have c3a : kpF (ns s) (pc s) (dgI d) = none → Tt (fun K k => d_X1_layOut K k 3 (nI d - 10) (nI s) (nI (pc s)) t 0 43000 0 0 0 vl z) (gQ vl Q) := by
        intro hn
        refine u_X1_layOut_3 ?_; unfold dm_X1_layOut_3
        exact w_ifT rfl (c4 0 (-1) (by rw [hn]; rfl) (Or.inl ⟨hn, rfl⟩))
      have c2 : kpF (ns s) (pc s) (dgI d) = none → Tt (fun K k => d_X1_layOut K k 2 (nI d - 10) (nI s) (nI (pc s)) t 0 43000 0 0 0 vl z) (gQ vl Q) := by
        intro hn
        refine u_X1_layOut_2 ?_; unfold dm_X1_layOut_2
        exact c3a hn
      refine u_X1_layOut_1 ?_; unfold dm_X1_layOut_1
      refine w_rdF hz4.1 ?_
      rw [shl1 (by omega), bc_pc (show s < 4096 by omega)]
      refine w_leF (a := 2 ^ c) (b := s) (by omega) (by omega) (w_crI ch_43003 rfl (by omega) (e3 z hz) ?_)
      rw [ht]
      cases hk : kpF (ns s) (pc s) (dgI d) with
      | none =>
        have h9 := lk_A ⟨ns s, by omega⟩ ⟨pc s, by omega⟩ ⟨d, hd⟩ hk
        dsimp only at h9
        rw [ht] at h9
        refine w_if (fun a1 => w_if (fun _ => c2 hk) (fun a2 => w_crI ch_43003 rfl (by omega) (e3 z hz) (w_ifT ?_ (c2 hk)))) (fun _ => c2 hk)
        rcases h9 with h9 | h9 | h9
        · exact absurd a1 h9
        · exact absurd h9 a2
        · exact h9
      | some k =>
        have hkn := kpF_le hk
        obtain ⟨b1, b2, b3, b4⟩ := lk_B ⟨ns s, by omega⟩ ⟨pc s, by omega⟩ ⟨d, hd⟩ ⟨k, by omega⟩ hk
        dsimp only at b1 b2 b3 b4
        rw [ht] at b1 b2 b3 b4
        refine w_ifT b1 (w_ifF b2 (w_crI ch_43003 rfl (by omega) (e3 z hz) (w_ifF b3 ?_)))
        refine u_X1_layOut_3 ?_; unfold dm_X1_layOut_3
        refine w_ifF (by decide) (w_nzI (by decide) (c4 1 (t / 2) ?_ (Or.inr ⟨k, hk, rfl, b4⟩)))
        rw [hk, b4]
        rfl
  refine e_X1_layOut ?_
  refine u_X1_layOut_0 ?_; unfold dm_X1_layOut_0
  refine w_cs0 (tc_fillA (l := 10) rfl (by omega)) ?_
  rintro z1 ⟨f1, f2⟩
  exact c1 (2 ^ c) 0 z1 (by omega) (fr_mono (fun g hg => by unfold lyG; omega) f2) ⟨fun t ht => absurd ht (Nat.not_lt_zero _), fun h hh => f1 h hh⟩
def rkG (g : Nat) : Prop := lyG g ∨ kpG g ∨ g = 43018
theorem ix_56 : ∀ o : Fin 9, ∀ d : Fin 29, nI o.val * 56 + (nI d.val - 10) - (-20) = nI (56 * o.val + d.val + 10) := by decide +kernel
theorem u_X1_rankDegree_1 {x1 : Int32} {x2 : Int32} {x3 : Int32} {x4 : Int32} {x5 : Int32} {r0 : Nat} {t0 : Int32} {t1 : Int32} {vl : Nat → Nat} {z : ow_MS} {Q : (Unit × (Nat → Nat) × ow_MS) → Prop} (H : Tt (fun K k => dm_X1_rankDegree_1 K (d_X1_rankDegree K k) x1 x2 x3 x4 x5 r0 t0 t1 vl z) (gQ vl Q)) : Tt (fun K k => d_X1_rankDegree K k 1 x1 x2 x3 x4 x5 r0 t0 t1 vl z) (gQ vl Q) := w_un (fun _ _ => rfl) (w_chV (Nat.le_refl _) H)
theorem u_X1_rankDegree_3 {x1 : Int32} {x2 : Int32} {x3 : Int32} {x4 : Int32} {x5 : Int32} {r0 : Nat} {t0 : Int32} {t1 : Int32} {vl : Nat → Nat} {z : ow_MS} {Q : (Unit × (Nat → Nat) × ow_MS) → Prop} (H : Tt (fun K k => dm_X1_rankDegree_3 K (d_X1_rankDegree K k) x1 x2 x3 x4 x5 r0 t0 t1 vl z) (gQ vl Q)) : Tt (fun K k => d_X1_rankDegree K k 3 x1 x2 x3 x4 x5 r0 t0 t1 vl z) (gQ vl Q) := w_un (fun _ _ => rfl) (w_chV (Nat.le_refl _) H)
theorem u_X1_rankDegree_5 {x1 : Int32} {x2 : Int32} {x3 : Int32} {x4 : Int32} {x5 : Int32} {r0 : Nat} {t0 : Int32} {t1 : Int32} {vl : Nat → Nat} {z : ow_MS} {Q : (Unit × (Nat → Nat) × ow_MS) → Prop} (H : Tt (fun K k => dm_X1_rankDegree_5 K (d_X1_rankDegree K k) x1 x2 x3 x4 x5 r0 t0 t1 vl z) (gQ vl Q)) : Tt (fun K k => d_X1_rankDegree K k 5 x1 x2 x3 x4 x5 r0 t0 t1 vl z) (gQ vl Q) := w_un (fun _ _ => rfl) (w_chV (Nat.le_refl _) H)
theorem u_X1_rankDegree_4 {x1 : Int32} {x2 : Int32} {x3 : Int32} {x4 : Int32} {x5 : Int32} {r0 : Nat} {t0 : Int32} {t1 : Int32} {vl : Nat → Nat} {z : ow_MS} {Q : (Unit × (Nat → Nat) × ow_MS) → Prop} (H : Tt (fun K k => dm_X1_rankDegree_4 K (d_X1_rankDegree K k) x1 x2 x3 x4 x5 r0 t0 t1 vl z) (gQ vl Q)) : Tt (fun K k => d_X1_rankDegree K k 4 x1 x2 x3 x4 x5 r0 t0 t1 vl z) (gQ vl Q) := w_un (fun _ _ => rfl) (w_chV (Nat.le_refl _) H)
theorem u_X1_rankDegree_2 {x1 : Int32} {x2 : Int32} {x3 : Int32} {x4 : Int32} {x5 : Int32} {r0 : Nat} {t0 : Int32} {t1 : Int32} {vl : Nat → Nat} {z : ow_MS} {Q : (Unit × (Nat → Nat) × ow_MS) → Prop} (H : Tt (fun K k => dm_X1_rankDegree_2 K (d_X1_rankDegree K k) x1 x2 x3 x4 x5 r0 t0 t1 vl z) (gQ vl Q)) : Tt (fun K k => d_X1_rankDegree K k 2 x1 x2 x3 x4 x5 r0 t0 t1 vl z) (gQ vl Q) := w_un (fun _ _ => rfl) (w_chV (Nat.le_refl _) H)
theorem e_X1_rankDegree {r0 : Nat} {x1 : Int32} {vl : Nat → Nat} {z : ow_MS} {Q : (Unit × (Nat → Nat) × ow_MS) → Prop} (H : Tt (fun K k => d_X1_rankDegree K k 0 x1 0 0 0 0 r0 0 0 vl z) Q) : Te (fun K => de_X1_rankDegree K r0 x1 vl z) Q := w_te H
theorem u_X1_rankDegree_0 {x1 : Int32} {x2 : Int32} {x3 : Int32} {x4 : Int32} {x5 : Int32} {r0 : Nat} {t0 : Int32} {t1 : Int32} {vl : Nat → Nat} {z : ow_MS} {Q : (Unit × (Nat → Nat) × ow_MS) → Prop} (H : Tt (fun K k => dm_X1_rankDegree_0 K (d_X1_rankDegree K k) x1 x2 x3 x4 x5 r0 t0 t1 vl z) (gQ vl Q)) : Tt (fun K k => d_X1_rankDegree K k 0 x1 x2 x3 x4 x5 r0 t0 t1 vl z) (gQ vl Q) := w_un (fun _ _ => rfl) (w_chV (Nat.le_refl _) H)
theorem tc_rankDegree {d p c ci : Nat} {S : ow_NP} {G : Nat → Int32} {Ls : Nat → Nat → Nat} {ns : Nat → Nat} {wf : Nat → Bool} (hv : vI vl W C) (hy : cAt y 44000 (c, ci, S, G)) (hvn : vn c S) (hc : c ≤ 8) (hd : d < 29) (hwf : gaO c S wf) (hL : LpY y S G c Ls ns) (htb : tbP y) (hch : chP y) (h10 : y.1 43010 = nI p) (hp1 : 2 ≤ p) (hp2 : p ≤ 997) (hsz : ∀ h, smH (bkF ns (dgI d)) h 0 (2 ^ c) ≤ 1140) : Te (fun K => de_X1_rankDegree K 43000 (nI d - 10) vl y) (gQ vl (fun r => fr rkG y r.2.2 ∧ ∃ W' C', vI r.2.1 W' C')) := by
  let Q : Unit × (Nat → Nat) × ow_MS → Prop := fun r => fr rkG y r.2.2 ∧ ∃ W' C', vI r.2.1 W' C'
  have c1 : ∀ (W' : Nat), (∀ h, h < 10 → smH (bkF ns (dgI d)) h 0 (2 ^ c) ≤ W') → ∀ (e o : Nat) (x2 : Int32) (v : Nat → Nat) (z : ow_MS) (C' : Nat), o + e = c + 1 → vI v W' C' → fr rkG y z → LyY z c ns (dgI d) → Tt (fun K k => d_X1_rankDegree K k 1 (nI d - 10) x2 (nI o) 0 0 43000 0 0 v z) (gQ v Q) := by
    intro W' hle e
    induction e with
    | zero =>
      intro o x2 v z C' ho hv' hz hly
      have hz4 : cAt z 44000 (c, ci, S, G) := cAt_fr hz (fun g hg h9 => by unfold cP at hg; unfold rkG lyG kpG at h9; omega) hy
      refine u_X1_rankDegree_1 ?_; unfold dm_X1_rankDegree_1
      exact w_rdF hz4.1 (w_ltT (a := c) (b := o) (by omega) (by omega) (w_some ⟨Nat.le_refl _, hz, W', C', hv'⟩))
    | succ e ih =>
      intro o x2 v z C' ho hv' hz hly
      have hz4 : cAt z 44000 (c, ci, S, G) := cAt_fr hz (fun g hg h9 => by unfold cP at hg; unfold rkG lyG kpG at h9; omega) hy
      generalize hw : smH (bkF ns (dgI d)) (o + 1) 0 (2 ^ c) = w
      have hw1 : w ≤ 1140 := by rw [← hw]; exact hsz _
      have hwW : w ≤ W' := by rw [← hw]; exact hle _ (by omega)
      have c3 : ∀ (e2 i : Nat) (x2 x4 : Int32) (v : Nat → Nat) (z : ow_MS) (C' : Nat), i + e2 = w → vI v W' C' → fr rkG y z → LyY z c ns (dgI d) → Tt (fun K k => d_X1_rankDegree K k 3 (nI d - 10) x2 (nI o) x4 (nI i) 43000 0 0 v z) (gQ v Q) := by
        intro e2
        induction e2 with
        | zero =>
          intro i x2 x4 v z C' hi hv' hz hly
          refine u_X1_rankDegree_3 ?_; unfold dm_X1_rankDegree_3
          rw [nI_1]
          exact w_crI ch_43009 rfl (by omega) ((hly.2 (o + 1) (by omega)).trans (by rw [hw])) (w_leT (a := w) (b := i) (by omega) (by omega) (ih (o + 1) _ v z C' (by omega) hv' hz hly))
        | succ e2 ih2 =>
          intro i x2 x4 v z C' hi hv' hz hly
          have hv2 := hv'
          obtain ⟨h1, h2, h3, h4, h5, h6, h7, h8, h9, h0⟩ := hv'
          have c5 : ∀ t0 : Int32, Tt (fun K k => d_X1_rankDegree K k 5 (nI d - 10) x2 (nI o) x4 (nI i) 43000 t0 (nI i) v z) (gQ v Q) := by
            intro t0
            refine u_X1_rankDegree_5 ?_; unfold dm_X1_rankDegree_5
            rw [nI_1]
            exact w_ctI (ch_43014.trans h4) rfl (by omega) (ih2 (i + 1) _ _ v _ C' (by omega) hv2 (fr_I2 hz (by unfold rkG lyG; omega)) (LyY_fr (fr_I (P := fun g => g = 43014) rfl) (by omega) hly))
          have c4 : Tt (fun K k => d_X1_rankDegree K k 4 (nI d - 10) x2 (nI o) x4 (nI i) 43000 (nI i) 0 v z) (gQ v Q) := by
            refine u_X1_rankDegree_4 ?_; unfold dm_X1_rankDegree_4
            exact c5 0
          refine u_X1_rankDegree_3 ?_; unfold dm_X1_rankDegree_3
          rw [nI_1]
          exact w_crI ch_43009 rfl (by omega) ((hly.2 (o + 1) (by omega)).trans (by rw [hw])) (w_leF (a := w) (b := i) (by omega) (by omega) (w_if (fun _ => c4) (fun _ => w_crI (ch_43012.trans h2) rfl (by omega) rfl (w_if (fun _ => c4) (fun _ => c5 1)))))
      have c2 : ∀ (x4 : Int32) (v : Nat → Nat) (z : ow_MS) (C' : Nat), vI v W' C' → fr rkG y z → LyY z c ns (dgI d) → Tt (fun K k => d_X1_rankDegree K k 2 (nI d - 10) x2 (nI o) x4 0 43000 0 0 v z) (gQ v Q) := by
        intro x4 v z C' hv' hz hly
        refine u_X1_rankDegree_2 ?_; unfold dm_X1_rankDegree_2
        rw [ix_56 ⟨o, by omega⟩ ⟨d, hd⟩]
        exact w_crI ch_43009 rfl (by omega) rfl (w_ctI ch_43018 rfl (by dsimp only; omega) (c3 w 0 _ _ v _ C' (by omega) hv' (fr_I2 hz (by unfold rkG; omega)) (LyY_fr (fr_I (P := fun g => g = 43018) rfl) (by omega) hly)))
      have ep : z.1 43010 = nI p := ((hz 43010 (by unfold rkG lyG kpG; omega)).1).trans h10
      refine u_X1_rankDegree_1 ?_; unfold dm_X1_rankDegree_1
      rw [nI_1]
      refine w_rdF hz4.1 (w_ltF (a := c) (b := o) (by omega) (by omega) (w_crI ch_43009 rfl (by omega) rfl (w_if (fun _ => c2 _ v z C' hv' hz hly) (fun _ => w_crI ch_43009 rfl (by omega) rfl (w_if (fun _ => c2 _ v z C' hv' hz hly) (fun _ => ?_))))))
      refine w_dc1 (tc_eliminate hv' hz4 hvn hc hwf (LpY_fr hz (by unfold rkG lyG kpG; omega) hL) hly (tbP_fr hz (by unfold rkG lyG kpG; omega) htb) (by omega) ep hp1 hp2 (fun h => ⟨hsz h, hle h⟩)) ?_
      rintro x v1 z1 ⟨r1, r2, C2, r3⟩
      exact w_chV r1 (c2 _ v1 z1 C2 r3 (fr_tr hz (fr_mono (fun g hg => Or.inr (Or.inl hg)) r2)) (LyY_fr r2 (by unfold kpG; omega) hly))
  refine e_X1_rankDegree ?_
  refine u_X1_rankDegree_0 ?_; unfold dm_X1_rankDegree_0
  refine w_dc1 (tc_layOut hv hy hc hd hL hch hsz) ?_
  rintro x v1 z1 ⟨r1, r2, r3, W2, r4, r5⟩
  exact w_chV r1 (c1 W2 r5 (c + 1) 0 _ v1 z1 C (by omega) r4 (fr_mono (fun g hg => Or.inl hg) r2) r3)
end LY
end
section
/-! 99zzzzzzzs.ctdy -/
/-! the class: what tidying keeps -/
def altA (A : rn_L) (w : vT → Bool) : Prop := ∀ L, L ∈ A → ∀ p, p ∈ L → w (sc L p) = !w p
def gaA (A : rn_L) (w : vT → Bool) : Prop := altA A w ∧ ∀ x, (x, 0) ∈ A.flatten → w (x, 1) = !w (x, 0)
def adjA (A : rn_L) (p q : vT) : Prop := ∃ L, L ∈ A ∧ p ∈ L ∧ q ∈ L ∧ (sc L p = q ∨ sc L q = p)
theorem rmv_cm {A : rn_L} {r s : vT} : rmv (rmv A r) s = rmv (rmv A s) r := by
  unfold rmv
  rw [List.map_map, List.map_map]
  refine List.map_congr_left (fun L _ => ?_)
  show (L.filter _).filter _ = (L.filter _).filter _
  rw [List.filter_filter, List.filter_filter]
  exact List.filter_congr (fun a _ => Bool.and_comm _ _)
theorem sc_fil {L : List vT} {r p : vT} (hn : L.Nodup) (hp : p ∈ L) (hpr : p ≠ r) : sc (L.filter (fun q => decide (q ≠ r))) p = if sc L p = r then sc L r else sc L p := by
  by_cases hr : r ∈ L
  · obtain ⟨X, Y, rfl⟩ := List.append_of_mem hr
    rw [fil_m hn]
    refine sc_out hn ?_
    rcases List.mem_append.mp hp with h | h
    · exact List.mem_append_left _ h
    · rcases List.mem_cons.mp h with h | h
      · exact absurd h hpr
      · exact List.mem_append_right _ h
  · rw [fil_n hr, if_neg (fun h9 => hr (by rw [← h9]; exact sc_in hp hn))]
theorem same_L {A : rn_L} (hn : A.flatten.Nodup) {L N : List vT} {r : vT} (hL : L ∈ A) (hN : N ∈ A) (h1 : r ∈ L) (h2 : r ∈ N) : N = L := by
  obtain ⟨i, hi, rfl⟩ := List.mem_iff_getElem.mp hL
  obtain ⟨j, hj, rfl⟩ := List.mem_iff_getElem.mp hN
  have e1 := cidx_of hn hi h1
  have e2 := cidx_of hn hj h2
  have : i = j := by omega
  subst this
  rfl
theorem alt_rm2 {A : rn_L} {w : vT → Bool} {L : List vT} {r1 r2 : vT} (hn : A.flatten.Nodup) (hA : altA A w) (hL : L ∈ A) (h1 : r1 ∈ L) (h2 : r2 ∈ L) (e : sc L r1 = r2) (hne : r1 ≠ r2) : altA (rmv (rmv A r1) r2) w := by
  intro M hM p hp
  unfold rmv at hM
  rw [List.map_map] at hM
  obtain ⟨N, hN, rfl⟩ := List.mem_map.mp hM
  have nN := L_nd hn hN
  have hp' : p ∈ (N.filter (fun q => decide (q ≠ r1))).filter (fun q => decide (q ≠ r2)) := hp
  obtain ⟨hp1, hp2⟩ := List.mem_filter.mp hp'
  obtain ⟨hpN, hp3⟩ := List.mem_filter.mp hp1
  have hp2 : p ≠ r2 := of_decide_eq_true hp2
  have hp3 : p ≠ r1 := of_decide_eq_true hp3
  show w (sc ((N.filter (fun q => decide (q ≠ r1))).filter (fun q => decide (q ≠ r2))) p) = !w p
  rw [sc_fil (nN.filter _) hp1 hp2, sc_fil nN hpN hp3]
  have hs := sc_in hpN nN
  have h0 := hA N hN p hpN
  by_cases c1 : sc N p = r1
  · have hr1 : r1 ∈ N := by rw [← c1]; exact hs
    have eN := same_L hn hL hN h1 hr1
    have hr2 : r2 ∈ N := by rw [eN]; exact h2
    have e' : sc N r1 = r2 := by rw [eN]; exact e
    rw [if_pos c1, e', if_pos rfl, sc_fil nN hr2 (fun h9 => hne h9.symm), if_neg (fun h9 => hp2 (sc_inj nN hpN hr2 (by rw [c1, h9]))), hA N hN r2 hr2]
    have h3 := hA N hN r1 hr1
    rw [e'] at h3
    rw [c1] at h0
    rw [h3, h0]
    simp
  · rw [if_neg c1, if_neg (fun h9 => ?_)]
    · exact h0
    · have hr2 : r2 ∈ N := by rw [← h9]; exact hs
      have eN := same_L hn hL hN h2 hr2
      have hr1 : r1 ∈ N := by rw [eN]; exact h1
      exact hp3 (sc_inj nN hpN hr1 (by rw [h9, eN, e]))
theorem alt_adj {A : rn_L} {w : vT → Bool} {p q : vT} (hn : A.flatten.Nodup) (hA : altA A w) (h : adjA A p q) (hne : p ≠ q) : altA (rmv (rmv A p) q) w := by
  obtain ⟨L, hL, h1, h2, e | e⟩ := h
  · exact alt_rm2 hn hA hL h1 h2 e hne
  · rw [rmv_cm]
    exact alt_rm2 hn hA hL h2 h1 e (fun h9 => hne h9.symm)
theorem adj_rmv {A : rn_L} {p q r : vT} (hn : A.flatten.Nodup) (h : adjA A p q) (h1 : p ≠ r) (h2 : q ≠ r) : adjA (rmv A r) p q := by
  obtain ⟨L, hL, g1, g2, e⟩ := h
  have nL := L_nd hn hL
  refine ⟨_, List.mem_map.mpr ⟨L, hL, rfl⟩, List.mem_filter.mpr ⟨g1, decide_eq_true h1⟩, List.mem_filter.mpr ⟨g2, decide_eq_true h2⟩, ?_⟩
  rw [sc_fil nL g1 h1, sc_fil nL g2 h2]
  rcases e with e | e
  · rw [e, if_neg h2]
    exact Or.inl rfl
  · rw [e, if_neg h1]
    exact Or.inr rfl
theorem gaA_1 {A : rn_L} {w : vT → Bool} {x : Nat} (hn : A.flatten.Nodup) (h : gaA A w) (ha : adjA A (x, 0) (x, 1)) : gaA (wox A x) w := ⟨alt_adj hn h.1 ha (fun h9 => by cases h9), fun y hy => h.2 y (rmv_mem.mp (rmv_mem.mp hy).1).1⟩
theorem gaA_2 {A : rn_L} {w : vT → Bool} {x y : Nat} (hn : A.flatten.Nodup) (h : gaA A w) (hxy : x ≠ y) (ha : adjA A (x, 0) (y, 0)) (hb : adjA A (x, 1) (y, 1)) : gaA (wox (wox A x) y) w := by
  have e : wox (wox A x) y = rmv (rmv (rmv (rmv A (x, 0)) (y, 0)) (x, 1)) (y, 1) := by
    unfold wox
    rw [rmv_cm (A := rmv A (x, 0)) (r := (x, 1)) (s := (y, 0))]
  refine ⟨?_, fun z hz => h.2 z ?_⟩
  · rw [e]
    have n1 : (rmv A (x, 0)).flatten.Nodup := rmv_nd hn
    refine alt_adj (rmv_nd n1) (alt_adj hn h.1 ha (fun h9 => hxy (congrArg Prod.fst h9))) (adj_rmv n1 (adj_rmv hn hb (fun h9 => by cases h9) (fun h9 => by cases h9)) (fun h9 => by cases h9) (fun h9 => by cases h9)) (fun h9 => hxy (congrArg Prod.fst h9))
  · exact (rmv_mem.mp (rmv_mem.mp (rmv_mem.mp (rmv_mem.mp hz).1).1).1).1
section TY
variable {A : rn_L} {sg : Nat → Bool} {f : Nat → Nat} {T : ow_NT}
theorem bs_adj (h : isoV A sg f T) {p q : vT} (hp : p ∈ A.flatten) (hq : q ∈ A.flatten) (e : mv_bs T.2.2.1.1 (gl f p) (gl f q) = true) : adjA A p q := by
  have hg := gl_gin h.1
  have key : ∀ p q, p ∈ A.flatten → q ∈ A.flatten → T.2.2.1.1 (gl f p) = gl f q → ∃ L, L ∈ A ∧ p ∈ L ∧ q ∈ L ∧ sc L p = q := by
    intro p q hp hq e
    obtain ⟨L, hL, hpL⟩ := List.mem_flatten.mp hp
    have nL := L_nd h.1.1.1 hL
    have hs := sc_in hpL nL
    have e1 := (h.2 L hL p hpL).1
    rw [e] at e1
    have e2 := hg _ _ hq (List.mem_flatten.mpr ⟨L, hL, hs⟩) e1
    exact ⟨L, hL, hpL, by rw [e2]; exact hs, e2.symm⟩
  unfold mv_bs at e
  rcases Bool.or_eq_true_iff.mp e with e | e
  · obtain ⟨L, h1, h2, h3, h4⟩ := key p q hp hq (of_decide_eq_true e)
    exact ⟨L, h1, h2, h3, Or.inl h4⟩
  · obtain ⟨L, h1, h2, h3, h4⟩ := key q p hq hp (of_decide_eq_true e)
    exact ⟨L, h1, h3, h2, Or.inr h4⟩
theorem nm_of (h : isoV A sg f T) {x : Nat} (hx : x < T.1) : ∃ x0, f x0 = x ∧ (x0, 0) ∈ A.flatten ∧ (x0, 1) ∈ A.flatten := by
  obtain ⟨v, hv, e⟩ := lbv_sur (isoS_iff.mp h.1) (show 2 * x < 2 * T.1 by omega)
  have hm := vAt_mem hv
  have e' : gl f (vAt A v) = 2 * x := e
  generalize vAt A v = p at hm e'
  obtain ⟨-, p2, p3⟩ := h.1.1.2 p hm
  unfold gl at e'
  obtain ⟨a, b⟩ := p
  have hb : b = 0 := by
    dsimp only at e' p2
    omega
  subst hb
  exact ⟨a, by dsimp only at e'; omega, hm, p3⟩
theorem rmG_nz {G : Nat → Int32} {x c : Nat} (h : ∀ k, k < c + 1 → G k ≠ 0) (hx : x < c + 1) : ∀ k, k < c → np_rmG G x c k ≠ 0 := by
  intro k hk
  unfold np_rmG
  split
  · exact h k (by omega)
  · unfold su
    split
    · exact h c (by omega)
    · exact h k (by omega)
def tyI (T : ow_NT) : Prop := nv T ∧ (∀ x, x < T.1 → T.2.2.2 x ≠ 0) ∧ ∃ A sg f w k, isoV A sg f T ∧ gaA A w ∧ A.length ≤ 6 ∧ pLe A k ∧ 1 ≤ k ∧ T.1 + k ≤ 9
theorem tyI_1 {x : Nat} (h : tyI T) (hx : x < T.1) (e : mv_bs T.2.2.1.1 (2 * x) (2 * x + 1) = true) : tyI (nt_rm T x) := by
  obtain ⟨h1, h2, A, sg, f, w, k, h3, h4, h5, h6, h7, h8⟩ := h
  obtain ⟨x0, rfl, m0, m1⟩ := nm_of h3 hx
  obtain ⟨f', i1, -⟩ := iso_rm h3 m0
  refine ⟨nv_rm h1 hx, rmG_nz (c := T.1 - 1) (fun k hk => h2 k (by omega)) (by omega), wox A x0, sg, f', w, k + 1, i1, gaA_1 h3.1.1.1 h4 (bs_adj h3 m0 m1 e), by rw [wox_len]; exact h5, pLe_rm (fun p hp => (h3.1.1.2 p hp).2.1) h6, by omega, ?_⟩
  show T.1 - 1 + (k + 1) ≤ 9
  omega
theorem tyI_2 {x y : Nat} (h : tyI T) (hx : x < T.1) (hy : y < x) (e : mv_pair T.2.2.1.1 T.2.2.2 x y = true) : tyI (nt_rm (nt_rm T x) y) := by
  obtain ⟨h1, h2, A, sg, f, w, k, h3, h4, h5, h6, h7, h8⟩ := h
  obtain ⟨x0, rfl, m0, m1⟩ := nm_of h3 hx
  obtain ⟨y0, rfl, n0, n1⟩ := nm_of h3 (show y < T.1 by omega)
  have hne : x0 ≠ y0 := fun h9 => by
    rw [h9] at hy
    omega
  unfold mv_pair at e
  obtain ⟨e1, e2⟩ := Bool.and_eq_true_iff.mp e
  obtain ⟨-, e1⟩ := Bool.and_eq_true_iff.mp e1
  have hu := fun (p : vT) (hp : p ∈ A.flatten) => (h3.1.1.2 p hp).2.1
  obtain ⟨f', i1, i2⟩ := iso_rm h3 m0
  have i3 := i2 y0
  rw [if_neg (by omega)] at i3
  have n2 : (y0, 0) ∈ (wox A x0).flatten := (wox_mem hu).mpr ⟨n0, fun h9 => hne h9.symm⟩
  obtain ⟨f2, j1, -⟩ := iso_rm i1 n2
  rw [i3] at j1
  have hx1 : (nt_rm T (f x0)).1 = T.1 - 1 := rfl
  have g1 : ∀ k, k < (nt_rm T (f x0)).1 → (nt_rm T (f x0)).2.2.2 k ≠ 0 := rmG_nz (c := T.1 - 1) (fun k hk => h2 k (by omega)) (by omega)
  refine ⟨nv_rm (nv_rm h1 hx) (by omega), rmG_nz (c := (nt_rm T (f x0)).1 - 1) (fun k hk => g1 k (by omega)) (by omega), wox (wox A x0) y0, sg, f2, w, k + 1 + 1, j1, gaA_2 h3.1.1.1 h4 hne (bs_adj h3 m0 n0 e1) (bs_adj h3 m1 n1 e2), by rw [wox_len, wox_len]; exact h5, pLe_rm (fun p hp => (i1.1.1.2 p hp).2.1) (pLe_rm hu h6), by omega, ?_⟩
  show T.1 - 1 - 1 + (k + 1 + 1) ≤ 9
  omega
end TY
section TY2
variable {vl : Nat → Nat} {y : ow_MS} {T : ow_NT}
theorem u_X1_tidyOnce_1 {vl : Nat → Nat} {x1 : Int32} {x2 : Int32} {r0 : Nat} {z : ow_MS} {Q : (Int32 × ow_MS) → Prop} (H : Tt (fun K k => cm_X1_tidyOnce_1 vl K (c_X1_tidyOnce vl K k) x1 x2 r0 z) Q) : Tt (fun K k => c_X1_tidyOnce vl K k 1 x1 x2 r0 z) Q := w_un (fun _ _ => rfl) H
theorem u_X1_tidyOnce_2 {vl : Nat → Nat} {x1 : Int32} {x2 : Int32} {r0 : Nat} {z : ow_MS} {Q : (Int32 × ow_MS) → Prop} (H : Tt (fun K k => cm_X1_tidyOnce_2 vl K (c_X1_tidyOnce vl K k) x1 x2 r0 z) Q) : Tt (fun K k => c_X1_tidyOnce vl K k 2 x1 x2 r0 z) Q := w_un (fun _ _ => rfl) H
theorem e_X1_tidyOnce {vl : Nat → Nat} {r0 : Nat} {z : ow_MS} {Q : (Int32 × ow_MS) → Prop} (H : Tt (fun K k => c_X1_tidyOnce vl K k 0 0 0 r0 z) Q) : Te (fun K => ce_X1_tidyOnce vl K r0 z) Q := w_te H
theorem u_X1_tidyOnce_0 {vl : Nat → Nat} {x1 : Int32} {x2 : Int32} {r0 : Nat} {z : ow_MS} {Q : (Int32 × ow_MS) → Prop} (H : Tt (fun K k => cm_X1_tidyOnce_0 vl K (c_X1_tidyOnce vl K k) x1 x2 r0 z) Q) : Tt (fun K k => c_X1_tidyOnce vl K k 0 x1 x2 r0 z) Q := w_un (fun _ _ => rfl) H
theorem tc_tidyOnce (hy : cAt y 44000 T) (hT : tyI T) : Te (fun K => ce_X1_tidyOnce vl K 43000 y) (fun r => (∃ T', cAt r.2 44000 T' ∧ tyI T') ∧ fr (cP 44000) y r.2) := by
  let Q : Int32 × ow_MS → Prop := fun r => (∃ T', cAt r.2 44000 T' ∧ tyI T') ∧ fr (cP 44000) y r.2
  have hb := hT.1.2.2.1
  have h12 := hT.1.2.1
  have c1 : ∀ (d x : Nat), x + d = T.1 → Tt (fun K k => c_X1_tidyOnce vl K k 1 (nI x) 0 43000 y) Q := by
    intro d
    induction d with
    | zero =>
      intro x hx
      refine u_X1_tidyOnce_1 ?_; unfold cm_X1_tidyOnce_1
      exact w_rdF hy.1 (w_leT (by omega) (by omega) (w_okZ (Or.inl rfl) (w_some ⟨⟨T, hy, hT⟩, fr_rf⟩)))
    | succ d ih =>
      intro x hx
      have c2 : ∀ (d2 u : Nat), u + d2 = x → Tt (fun K k => c_X1_tidyOnce vl K k 2 (nI x) (nI u) 43000 y) Q := by
        intro d2
        induction d2 with
        | zero =>
          intro u hu
          refine u_X1_tidyOnce_2 ?_; unfold cm_X1_tidyOnce_2
          refine w_leT (by omega) (by omega) ?_
          rw [nI_1]
          exact ih (x + 1) (by omega)
        | succ d2 ih2 =>
          intro u hu
          refine u_X1_tidyOnce_2 ?_; unfold cm_X1_tidyOnce_2
          refine w_leF (by omega) (by omega) (w_cs1 (tc_isPair nH44 hy hb (by omega) (by omega)) ?_)
          rintro a z1 ⟨r1, r2⟩
          dsimp only at r1 r2
          subst r2
          rw [r1]
          cases e : mv_pair T.2.2.1.1 T.2.2.2 x u with
          | false =>
            refine w_ifT rfl ?_
            rw [nI_1]
            exact ih2 (u + 1) (by omega)
          | true =>
            refine w_ifF (by decide) (w_cs0 (tc_removeCrossing nH44 hy hb (by omega) h12) ?_)
            rintro z2 ⟨q1, q2⟩
            have hx1 : (nt_rm T x).1 = T.1 - 1 := rfl
            have hv1 := nv_rm hT.1 (show x < T.1 by omega)
            refine w_cs0 (tc_removeCrossing nH44 q1 hv1.2.2.1 (by omega) hv1.2.1) ?_
            rintro z3 ⟨q3, q4⟩
            exact w_okZ (Or.inr rfl) (w_some ⟨⟨_, q3, tyI_2 hT (by omega) (by omega) e⟩, fr_tr q2 q4⟩)
      refine u_X1_tidyOnce_1 ?_; unfold cm_X1_tidyOnce_1
      refine w_rdF hy.1 (w_leF (by omega) (by omega) (w_cs1 (tc_isLoop nH44 hy hb (by omega)) ?_))
      rintro a z1 ⟨r1, r2⟩
      dsimp only at r1 r2
      subst r2
      rw [r1]
      cases e : mv_bs T.2.2.1.1 (2 * x) (2 * x + 1) with
      | false => exact w_ifT rfl (c2 x 0 (by omega))
      | true =>
        refine w_ifF (by decide) (w_cs0 (tc_removeCrossing nH44 hy hb (by omega) h12) ?_)
        rintro z2 ⟨q1, q2⟩
        exact w_okZ (Or.inr rfl) (w_some ⟨⟨_, q1, tyI_1 hT (by omega) e⟩, q2⟩)
  refine e_X1_tidyOnce ?_
  refine u_X1_tidyOnce_0 ?_; unfold cm_X1_tidyOnce_0
  exact c1 T.1 0 (by omega)
theorem u_X1_tidy_1 {vl : Nat → Nat} {x1 : Int32} {x2 : Int32} {r0 : Nat} {z : ow_MS} {Q : ow_MS → Prop} (H : Tt (fun K k => cm_X1_tidy_1 vl K (c_X1_tidy vl K k) x1 x2 r0 z) Q) : Tt (fun K k => c_X1_tidy vl K k 1 x1 x2 r0 z) Q := w_un (fun _ _ => rfl) H
theorem e_X1_tidy {vl : Nat → Nat} {r0 : Nat} {z : ow_MS} {Q : ow_MS → Prop} (H : Tt (fun K k => c_X1_tidy vl K k 0 0 0 r0 z) Q) : Te (fun K => ce_X1_tidy vl K r0 z) Q := w_te H
theorem u_X1_tidy_0 {vl : Nat → Nat} {x1 : Int32} {x2 : Int32} {r0 : Nat} {z : ow_MS} {Q : ow_MS → Prop} (H : Tt (fun K k => cm_X1_tidy_0 vl K (c_X1_tidy vl K k) x1 x2 r0 z) Q) : Tt (fun K k => c_X1_tidy vl K k 0 x1 x2 r0 z) Q := w_un (fun _ _ => rfl) H
theorem tc_tidy (hy : cAt y 44000 T) (hT : tyI T) : Te (fun K => ce_X1_tidy vl K 43000 y) (fun y1 => (∃ T', cAt y1 44000 T' ∧ tyI T') ∧ fr (cP 44000) y y1) := by
  let Q : ow_MS → Prop := fun y1 => (∃ T', cAt y1 44000 T' ∧ tyI T') ∧ fr (cP 44000) y y1
  have c1 : ∀ (d i : Nat) (x1 : Int32) (z : ow_MS), i + d = 9 → Q z → Tt (fun K k => c_X1_tidy vl K k 1 x1 (nI i) 43000 z) Q := by
    intro d
    induction d with
    | zero =>
      intro i x1 z hi hz
      refine u_X1_tidy_1 ?_; unfold cm_X1_tidy_1
      exact w_ltT (a := 8) (b := i) (by omega) (by omega) (w_some hz)
    | succ d ih =>
      intro i x1 z hi hz
      refine u_X1_tidy_1 ?_; unfold cm_X1_tidy_1
      refine w_ltF (a := 8) (b := i) (by omega) (by omega) (w_if (fun _ => w_some hz) (fun _ => ?_))
      obtain ⟨⟨T1, t1, t2⟩, t3⟩ := hz
      refine w_cs1 (tc_tidyOnce t1 t2) ?_
      rintro a z1 ⟨q1, q2⟩
      rw [nI_1]
      exact ih (i + 1) _ z1 (by omega) ⟨q1, fr_tr t3 q2⟩
  refine e_X1_tidy ?_
  refine u_X1_tidy_0 ?_; unfold cm_X1_tidy_0
  exact c1 9 0 _ y (by omega) ⟨⟨T, hy, hT⟩, fr_rf⟩
end TY2
end
section
/-! 99zzzzzzzt.ccmp -/
/-! the class: a tidied net is small enough -/
def rnS (f : Nat → Nat) (p : vT) : vT := (f p.1, p.2)
def rnA (f : Nat → Nat) (A : rn_L) : rn_L := A.map (List.map (rnS f))
section RNM
variable {A : rn_L} {sg : Nat → Bool} {f : Nat → Nat} {T : ow_NT}
theorem rnA_fl : (rnA f A).flatten = A.flatten.map (rnS f) := List.map_flatten.symm
theorem rnS_in (h : isoV A sg f T) {p q : vT} (hp : p ∈ A.flatten) (hq : q ∈ A.flatten) (e : rnS f p = rnS f q) : p = q := by
  have e1 : f p.1 = f q.1 := congrArg (fun r : vT => r.1) e
  have e2 : (rnS f p).2 = (rnS f q).2 := by rw [e]
  exact Prod.ext (h.1.2.2.2.2.1 p q hp hq e1) e2
theorem rnA_ok (h : isoV A sg f T) : okF (rnA f A).flatten T.1 := by
  rw [rnA_fl]
  refine ⟨List.pairwise_map.mpr (List.Pairwise.imp_of_mem (fun ha hb hab e => hab (rnS_in h ha hb e)) h.1.1.1), fun q => ⟨fun hq => ?_, fun hq => ?_⟩⟩
  · obtain ⟨p, hp, rfl⟩ := List.mem_map.mp hq
    exact ⟨h.1.2.2.2.1 p hp, (h.1.1.2 p hp).2.1⟩
  · obtain ⟨x0, e, m0, m1⟩ := nm_of h hq.1
    obtain ⟨a, b⟩ := q
    have hb : b = 0 ∨ b = 1 := by
      have := hq.2
      dsimp only at this
      omega
    dsimp only at e
    rcases hb with rfl | rfl
    · exact List.mem_map.mpr ⟨_, m0, by unfold rnS; rw [e]⟩
    · exact List.mem_map.mpr ⟨_, m1, by unfold rnS; rw [e]⟩
theorem rn_cirs : cirs (rnA f A) = cirs A := by
  unfold cirs rnA
  rw [List.countP_map]
  refine List.countP_congr (fun L _ => ?_)
  cases L <;> simp
theorem rn_V (h : isoV A sg f T) : isoV (rnA f A) (fun x => decide (T.2.2.2 x < 0)) (fun x => x) T := by
  have hok := rnA_ok h
  have hsh : shP T.2.2.1 (gl (fun x => x)) (rnA f A) := by
    intro L' hL'
    obtain ⟨L, hL, rfl⟩ := List.mem_map.mp hL'
    intro q hq
    obtain ⟨p, hp, rfl⟩ := List.mem_map.mp hq
    have nL := L_nd h.1.1.1 hL
    rw [sc_map nL (fun a b ha hb e => rnS_in h (List.mem_flatten.mpr ⟨L, hL, ha⟩) (List.mem_flatten.mpr ⟨L, hL, hb⟩) e) hp]
    exact h.2 L hL p hp
  refine ⟨⟨okF_wk (by have := h.1.2.2.1; omega) hok, ?_, h.1.2.2.1, fun p hp => ((hok.2 p).mp hp).1, fun p q _ _ e => e, fun L hL p hp => (hsh L hL p hp).1, fun p _ => ?_, ?_⟩, hsh⟩
  · rw [rnA_fl, List.length_map]
    exact h.1.2.1
  · exact ⟨fun h9 => decide_eq_true h9, fun h9 => of_decide_eq_true h9⟩
  · rw [rn_cirs]
    exact h.1.2.2.2.2.2.2.2
theorem gl_lt (h : isoV A sg f T) {p : vT} (hp : p ∈ A.flatten) : gl f p < 2 * T.1 := by
  have h1 := h.1.2.2.2.1 p hp
  have h2 := (h.1.1.2 p hp).2.1
  unfold gl
  omega
theorem gl_mt {x : Nat} : mt (gl f (x, 0)) = gl f (x, 1) ∧ mt (gl f (x, 1)) = gl f (x, 0) := by
  unfold gl mt
  dsimp only
  constructor
  · rw [if_pos (by omega)]
  · rw [if_neg (by omega)]
    omega
theorem gaT_of {w : vT → Bool} (h : isoV A sg f T) (hw : gaA A w) : gaT T.1 T.2.2.1 := by
  have hex : ∀ k, ∃ b : Bool, ∀ p, p ∈ A.flatten → gl f p = k → w p = b := by
    intro k
    by_cases hk : ∃ p, p ∈ A.flatten ∧ gl f p = k
    · obtain ⟨p, hp, e⟩ := hk
      exact ⟨w p, fun q hq e2 => by rw [gl_gin h.1 q p hq hp (by rw [e, e2])]⟩
    · exact ⟨false, fun p hp e => absurd ⟨p, hp, e⟩ hk⟩
  let w' : Nat → Bool := fun k => Classical.choose (hex k)
  have hw' : ∀ p, p ∈ A.flatten → w' (gl f p) = w p := fun p hp => (Classical.choose_spec (hex (gl f p)) p hp rfl).symm
  refine ⟨w', fun v hv => ?_⟩
  obtain ⟨u, hu, e⟩ := lbv_sur (isoS_iff.mp h.1) hv
  have hm := vAt_mem hu
  have e' : gl f (vAt A u) = v := e
  generalize vAt A u = p at hm e'
  obtain ⟨L, hL, hp⟩ := List.mem_flatten.mp hm
  have nL := L_nd h.1.1.1 hL
  rw [← e']
  refine ⟨?_, ?_⟩
  · rw [(h.2 L hL p hp).1, hw' _ (List.mem_flatten.mpr ⟨L, hL, sc_in hp nL⟩), hw' p hm]
    exact hw.1 L hL p hp
  · obtain ⟨-, p2, p3⟩ := h.1.1.2 p hm
    obtain ⟨a, b⟩ := p
    have hb : b = 0 ∨ b = 1 := by
      dsimp only at p2
      omega
    rcases hb with rfl | rfl
    · rw [gl_mt.1, hw' _ p3, hw' _ hm]
      exact hw.2 a hm
    · have p3' : (a, 0) ∈ A.flatten := p3
      rw [gl_mt.2, hw' _ p3', hw' _ hm, hw.2 a p3', Bool.not_not]
theorem tyI_sz {c ci : Nat} {S : ow_NP} {G : Nat → Int32} (h : tyI (c, ci, S, G)) : c ≤ 8 ∧ gaT c S ∧ (∀ s, s < 2 ^ c → rtsN (uPx S G (tb s) c) (2 * c) ≤ 9) ∧ ∀ h, smH (fun s => mbt (rtsN (uPx S G (tb s) c) (2 * c))) h 0 (2 ^ c) ≤ 1140 := by
  obtain ⟨h1, h2, A, sg, f, w, k, h3, h4, h5, h6, h7, h8⟩ := h
  have hV := rn_V h3
  have hk := pLe_to h3 h6
  have hK := ch_ok2 (rnA_ok h3) (by unfold rnA; rw [List.length_map]; exact h5) hV hk h7 h8
  have h8 : c + k ≤ 9 := h8
  have hc8 : c ≤ 8 := by omega
  have eq : ∀ s, s < 2 ^ c → rtsN (uPx S G (tb s) c) (2 * c) ≤ LcN (rnA f A) (fun x => decide (G x < 0)) s := by
    intro s hs
    have h256 : 2 ^ c ≤ 256 := two_mono (b := 8) hc8
    rw [loops_eq (st := nI s) (isoS_iff.mp hV.1) (isoV_vn hV)]
    · exact Nat.le_add_right _ _
    · intro v hv _
      have hx : crs (rnA f A) v < c := (isoS_iff.mp hV.1).2.2.2.1 v hv
      generalize crs (rnA f A) v = x at hx
      have hG : G x ≠ 0 := h2 x hx
      unfold alS alB sgP tb
      dsimp only
      rw [bit_nI (by omega) (by omega)]
      have hb : btN s x = 0 ∨ btN s x = 1 := by unfold btN; omega
      have hs : decide (0 < G x) = !decide (G x < 0) := by
        by_cases h9 : G x < 0
        · rw [decide_eq_true h9, decide_eq_false (fun h8 => ?_)]
          · rfl
          · rw [Int32.lt_iff_toInt_lt] at h8 h9
            omega
        · rw [decide_eq_false h9, decide_eq_true]
          · rfl
          · rw [Int32.lt_iff_toInt_lt] at h9 ⊢
            have : (G x).toInt ≠ (0 : Int32).toInt := fun h8 => hG (Int32.toInt_inj.mp h8)
            omega
      rw [hs]
      rcases hb with hb | hb
      · rw [hb]
        unfold btN at hb
        rw [hb]
        generalize decide (G x < 0) = b0
        revert b0
        decide
      · rw [hb]
        unfold btN at hb
        rw [hb]
        generalize decide (G x < 0) = b0
        revert b0
        decide
  refine ⟨hc8, gaT_of h3 h4, fun s hs => Nat.le_trans (eq s hs) (hK.2.2.2.1 s hs), fun h => ?_⟩
  exact Nat.le_trans (smH_le _ (fun i hi => by
    rw [Nat.zero_add]
    exact mbt_mono (eq i hi))) (hK.2.2.2.2.2 h)
theorem bkF_sz {c : Nat} {ns : Nat → Nat} {dg : Int} (h9 : ∀ s, s < 2 ^ c → ns s ≤ 9) {h B : Nat} (hB : smH (fun s => mbt (ns s)) h 0 (2 ^ c) ≤ B) : smH (bkF ns dg) h 0 (2 ^ c) ≤ B := by
  refine Nat.le_trans (smH_le _ (fun i hi => ?_)) hB
  rw [Nat.zero_add]
  unfold bkF
  cases hk : kpF (ns i) (pc i) dg with
  | none => exact Nat.zero_le _
  | some k =>
    have := kpF_le hk
    have := h9 i hi
    exact bi_mbt ⟨ns i, by omega⟩ ⟨k, by omega⟩
theorem isoV_cg {T' : ow_NT} (h : isoV A sg f T) (e1 : T'.1 = T.1) (e2 : T'.2.1 = T.2.1) (e3 : ∀ k, k < 2 * T.1 → T'.2.2.1.1 k = T.2.2.1.1 k ∧ T'.2.2.1.2 k = T.2.2.1.2 k) (e4 : ∀ x, x < T.1 → T'.2.2.2 x = T.2.2.2 x) : isoV A sg f T' := by
  have hsh : shP T'.2.2.1 (gl f) A := by
    intro L hL p hp
    have nL := L_nd h.1.1.1 hL
    rw [(e3 _ (gl_lt h (List.mem_flatten.mpr ⟨L, hL, hp⟩))).1, (e3 _ (gl_lt h (List.mem_flatten.mpr ⟨L, hL, sc_in hp nL⟩))).2]
    exact h.2 L hL p hp
  refine ⟨⟨h.1.1, by rw [e1]; exact h.1.2.1, by rw [e1]; exact h.1.2.2.1, by rw [e1]; exact h.1.2.2.2.1, h.1.2.2.2.2.1, fun L hL p hp => (hsh L hL p hp).1, fun p hp => ?_, by rw [e2]; exact h.1.2.2.2.2.2.2.2⟩, hsh⟩
  rw [e4 _ (h.1.2.2.2.1 p hp)]
  exact h.1.2.2.2.2.2.2.1 p hp
theorem tyI_cp {Q : ow_NT} (h : tyI T) (hQ : ow_b24 Q.2.2.1) : tyI (nt_copy Q T) := by
  obtain ⟨h1, h2, A, sg, f, w, k, h3, h4, h5, h6, h7, h8⟩ := h
  have key : ∀ {β : Type} (f g : Nat → β) (n k : Nat), k < n → va_cpy f g 0 0 n k = f k := fun f g n k hk => by
    rw [pk_cpy_in (Nat.zero_le k) (by omega), Nat.zero_add, Nat.sub_zero]
  have g1 : ∀ x, x < T.1 → (nt_copy Q T).2.2.2 x = T.2.2.2 x := fun x hx => key _ _ _ _ hx
  exact ⟨nv_copy h1 hQ, fun x hx => by rw [g1 x hx]; exact h2 x hx, A, sg, f, w, k, isoV_cg h3 rfl rfl (fun k hk => ⟨key _ _ _ _ hk, key _ _ _ _ hk⟩) g1, h4, h5, h6, h7, h8⟩
end RNM
end
section
/-! 99zzzzzzzu.cch1 -/
/-! the class: chain -/
def cmG (g : Nat) : Prop := 43002 ≤ g ∧ g ≤ 43004 ∨ 43007 ≤ g ∧ g ≤ 43020 ∨ cP 44000 g
theorem dg_c : ∀ d : Fin 30, ((18 : Int32) < nI d.val - 10 ↔ d.val = 29) ∧ nI d.val - 10 + 1 = nI (d.val + 1) - 10 := by decide +kernel
theorem cmG_c {g : Nat} (h : cP 44000 g) : cmG g := Or.inr (Or.inr h)
theorem chP_fr {P : Nat → Prop} {y y1 : ow_MS} (hf : fr P y y1) (hP : ∀ g, P g → g < 45000) (h : chP y) : chP y1 := fun i k hi hk => by
  rw [(hf (45001 + i) (fun h9 => by have := hP _ h9; omega)).2.1]
  exact h i k hi hk
section CH
variable {vl : Nat → Nat} {y : ow_MS} {W C : Nat}
def chG (g : Nat) : Prop := 4001 ≤ g ∧ g ≤ 4011 ∨ cmG g
theorem gM_ch {y1 y2 : ow_MS} (hN : gN y1) (hf : fr (cL 4000) y y1) (hf2 : fr (fun g => cQ 4000 g ∨ cmG g) y1 y2) (h44 : ∃ T, cAt y2 44000 T ∧ ow_b24 T.2.2.1) (h : gM y) : gM y2 := by
  refine ⟨⟨dgC_fr hf2 (fun g g1 g2 h9 => by unfold cQ cmG cP at h9; omega) hN.1, fun h' hh' => ?_, kdC_fr hf2 (fun g hg => by unfold cQ cmG cP at hg; omega) hN.2.2⟩, tbs_fr (fr_tr (fr_mono (fun g hg => Or.inl hg) hf) (fr_mono (fun g hg => Or.inr hg) hf2)) (fun g (hg : cL 4000 g ∨ cQ 4000 g ∨ cmG g) => by unfold cL cQ cmG cP at hg; omega) h.2⟩
  have key : ∀ a, a ∈ nHL → a ≤ 40000 ∨ 44000 = a := by decide
  rcases key h' hh' with h9 | h9
  · obtain ⟨T, t1, t2⟩ := hN.2.1 h' hh'
    have key2 : ∀ a, a ∈ nHL → a = 4000 ∨ 4012 ≤ a := by decide
    have := key2 h' hh'
    exact ⟨T, cAt_fr hf2 (fun g hg h8 => by unfold cP at hg; unfold cQ cmG cP at h8; omega) t1, t2⟩
  · rw [← h9]
    exact h44
end CH
end
section
/-! 99zzzzzzzv.ccmp2 -/
/-! the class: all degrees -/
def cmH (g : Nat) : Prop := 43002 ≤ g ∧ g ≤ 43004 ∨ 43007 ≤ g ∧ g ≤ 43018
theorem rk_lt {g : Nat} (hg : rkG g) : 43007 ≤ g ∧ g ≤ 43018 ∧ g ≠ 43010 := by
  unfold rkG lyG kpG at hg
  omega
section CM2
variable {vl : Nat → Nat} {c ci p : Nat} {S : ow_NP} {G : Nat → Int32} {Ls : Nat → Nat → Nat} {ns : Nat → Nat} {wf : Nat → Bool} {W C : Nat}
theorem u_X1_compute_3 {x2 : Int32} {x3 : Int32} {x4 : Int32} {r0 : Nat} {r1 : Nat} {vl : Nat → Nat} {z : ow_MS} {Q : (Int32 × (Nat → Nat) × ow_MS) → Prop} (H : Tt (fun K k => dm_X1_compute_3 K (d_X1_compute K k) x2 x3 x4 r0 r1 vl z) (gQ vl Q)) : Tt (fun K k => d_X1_compute K k 3 x2 x3 x4 r0 r1 vl z) (gQ vl Q) := w_un (g := fun K k => chV vl (dm_X1_compute_3 K (d_X1_compute K k) x2 x3 x4 r0 r1 vl z)) (fun _ _ => rfl) (w_chV (E := fun K k => dm_X1_compute_3 K (d_X1_compute K k) x2 x3 x4 r0 r1 vl z) (Nat.le_refl _) H)
theorem tc_cmp3 {z7 : ow_MS} : ∀ (e i : Nat) (x3 : Int32) (v : Nat → Nat) (z : ow_MS) (W' C' : Nat), i + e = 504 → fr rkG z7 z → vI v W' C' → Tt (fun K k => d_X1_compute K k 3 (nI p) x3 (nI i) 43000 4000 v z) (gQ v (fun r => fr rkG z7 r.2.2 ∧ ∃ W' C', vI r.2.1 W' C')) := by
  intro e
  induction e with
  | zero =>
    intro i x3 v z W' C' hi hz hv'
    refine u_X1_compute_3 ?_; unfold dm_X1_compute_3
    rw [show uw_len (cX v) z (43000 + 18) = 504 from ch_43018]
    exact w_leT (a := 504) (b := i) (by omega) (by omega) (w_some ⟨Nat.le_refl _, hz, W', C', hv'⟩)
  | succ e ih =>
    intro i x3 v z W' C' hi hz hv'
    refine u_X1_compute_3 ?_; unfold dm_X1_compute_3
    rw [show uw_len (cX v) z (43000 + 18) = 504 from ch_43018, nI_1]
    exact w_leF (a := 504) (b := i) (by omega) (by omega) (w_crI ch_43018 rfl (by omega) rfl (ih (i + 1) _ v z W' C' (by omega) hz hv'))
theorem at44 {z7 z : ow_MS} {T : ow_NT} (c7 : cAt z7 44000 T) (hz : fr rkG z7 z) : cAt z 44000 T := cAt_fr hz (fun g hg h9 => by have := rk_lt h9; unfold cP at hg; omega) c7
theorem u_X1_compute_2 {x2 : Int32} {x3 : Int32} {x4 : Int32} {r0 : Nat} {r1 : Nat} {vl : Nat → Nat} {z : ow_MS} {Q : (Int32 × (Nat → Nat) × ow_MS) → Prop} (H : Tt (fun K k => dm_X1_compute_2 K (d_X1_compute K k) x2 x3 x4 r0 r1 vl z) (gQ vl Q)) : Tt (fun K k => d_X1_compute K k 2 x2 x3 x4 r0 r1 vl z) (gQ vl Q) := w_un (g := fun K k => chV vl (dm_X1_compute_2 K (d_X1_compute K k) x2 x3 x4 r0 r1 vl z)) (fun _ _ => rfl) (w_chV (E := fun K k => dm_X1_compute_2 K (d_X1_compute K k) x2 x3 x4 r0 r1 vl z) (Nat.le_refl _) H)
theorem tc_cmp2 {z7 : ow_MS} (c7 : cAt z7 44000 (c, ci, S, G)) (hci : ci ≤ 6) : ∀ (e i : Nat) (v : Nat → Nat) (z : ow_MS) (W' C' : Nat), i + e = ci → fr rkG z7 z → vI v W' C' → Tt (fun K k => d_X1_compute K k 2 (nI p) (nI i) 0 43000 4000 v z) (gQ v (fun r => fr rkG z7 r.2.2 ∧ ∃ W' C', vI r.2.1 W' C')) := by
  intro e
  induction e with
  | zero =>
    intro i v z W' C' hi hz hv'
    refine u_X1_compute_2 ?_; unfold dm_X1_compute_2
    exact w_rdF (at44 c7 hz).2.1 (w_leT (a := ci) (b := i) (by omega) (by omega) (tc_cmp3 504 0 _ v z W' C' (by omega) hz hv'))
  | succ e ih =>
    intro i v z W' C' hi hz hv'
    refine u_X1_compute_2 ?_; unfold dm_X1_compute_2
    refine w_rdF (at44 c7 hz).2.1 (w_leF (a := ci) (b := i) (by omega) (by omega) (w_cs0 tc_addCircle (fun z1 h1 => ?_)))
    rw [nI_1]
    exact ih (i + 1) v z1 W' C' (by omega) (fr_tr hz (fr_mono (fun g hg => Or.inr (Or.inr hg)) h1)) hv'
theorem u_X1_compute_1 {x2 : Int32} {x3 : Int32} {x4 : Int32} {r0 : Nat} {r1 : Nat} {vl : Nat → Nat} {z : ow_MS} {Q : (Int32 × (Nat → Nat) × ow_MS) → Prop} (H : Tt (fun K k => dm_X1_compute_1 K (d_X1_compute K k) x2 x3 x4 r0 r1 vl z) (gQ vl Q)) : Tt (fun K k => d_X1_compute K k 1 x2 x3 x4 r0 r1 vl z) (gQ vl Q) := w_un (g := fun K k => chV vl (dm_X1_compute_1 K (d_X1_compute K k) x2 x3 x4 r0 r1 vl z)) (fun _ _ => rfl) (w_chV (E := fun K k => dm_X1_compute_1 K (d_X1_compute K k) x2 x3 x4 r0 r1 vl z) (Nat.le_refl _) H)
theorem tc_cmp1 {z7 : ow_MS} (c7 : cAt z7 44000 (c, ci, S, G)) (hvn : vn c S) (hc8 : c ≤ 8) (hci : ci ≤ 6) (hwf : gaO c S wf) (hL7 : LpY z7 S G c Ls ns) (hsz : ∀ h, smH (fun s => mbt (ns s)) h 0 (2 ^ c) ≤ 1140) (htb7 : tbP z7) (hch7 : chP z7) (p7 : z7.1 43010 = nI p) (hp1 : 2 ≤ p) (hp2 : p ≤ 997) : ∀ (e d : Nat) (v : Nat → Nat) (z : ow_MS) (W' C' : Nat), d + e = 29 → fr rkG z7 z → vI v W' C' → Tt (fun K k => d_X1_compute K k 1 (nI p) (nI d - 10) 0 43000 4000 v z) (gQ v (fun r => fr rkG z7 r.2.2 ∧ ∃ W' C', vI r.2.1 W' C')) := by
  have n10 : ¬ rkG 43010 := fun h9 => (rk_lt h9).2.2 rfl
  have n5 : ¬ rkG 43005 := fun h9 => by have := rk_lt h9; omega
  have n234 : ¬ rkG 43002 ∧ ¬ rkG 43003 ∧ ¬ rkG 43004 := ⟨fun h9 => by have := rk_lt h9; omega, fun h9 => by have := rk_lt h9; omega, fun h9 => by have := rk_lt h9; omega⟩
  intro e
  induction e with
  | zero =>
    intro d v z W' C' hd hz hv'
    refine u_X1_compute_1 ?_; unfold dm_X1_compute_1
    exact w_ifT ((dg_c ⟨d, by omega⟩).1.mpr (by dsimp only; omega)) (tc_cmp2 c7 hci ci 0 v z W' C' (by omega) hz hv')
  | succ e ih =>
    intro d v z W' C' hd hz hv'
    have hrk := tc_rankDegree (d := d) hv' (at44 c7 hz) hvn hc8 (by omega) hwf (LpY_fr hz n234 hL7) (tbP_fr hz n5 htb7) (chP_fr hz (fun g hg => by have := rk_lt hg; omega) hch7) (((hz 43010 n10).1).trans p7) hp1 hp2 (fun h => bkF_sz (fun s hs => (hL7 s hs).2) (hsz h))
    refine u_X1_compute_1 ?_; unfold dm_X1_compute_1
    refine w_ifF (fun h9 => by have := (dg_c ⟨d, by omega⟩).1.mp h9; dsimp only at this; omega) (w_dc1 hrk ?_)
    rintro x v1 z8 ⟨r1, r2, W2, C2, r3⟩
    refine w_chV r1 ?_
    rw [(dg_c ⟨d, by omega⟩).2]
    exact ih (d + 1) v1 z8 W2 C2 (by omega) (fr_tr hz r2) r3
theorem tc_cmp0 {z5 : ow_MS} (hT : tyI (c, ci, S, G)) (c5 : cAt z5 44000 (c, ci, S, G)) (htb : tbP z5) (hch : chP z5) (p5 : z5.1 43010 = nI p) (hp1 : 2 ≤ p) (hp2 : p ≤ 997) (hv : vI vl W C) : Tt (fun K k => cs0 (ce_X1_markLoops vl K 43000 z5) fun z10 => cs0 (ce_J7_fill_53178 vl K (43000 + 18) 0 z10) fun z11 => d_X1_compute K k 1 (nI p) (-10) 0 43000 4000 vl z11) (gQ vl (fun r => fr cmH z5 r.2.2 ∧ ∃ W' C', vI r.2.1 W' C')) := by
  obtain ⟨hc8, ⟨wf, hwf⟩, hn9, hsz⟩ := tyI_sz hT
  have hci : ci ≤ 6 := by
    have h9 : np_rg c S + ci ≤ 6 := hT.1.2.2.2
    omega
  refine w_cs0 (tc_markLoops c5 hT.1.1 hc8 hn9) ?_
  rintro z6 ⟨l1, l2⟩
  refine w_cs0 (tc_fillA (l := 504) ch_43018 (by omega)) ?_
  rintro z7 ⟨-, l3⟩
  have hL6 : ∃ Ls : Nat → Nat → Nat, LpY z6 S G c Ls (fun s => rtsN (uPx S G (tb s) c) (2 * c)) := by
    have hex : ∀ s, ∃ L : Nat → Nat, s < 2 ^ c → LpS z6 S G c s L (rtsN (uPx S G (tb s) c) (2 * c)) := by
      intro s
      by_cases hs : s < 2 ^ c
      · obtain ⟨L, n, hL⟩ := l1 s hs
        have e := hL.2.2.2.2
        rw [e] at hL
        exact ⟨L, fun _ => hL⟩
      · exact ⟨fun _ => 0, fun h9 => absurd h9 hs⟩
    exact ⟨fun s => Classical.choose (hex s), fun s hs => ⟨Classical.choose_spec (hex s) hs, hn9 s hs⟩⟩
  obtain ⟨Ls, hL6⟩ := hL6
  have f7 : fr (fun g => 43002 ≤ g ∧ g ≤ 43004 ∨ g = 43018) z5 z7 := fr_tr (fr_mono (fun g hg => by omega) l2) (fr_mono (fun g hg => by omega) l3)
  have c7 : cAt z7 44000 (c, ci, S, G) := cAt_fr f7 (fun g hg h9 => by unfold cP at hg; omega) c5
  rw [show (-10 : Int32) = nI 0 - 10 by decide]
  refine w_mono (tc_cmp1 c7 hT.1.1 hc8 hci hwf (LpY_fr l3 (by omega) hL6) hsz (tbP_fr f7 (by omega) htb) (chP_fr f7 (fun g hg => by omega) hch) ((f7 43010 (by omega)).1.trans p5) hp1 hp2 29 0 vl z7 W C (by omega) fr_rf hv) ?_
  rintro r ⟨r1, r2, r3⟩
  exact ⟨r1, fr_tr (fr_mono (fun g hg => by unfold cmH; omega) f7) (fr_mono (fun g hg => by have := rk_lt hg; unfold cmH; omega) r2), r3⟩
end CM2
end
section
/-! 99zzzzzzzw.ccmp3 -/
/-! the class: compute -/
section CM3
variable {vl : Nat → Nat} {y : ow_MS} {W C : Nat}
theorem e_X1_compute {r0 : Nat} {r1 : Nat} {x2 : Int32} {vl : Nat → Nat} {z : ow_MS} {Q : (Int32 × (Nat → Nat) × ow_MS) → Prop} (H : Tt (fun K k => d_X1_compute K k 0 x2 0 0 r0 r1 vl z) Q) : Te (fun K => de_X1_compute K r0 r1 x2 vl z) Q := w_te H
theorem u_X1_compute_0 {x2 : Int32} {x3 : Int32} {x4 : Int32} {r0 : Nat} {r1 : Nat} {vl : Nat → Nat} {z : ow_MS} {Q : (Int32 × (Nat → Nat) × ow_MS) → Prop} (H : Tt (fun K k => dm_X1_compute_0 K (d_X1_compute K k) x2 x3 x4 r0 r1 vl z) (gQ vl Q)) : Tt (fun K k => d_X1_compute K k 0 x2 x3 x4 r0 r1 vl z) (gQ vl Q) := w_un (g := fun K k => chV vl (dm_X1_compute_0 K (d_X1_compute K k) x2 x3 x4 r0 r1 vl z)) (fun _ _ => rfl) (w_chV (E := fun K k => dm_X1_compute_0 K (d_X1_compute K k) x2 x3 x4 r0 r1 vl z) (Nat.le_refl _) H)
theorem tc_compute {p : Nat} {R : ow_NT} (hv : vI vl W C) (h4 : cAt y 4000 R) (h44 : ∃ T, cAt y 44000 T ∧ ow_b24 T.2.2.1) (hR : tyI R) (htb : tbP y) (hch : chP y) (hp1 : 2 ≤ p) (hp2 : p ≤ 997) : Te (fun K => de_X1_compute K 43000 4000 (nI p) vl y) (gQ vl (fun r => (∃ T, cAt r.2.2 44000 T ∧ ow_b24 T.2.2.1) ∧ fr cmG y r.2.2 ∧ ∃ W' C', vI r.2.1 W' C')) := by
  obtain ⟨T0, t1, t2⟩ := h44
  have hcp := tc_copy (vl := vl) nH44 nH4 (Or.inr (by omega)) t1 h4 hR.1.2.1
  refine e_X1_compute ?_
  refine u_X1_compute_0 ?_; unfold dm_X1_compute_0
  refine w_cs0 hcp ?_
  rintro z1 ⟨a1, a2⟩
  refine w_cs0 (tc_tidy a1 (tyI_cp hR t2)) ?_
  rintro z2 ⟨⟨⟨c, ci, S, G⟩, b1, b2⟩, b3⟩
  have hb24 : ow_b24 S := b2.1.2.2.1
  have hc12 : c ≤ 12 := b2.1.2.1
  have f2 : fr cmG y z2 := fr_tr (fr_mono (fun g hg => cmG_c hg) a2) (fr_mono (fun g hg => cmG_c hg) b3)
  refine w_wrF ?_
  have c3 : cAt (usF z2 (43000 + 10) (nI p)) 44000 (c, ci, S, G) := cAt_fr (fr_F (P := fun g => g = 43010) rfl) (fun g hg h9 => by unfold cP at hg; omega) b1
  refine w_cs1 (tc_writhe nH44 c3 hc12) ?_
  rintro wr z3 ⟨-, g3⟩
  dsimp only at g3
  subst g3
  refine w_wrF ?_
  have c4 : cAt (usF (usF z2 (43000 + 10) (nI p)) (43000 + 19) wr) 44000 (c, ci, S, G) := cAt_fr (fr_F (P := fun g => g = 43019) rfl) (fun g hg h9 => by unfold cP at hg; omega) c3
  refine w_rdF c4.1 (w_rdF rfl (w_nzI (by decide) (w_wrF ?_)))
  have f5 : ∀ x, fr (fun g => g = 43010 ∨ g = 43019 ∨ g = 43020) z2 (usF (usF (usF z2 (43000 + 10) (nI p)) (43000 + 19) wr) (43000 + 20) x) := fun x => fr_F2 (fr_F2 (fr_F (Or.inl rfl)) (Or.inr (Or.inl rfl))) (Or.inr (Or.inr rfl))
  have g5 : ∀ g, (g = 43010 ∨ g = 43019 ∨ g = 43020) → cmG g := fun g hg => by unfold cmG; omega
  have g6 : ∀ g, cmH g → cmG g := fun g hg => by unfold cmG; unfold cmH at hg; omega
  have n5 : ¬ cmG 43005 := by unfold cmG cP; omega
  have c5 : ∀ x, cAt (usF (usF (usF z2 (43000 + 10) (nI p)) (43000 + 19) wr) (43000 + 20) x) 44000 (c, ci, S, G) := fun x => cAt_fr (f5 x) (fun g hg h9 => by unfold cP at hg; omega) b1
  have p5 : ∀ x, (usF (usF (usF z2 (43000 + 10) (nI p)) (43000 + 19) wr) (43000 + 20) x).1 43010 = nI p := fun x => rf_ot (by omega) (rf_ot (by omega) po_usF_at)
  refine w_mono (tc_cmp0 b2 (c5 _) (tbP_fr (fr_tr f2 (fr_mono g5 (f5 _))) n5 htb) (chP_fr (fr_tr f2 (fr_mono g5 (f5 _))) (fun g hg => by unfold cmG cP at hg; omega) hch) (p5 _) hp1 hp2 hv) ?_
  rintro r ⟨r1, r2, r3⟩
  exact ⟨r1, ⟨_, cAt_fr r2 (fun g hg h9 => by unfold cP at hg; unfold cmH at h9; omega) (c5 _), hb24⟩, fr_tr (fr_tr f2 (fr_mono g5 (f5 _))) (fr_mono g6 r2), r3⟩
end CM3
end
section
/-! 99zzzzzzzx.cchain -/
/-! the class: chain -/
section CH2
variable {vl : Nat → Nat} {y : ow_MS} {W C : Nat}
/-- every diagram that is kept has gaps of two kinds that alternate -/
def gaS (y : ow_MS) : Prop := ∀ d A sg c, d < 40 → slC y 1000 d (clC sg A) → okL A c → ∃ w, gaA A w
theorem tc_chain {x x' : Int32} (hv : vI vl W C) (hM : gM y) (hg : gaS y) (htb : tbP y) (hch : chP y) : Te (fun K => ce_X11_chain K 0 x x' vl y) (fun r => gM r.2.2.2 ∧ fr chG y r.2.2.2 ∧ dPhi vl ≤ dPhi r.2.2.1 ∧ ∃ W' C', vI r.2.2.1 W' C') := by
  have st : ∀ (a : Nat) (v : Int32), gM y ∧ fr chG y y ∧ dPhi vl ≤ dPhi vl ∧ ∃ W' C', vI vl W' C' := fun _ _ => ⟨hM, fr_rf, Nat.le_refl _, W, C, hv⟩
  unfold ce_X11_chain
  refine w_te0 ?_
  refine w_tc0 (tc_need hM.1.1) ?_ ?_
  · rintro y1 ⟨h1, e0⟩
    have e0 : y1 = y := e0
    rw [e0]
    rcases h1 with ⟨-, d, A, sg, c, hd, rfl, hs, hA, hne⟩ | h1
    · refine w_if (fun _ => w_some (st 2 0)) (fun hx2 => w_if (fun _ => w_some (st 2 0)) (fun hx9 => ?_))
      obtain ⟨p, hp31, rfl⟩ := nI_of (x := x') (fun h8 => hx2 (by
        rw [Int32.lt_iff_toInt_lt] at h8 ⊢
        exact Int.lt_trans h8 (by decide)))
      have hp2 : 2 ≤ p := by
        rcases Nat.lt_or_ge p 2 with h8 | h8
        · exact absurd (nI_lt (b := 2) h8 (by omega)) hx2
        · exact h8
      have hp9 : p ≤ 997 := by
        rcases Nat.lt_or_ge 997 p with h8 | h8
        · exact absurd (nI_lt (a := 997) h8 hp31) hx9
        · exact h8
      refine w_cs1 (tc_isPrime hp2 hp9) ?_
      rintro v z ⟨e, -⟩
      have e : z = y := e
      rw [e]
      refine w_if (fun _ => w_some (st 2 0)) (fun _ => ?_)
      refine w_cs0 (tc_ld3 nH4 hM.1 hd hs hA) ?_
      rintro y2 ⟨g1, g2, S, G, g3, g4⟩
      obtain ⟨j1, j2, j3, j4⟩ := g4
      have hc12 : c ≤ 12 := hA.2.2.2.1
      have hnv : nv (c, cirs A, S, G) := g3.2.2.1
      refine w_cs0 (tc_markParts nH4 g3.1 (fun k hk => (j3 k hk).1) hc12) ?_
      rintro y3 ⟨-, q2, q3⟩
      have pe := (np_parts_of (N := S.1) (c := c) (fun k hk => (j3 k hk).1) hc12 (y2.2.1 (4000 + 6))).2
      have pl := mp_out_le S.1 (2 * c) (np_fill (y2.2.1 (4000 + 6)) 0 (2 * c) (-1)) (2 * c)
      dsimp only at q2
      generalize (mp_out S.1 (2 * c) (np_fill (y2.2.1 (4000 + 6)) 0 (2 * c) (-1)) (2 * c)).2 = P at q2 pe pl
      have a3 : cAt y3 4000 (c, cirs A, S, G) := cAt_fr q3 (fun g hg h9 => by unfold cP at hg; unfold cQ at h9; omega) g3.1
      have hci : cirs A ≤ 6 := by
        have h9 : np_rg c S + cirs A ≤ 6 := hnv.2.2.2
        omega
      have f3 : fr chG y y3 := fr_tr (fr_mono (fun g hg => Or.inl (by unfold cL at hg; omega)) g2) (fr_mono (fun g hg => Or.inl (by unfold cQ at hg; omega)) q3)
      have n44 : ∃ T, cAt y3 44000 T ∧ ow_b24 T.2.2.1 := by
        obtain ⟨T, t1, t2⟩ := g1.2.1 44000 nH44
        exact ⟨T, cAt_fr q3 (fun g hg h9 => by unfold cP at hg; unfold cQ at h9; omega) t1, t2⟩
      refine w_rdF a3.1 (w_rdF q2 (w_rdF a3.2.1 ?_))
      dsimp only
      rw [nI_add, nI_add]
      refine w_le (a := c + P + cirs A) (b := 9) (by omega) (by omega) (fun h9 => ?_) (fun _ => w_some ⟨gM_ch g1 g2 (fr_mono (fun g hg => Or.inl hg) q3) n44 hM, f3, Nat.le_refl _, W, C, hv⟩)
      have hV : isoV A sg (fun x => x) (c, cirs A, S, G) := isoV_of j2 j3
      obtain ⟨w, hw⟩ := hg d A sg c hd hs hA
      have hT : tyI (c, cirs A, S, G) := by
        refine ⟨hnv, fun k hk => ?_, A, sg, fun x => x, w, max 1 (P + cirs A), hV, hw, hA.2.2.2.2, pLe_of hV ?_, by omega, ?_⟩
        · show G k ≠ 0
          rw [j4 k hk]
          split <;> decide
        · show (np_parts c S.1).2 + cirs A ≤ _
          omega
        · show c + max 1 (P + cirs A) ≤ 9
          rcases Nat.eq_zero_or_pos (P + cirs A) with h0 | h0
          · have : c = 0 := by
              rcases Nat.eq_zero_or_pos c with h7 | h7
              · exact h7
              · obtain ⟨-, u2, -⟩ := parts_I j3 hc12
                obtain ⟨r, r1, -⟩ := u2 0 (by omega)
                omega
            omega
          · omega
      refine w_dc1 (tc_compute hv a3 n44 hT (tbP_fr f3 (by unfold chG cmG cP; omega) htb) (chP_fr f3 (fun g hg => by unfold chG cmG cP at hg; omega) hch) hp2 hp9) ?_
      rintro v v1 z1 ⟨r1, r2, r3, W2, C2, r4⟩
      exact w_some ⟨gM_ch g1 g2 (fr_tr (fr_mono (fun g hg => Or.inl hg) q3) (fr_mono (fun g hg => Or.inr hg) r3)) r2 hM, fr_tr f3 (fr_mono (fun g hg => Or.inr hg) r3), r1, W2, C2, r4⟩
    · exact absurd (show (0 : Nat) = 1 from h1.1) (by decide)
  · rintro a y1 ha ⟨h1, rfl⟩
    exact w_some (st a 0)
end CH2
end
section
/-! 99zzzzzzzy.csig -/
/-! the class: signature: colours of sides, and the small matrix -/
/-- the colour of a side -/
def kS (w : Nat → Bool) (s : Nat) : Bool := if s % 2 = 0 then w (s / 2) else !w (s / 2)
theorem ga_on {c : Nat} {S : ow_NP} {G : Nat → Int32} {w : Nat → Bool} (hw : gaO c S w) (hv : vn c S) {s : Nat} (hs : s < 4 * c) : kS w (fc_on S G s) = kS w s := by
  have key : ∀ v, v < 2 * c → ∀ b : Bool, (if b = true then kS w (2 * mt v) else kS w (2 * S.2 (mt v) + 1)) = !w v := by
    intro v hv1 b
    have hm := mt_lt hv1
    have e1 : w (mt v) = !w v := (hw v hv1).2
    have e2 : w (S.2 (mt v)) = w v := by
      have h2 := (hw (S.2 (mt v)) (hv (mt v) hm).2.1).1
      rw [(hv (mt v) hm).2.2.2, e1] at h2
      cases h3 : w (S.2 (mt v)) <;> cases h4 : w v <;> simp_all
    split
    · unfold kS
      rw [if_pos (by omega), show 2 * mt v / 2 = mt v by omega, e1]
    · unfold kS
      rw [if_neg (by omega), show (2 * S.2 (mt v) + 1) / 2 = S.2 (mt v) by omega, e2]
  have he : fc_end S.1 s < 2 * c ∧ w (fc_end S.1 s) = !kS w s := by
    unfold fc_end kS
    by_cases h : s % 2 = 0
    · rw [if_pos h, if_pos h]
      exact ⟨(hv _ (by omega)).1, (hw _ (by omega)).1⟩
    · rw [if_neg h, if_neg h, Bool.not_not]
      exact ⟨by omega, rfl⟩
  have := key _ he.1 ((decide (fc_end S.1 s % 2 = 0) == decide (0 < G (fc_end S.1 s / 2))) == decide (s % 2 = 0))
  rw [he.2, Bool.not_not] at this
  rw [← this]
  unfold fc_on
  split <;> rfl
theorem kS_lr {w : Nat → Bool} (v : Nat) : kS w (2 * v) ≠ kS w (2 * v + 1) := by
  unfold kS
  rw [if_pos (by omega), if_neg (by omega), show 2 * v / 2 = v by omega, show (2 * v + 1) / 2 = v by omega]
  cases w v <;> decide
theorem w_cpJ {O : Type} {Q : O → Prop} {X : ow_Tb} {z : ow_MS} {h g a b n la lb : Nat} {sp dp m : Int32} {E : ow_MS → Nat → Nat → Option O} (hL : (X.2 h).2.1 = la) (hG : (X.2 g).2.1 = lb) (h1 : sp = nI a) (h2 : dp = nI b) (h3 : m = nI n) (ha : a + n ≤ la) (hb : b + n ≤ lb) (H : Tt (E (z.1, z.2.1, fun j => if j = g then va_cpy (z.2.2 h) (z.2.2 g) a b n else z.2.2 j)) Q) (hla : la < 2 ^ 31 := by omega) (hlb : lb < 2 ^ 31 := by omega) : Tt (fun K k => cpJ X z h sp g dp m (fun v => E v K k)) Q := by
  have e : (fun K k => cpJ X z h sp g dp m (fun v => E v K k)) = E (z.1, z.2.1, fun j => if j = g then va_cpy (z.2.2 h) (z.2.2 g) a b n else z.2.2 j) := by
    funext K k
    unfold cpJ uw_len
    rw [h1, h2, h3, nI_clamp (by omega), nI_clamp (by omega), nI_clamp (by omega), if_neg]
    rintro (h9 | h9 | h9 | h9 | h9)
    · exact nI_pos (by omega) h9
    · exact nI_pos (by omega) h9
    · exact nI_pos (by omega) h9
    · omega
    · omega
  rw [e]
  exact H
section SGN
variable {vl : Nat → Nat} {y : ow_MS}
theorem ch_6005 : ((cX vl).2 6005).2.1 = 64 := rfl
theorem ch_6006 : ((cX vl).2 6006).2.1 = 64 := rfl
theorem ch_6007 : ((cX vl).2 6007).2.1 = 64 := rfl
theorem ch_6008 : ((cX vl).2 6008).2.1 = 9 := rfl
theorem ix8 (a b : Nat) : nI a * (8 : Int32) + nI b = nI (8 * a + b) := by
  rw [show nI a * (8 : Int32) = nI (8 * a) from (Int32.mul_comm _ _).trans (pk_mul 8 a), nI_add]
theorem u_X4_addAt_2 {vl : Nat → Nat} {x1 : Int32} {x2 : Int32} {x3 : Int32} {x4 : Int32} {r0 : Nat} {z : ow_MS} {Q : ow_MS → Prop} (H : Tt (fun K k => cm_X4_addAt_2 vl K (c_X4_addAt vl K k) x1 x2 x3 x4 r0 z) Q) : Tt (fun K k => c_X4_addAt vl K k 2 x1 x2 x3 x4 r0 z) Q := w_un (fun _ _ => rfl) H
theorem u_X4_addAt_1 {vl : Nat → Nat} {x1 : Int32} {x2 : Int32} {x3 : Int32} {x4 : Int32} {r0 : Nat} {z : ow_MS} {Q : ow_MS → Prop} (H : Tt (fun K k => cm_X4_addAt_1 vl K (c_X4_addAt vl K k) x1 x2 x3 x4 r0 z) Q) : Tt (fun K k => c_X4_addAt vl K k 1 x1 x2 x3 x4 r0 z) Q := w_un (fun _ _ => rfl) H
theorem e_X4_addAt {vl : Nat → Nat} {r0 : Nat} {x1 : Int32} {x2 : Int32} {x3 : Int32} {x4 : Int32} {z : ow_MS} {Q : ow_MS → Prop} (H : Tt (fun K k => c_X4_addAt vl K k 0 x1 x2 x3 x4 r0 z) Q) : Te (fun K => ce_X4_addAt vl K r0 x1 x2 x3 x4 z) Q := w_te H
theorem u_X4_addAt_0 {vl : Nat → Nat} {x1 : Int32} {x2 : Int32} {x3 : Int32} {x4 : Int32} {r0 : Nat} {z : ow_MS} {Q : ow_MS → Prop} (H : Tt (fun K k => cm_X4_addAt_0 vl K (c_X4_addAt vl K k) x1 x2 x3 x4 r0 z) Q) : Tt (fun K k => c_X4_addAt vl K k 0 x1 x2 x3 x4 r0 z) Q := w_un (fun _ _ => rfl) H
theorem tc_addAt {n : Nat} {x1 x2 x3 : Int32} (hn : n ≤ 8) : Te (fun K => ce_X4_addAt vl K 6000 x1 x2 x3 (nI n) y) (fun y1 => fr (fun g => g = 6005) y y1) := by
  let Q : ow_MS → Prop := fun y1 => fr (fun g => g = 6005) y y1
  have ofx : ∀ x : Int32, ¬ x < 0 → ¬ nI n ≤ x → ∃ k, k < n ∧ x = nI k := by
    intro x h1 h2
    obtain ⟨k, hk, rfl⟩ := nI_of (x := x) h1
    refine ⟨k, ?_, rfl⟩
    rcases Nat.lt_or_ge k n with h | h
    · exact h
    · exact absurd (nI_le h hk) h2
  have c2 : ∀ z, Q z → Tt (fun K k => c_X4_addAt vl K k 2 x1 x2 x3 (nI n) 6000 z) Q := by
    intro z hz
    refine u_X4_addAt_2 ?_; unfold cm_X4_addAt_2
    refine w_if (fun _ => w_some hz) (fun a1 => w_if (fun _ => w_some hz) (fun a2 => w_if (fun _ => w_some hz) (fun b1 => w_if (fun _ => w_some hz) (fun b2 => ?_))))
    obtain ⟨k, hk, rfl⟩ := ofx x1 a1 a2
    obtain ⟨l, hl, rfl⟩ := ofx x2 b1 b2
    rw [ix8, ix8]
    exact w_crJ ch_6005 rfl (by omega) rfl (w_ctJ ch_6005 rfl (by omega) (w_crJ ch_6005 rfl (by omega) rfl (w_ctJ ch_6005 rfl (by omega) (w_some (fr_J2 (fr_J2 hz rfl) rfl)))))
  have c1 : ∀ z, Q z → Tt (fun K k => c_X4_addAt vl K k 1 x1 x2 x3 (nI n) 6000 z) Q := by
    intro z hz
    refine u_X4_addAt_1 ?_; unfold cm_X4_addAt_1
    refine w_if (fun _ => c2 z hz) (fun b1 => w_if (fun _ => c2 z hz) (fun b2 => ?_))
    obtain ⟨l, hl, e⟩ := ofx x2 b1 b2
    have e9 : x2 * 8 + x2 = nI (8 * l + l) := by rw [e, ix8]
    exact w_crJ ch_6005 e9 (by omega) rfl (w_ctJ ch_6005 e9 (by omega) (c2 _ (fr_J2 hz rfl)))
  refine e_X4_addAt ?_
  refine u_X4_addAt_0 ?_; unfold cm_X4_addAt_0
  refine w_if (fun _ => c1 y fr_rf) (fun b1 => w_if (fun _ => c1 y fr_rf) (fun b2 => ?_))
  obtain ⟨l, hl, e⟩ := ofx x1 b1 b2
  have e9 : x1 * 8 + x1 = nI (8 * l + l) := by rw [e, ix8]
  exact w_crJ ch_6005 e9 (by omega) rfl (w_ctJ ch_6005 e9 (by omega) (c1 _ (fr_J rfl)))
theorem u_X4_signChanges_1 {vl : Nat → Nat} {x1 : Int32} {x2 : Int32} {x3 : Int32} {x6 : Int32} {w4 : Int64} {w7 : Int64} {r0 : Nat} {t0 : Int32} {y0 : Int64} {y1 : Int64} {z : ow_MS} {Q : (Int32 × ow_MS) → Prop} (H : Tt (fun K k => cm_X4_signChanges_1 vl K (c_X4_signChanges vl K k) x1 x2 x3 x6 w4 w7 r0 t0 y0 y1 z) Q) : Tt (fun K k => c_X4_signChanges vl K k 1 x1 x2 x3 x6 w4 w7 r0 t0 y0 y1 z) Q := w_un (fun _ _ => rfl) H
theorem u_X4_signChanges_7 {vl : Nat → Nat} {x1 : Int32} {x2 : Int32} {x3 : Int32} {x6 : Int32} {w4 : Int64} {w7 : Int64} {r0 : Nat} {t0 : Int32} {y0 : Int64} {y1 : Int64} {z : ow_MS} {Q : (Int32 × ow_MS) → Prop} (H : Tt (fun K k => cm_X4_signChanges_7 vl K (c_X4_signChanges vl K k) x1 x2 x3 x6 w4 w7 r0 t0 y0 y1 z) Q) : Tt (fun K k => c_X4_signChanges vl K k 7 x1 x2 x3 x6 w4 w7 r0 t0 y0 y1 z) Q := w_un (fun _ _ => rfl) H
theorem u_X4_signChanges_6 {vl : Nat → Nat} {x1 : Int32} {x2 : Int32} {x3 : Int32} {x6 : Int32} {w4 : Int64} {w7 : Int64} {r0 : Nat} {t0 : Int32} {y0 : Int64} {y1 : Int64} {z : ow_MS} {Q : (Int32 × ow_MS) → Prop} (H : Tt (fun K k => cm_X4_signChanges_6 vl K (c_X4_signChanges vl K k) x1 x2 x3 x6 w4 w7 r0 t0 y0 y1 z) Q) : Tt (fun K k => c_X4_signChanges vl K k 6 x1 x2 x3 x6 w4 w7 r0 t0 y0 y1 z) Q := w_un (fun _ _ => rfl) H
theorem u_X4_signChanges_5 {vl : Nat → Nat} {x1 : Int32} {x2 : Int32} {x3 : Int32} {x6 : Int32} {w4 : Int64} {w7 : Int64} {r0 : Nat} {t0 : Int32} {y0 : Int64} {y1 : Int64} {z : ow_MS} {Q : (Int32 × ow_MS) → Prop} (H : Tt (fun K k => cm_X4_signChanges_5 vl K (c_X4_signChanges vl K k) x1 x2 x3 x6 w4 w7 r0 t0 y0 y1 z) Q) : Tt (fun K k => c_X4_signChanges vl K k 5 x1 x2 x3 x6 w4 w7 r0 t0 y0 y1 z) Q := w_un (fun _ _ => rfl) H
theorem u_X4_signChanges_4 {vl : Nat → Nat} {x1 : Int32} {x2 : Int32} {x3 : Int32} {x6 : Int32} {w4 : Int64} {w7 : Int64} {r0 : Nat} {t0 : Int32} {y0 : Int64} {y1 : Int64} {z : ow_MS} {Q : (Int32 × ow_MS) → Prop} (H : Tt (fun K k => cm_X4_signChanges_4 vl K (c_X4_signChanges vl K k) x1 x2 x3 x6 w4 w7 r0 t0 y0 y1 z) Q) : Tt (fun K k => c_X4_signChanges vl K k 4 x1 x2 x3 x6 w4 w7 r0 t0 y0 y1 z) Q := w_un (fun _ _ => rfl) H
theorem u_X4_signChanges_3 {vl : Nat → Nat} {x1 : Int32} {x2 : Int32} {x3 : Int32} {x6 : Int32} {w4 : Int64} {w7 : Int64} {r0 : Nat} {t0 : Int32} {y0 : Int64} {y1 : Int64} {z : ow_MS} {Q : (Int32 × ow_MS) → Prop} (H : Tt (fun K k => cm_X4_signChanges_3 vl K (c_X4_signChanges vl K k) x1 x2 x3 x6 w4 w7 r0 t0 y0 y1 z) Q) : Tt (fun K k => c_X4_signChanges vl K k 3 x1 x2 x3 x6 w4 w7 r0 t0 y0 y1 z) Q := w_un (fun _ _ => rfl) H
theorem u_X4_signChanges_2 {vl : Nat → Nat} {x1 : Int32} {x2 : Int32} {x3 : Int32} {x6 : Int32} {w4 : Int64} {w7 : Int64} {r0 : Nat} {t0 : Int32} {y0 : Int64} {y1 : Int64} {z : ow_MS} {Q : (Int32 × ow_MS) → Prop} (H : Tt (fun K k => cm_X4_signChanges_2 vl K (c_X4_signChanges vl K k) x1 x2 x3 x6 w4 w7 r0 t0 y0 y1 z) Q) : Tt (fun K k => c_X4_signChanges vl K k 2 x1 x2 x3 x6 w4 w7 r0 t0 y0 y1 z) Q := w_un (fun _ _ => rfl) H
theorem e_X4_signChanges {vl : Nat → Nat} {r0 : Nat} {x1 : Int32} {x2 : Int32} {z : ow_MS} {Q : (Int32 × ow_MS) → Prop} (H : Tt (fun K k => c_X4_signChanges vl K k 0 x1 x2 0 0 0 0 r0 0 0 0 z) Q) : Te (fun K => ce_X4_signChanges vl K r0 x1 x2 z) Q := w_te H
theorem u_X4_signChanges_0 {vl : Nat → Nat} {x1 : Int32} {x2 : Int32} {x3 : Int32} {x6 : Int32} {w4 : Int64} {w7 : Int64} {r0 : Nat} {t0 : Int32} {y0 : Int64} {y1 : Int64} {z : ow_MS} {Q : (Int32 × ow_MS) → Prop} (H : Tt (fun K k => cm_X4_signChanges_0 vl K (c_X4_signChanges vl K k) x1 x2 x3 x6 w4 w7 r0 t0 y0 y1 z) Q) : Tt (fun K k => c_X4_signChanges vl K k 0 x1 x2 x3 x6 w4 w7 r0 t0 y0 y1 z) Q := w_un (fun _ _ => rfl) H
theorem tc_signChanges {n : Nat} {x2 : Int32} (hn : n ≤ 8) : Te (fun K => ce_X4_signChanges vl K 6000 (nI n) x2 y) (fun r => r.2 = y) := by
  have c1 : ∀ (d i : Nat) (x3 : Int32) (w4 : Int64), i + d = n + 1 → Tt (fun K k => c_X4_signChanges vl K k 1 (nI n) x2 x3 (nI i) w4 0 6000 0 0 0 y) (fun r => r.2 = y) := by
    intro d
    induction d with
    | zero =>
      intro i x3 w4 hi
      refine u_X4_signChanges_1 ?_; unfold cm_X4_signChanges_1
      exact w_ltT (by omega) (by omega) (w_some rfl)
    | succ d ih =>
      intro i x3 w4 hi
      have c7 : ∀ (x3 : Int32) (w4 w7 : Int64), Tt (fun K k => c_X4_signChanges vl K k 7 (nI n) x2 x3 (nI i) w4 w7 6000 0 0 0 y) (fun r => r.2 = y) := by
        intro x3 w4 w7
        refine u_X4_signChanges_7 ?_; unfold cm_X4_signChanges_7
        rw [nI_1]
        exact ih (i + 1) _ _ (by omega)
      have c6 : ∀ (x3 : Int32) (w4 w7 : Int64), Tt (fun K k => c_X4_signChanges vl K k 6 (nI n) x2 x3 (nI i) w4 w7 6000 0 0 0 y) (fun r => r.2 = y) := by
        intro x3 w4 w7
        refine u_X4_signChanges_6 ?_; unfold cm_X4_signChanges_6
        exact c7 _ _ _
      have c5 : ∀ (x3 : Int32) (w4 w7 : Int64), Tt (fun K k => c_X4_signChanges vl K k 5 (nI n) x2 x3 (nI i) w4 w7 6000 0 0 0 y) (fun r => r.2 = y) := by
        intro x3 w4 w7
        refine u_X4_signChanges_5 ?_; unfold cm_X4_signChanges_5
        exact c6 _ _ _
      have c4 : ∀ (x3 : Int32) (w4 w7 : Int64), Tt (fun K k => c_X4_signChanges vl K k 4 (nI n) x2 x3 (nI i) w4 w7 6000 0 0 0 y) (fun r => r.2 = y) := by
        intro x3 w4 w7
        refine u_X4_signChanges_4 ?_; unfold cm_X4_signChanges_4
        exact w_if (fun _ => c6 _ _ _) (fun _ => w_if (fun _ => c6 _ _ _) (fun _ => c5 _ _ _))
      have c3 : ∀ (x3 : Int32) (w4 : Int64) (t0 : Int32) (y1 : Int64), Tt (fun K k => c_X4_signChanges vl K k 3 (nI n) x2 x3 (nI i) w4 0 6000 t0 0 y1 y) (fun r => r.2 = y) := by
        intro x3 w4 t0 y1
        refine u_X4_signChanges_3 ?_; unfold cm_X4_signChanges_3
        exact w_if (fun _ => c7 _ _ _) (fun _ => w_if (fun _ => c4 _ _ _) (fun _ => w_if (fun _ => c5 _ _ _) (fun _ => c4 _ _ _)))
      have c2 : ∀ (x3 : Int32) (w4 : Int64) (y0 : Int64), Tt (fun K k => c_X4_signChanges vl K k 2 (nI n) x2 x3 (nI i) w4 0 6000 0 y0 0 y) (fun r => r.2 = y) := by
        intro x3 w4 y0
        refine u_X4_signChanges_2 ?_; unfold cm_X4_signChanges_2
        exact c3 _ _ _ _
      refine u_X4_signChanges_1 ?_; unfold cm_X4_signChanges_1
      exact w_ltF (by omega) (by omega) (w_crJ ch_6008 rfl (by omega) rfl (w_if (fun _ => c2 _ _ _) (fun _ => w_if (fun _ => c3 _ _ _ _) (fun _ => c2 _ _ _))))
  refine e_X4_signChanges ?_
  refine u_X4_signChanges_0 ?_; unfold cm_X4_signChanges_0
  exact c1 (n + 1) 0 _ _ (by omega)
def fcP (g : Nat) : Prop := g = 6006 ∨ g = 6007 ∨ g = 6008
theorem u_X4_findCharacteristic_1 {vl : Nat → Nat} {x1 : Int32} {x2 : Int32} {x3 : Int32} {x5 : Int32} {x6 : Int32} {x9 : Int32} {w3 : Int64} {w7 : Int64} {r0 : Nat} {z : ow_MS} {Q : ow_MS → Prop} (H : Tt (fun K k => cm_X4_findCharacteristic_1 vl K (c_X4_findCharacteristic vl K k) x1 x2 x3 x5 x6 x9 w3 w7 r0 z) Q) : Tt (fun K k => c_X4_findCharacteristic vl K k 1 x1 x2 x3 x5 x6 x9 w3 w7 r0 z) Q := w_un (fun _ _ => rfl) H
theorem u_X4_findCharacteristic_3 {vl : Nat → Nat} {x1 : Int32} {x2 : Int32} {x3 : Int32} {x5 : Int32} {x6 : Int32} {x9 : Int32} {w3 : Int64} {w7 : Int64} {r0 : Nat} {z : ow_MS} {Q : ow_MS → Prop} (H : Tt (fun K k => cm_X4_findCharacteristic_3 vl K (c_X4_findCharacteristic vl K k) x1 x2 x3 x5 x6 x9 w3 w7 r0 z) Q) : Tt (fun K k => c_X4_findCharacteristic vl K k 3 x1 x2 x3 x5 x6 x9 w3 w7 r0 z) Q := w_un (fun _ _ => rfl) H
theorem u_X4_findCharacteristic_4 {vl : Nat → Nat} {x1 : Int32} {x2 : Int32} {x3 : Int32} {x5 : Int32} {x6 : Int32} {x9 : Int32} {w3 : Int64} {w7 : Int64} {r0 : Nat} {z : ow_MS} {Q : ow_MS → Prop} (H : Tt (fun K k => cm_X4_findCharacteristic_4 vl K (c_X4_findCharacteristic vl K k) x1 x2 x3 x5 x6 x9 w3 w7 r0 z) Q) : Tt (fun K k => c_X4_findCharacteristic vl K k 4 x1 x2 x3 x5 x6 x9 w3 w7 r0 z) Q := w_un (fun _ _ => rfl) H
theorem u_X4_findCharacteristic_5 {vl : Nat → Nat} {x1 : Int32} {x2 : Int32} {x3 : Int32} {x5 : Int32} {x6 : Int32} {x9 : Int32} {w3 : Int64} {w7 : Int64} {r0 : Nat} {z : ow_MS} {Q : ow_MS → Prop} (H : Tt (fun K k => cm_X4_findCharacteristic_5 vl K (c_X4_findCharacteristic vl K k) x1 x2 x3 x5 x6 x9 w3 w7 r0 z) Q) : Tt (fun K k => c_X4_findCharacteristic vl K k 5 x1 x2 x3 x5 x6 x9 w3 w7 r0 z) Q := w_un (fun _ _ => rfl) H
theorem u_X4_findCharacteristic_2 {vl : Nat → Nat} {x1 : Int32} {x2 : Int32} {x3 : Int32} {x5 : Int32} {x6 : Int32} {x9 : Int32} {w3 : Int64} {w7 : Int64} {r0 : Nat} {z : ow_MS} {Q : ow_MS → Prop} (H : Tt (fun K k => cm_X4_findCharacteristic_2 vl K (c_X4_findCharacteristic vl K k) x1 x2 x3 x5 x6 x9 w3 w7 r0 z) Q) : Tt (fun K k => c_X4_findCharacteristic vl K k 2 x1 x2 x3 x5 x6 x9 w3 w7 r0 z) Q := w_un (fun _ _ => rfl) H
theorem e_X4_findCharacteristic {vl : Nat → Nat} {r0 : Nat} {x1 : Int32} {z : ow_MS} {Q : ow_MS → Prop} (H : Tt (fun K k => c_X4_findCharacteristic vl K k 0 x1 0 0 0 0 0 0 0 r0 z) Q) : Te (fun K => ce_X4_findCharacteristic vl K r0 x1 z) Q := w_te H
theorem u_X4_findCharacteristic_0 {vl : Nat → Nat} {x1 : Int32} {x2 : Int32} {x3 : Int32} {x5 : Int32} {x6 : Int32} {x9 : Int32} {w3 : Int64} {w7 : Int64} {r0 : Nat} {z : ow_MS} {Q : ow_MS → Prop} (H : Tt (fun K k => cm_X4_findCharacteristic_0 vl K (c_X4_findCharacteristic vl K k) x1 x2 x3 x5 x6 x9 w3 w7 r0 z) Q) : Tt (fun K k => c_X4_findCharacteristic vl K k 0 x1 x2 x3 x5 x6 x9 w3 w7 r0 z) Q := w_un (fun _ _ => rfl) H
theorem tc_findChar {n : Nat} (hn : n ≤ 8) : Te (fun K => ce_X4_findCharacteristic vl K 6000 (nI n) y) (fun y1 => fr fcP y y1) := by
  let Q : ow_MS → Prop := fun y1 => fr fcP y y1
  have c1 : ∀ (d k : Nat) (z : ow_MS), k + d = n + 1 → 1 ≤ k → Q z → Tt (fun K t => c_X4_findCharacteristic vl K t 1 (nI n) (nI k) 0 0 0 0 0 0 6000 z) Q := by
    intro d
    induction d with
    | zero =>
      intro k z hk _ hz
      refine u_X4_findCharacteristic_1 ?_; unfold cm_X4_findCharacteristic_1
      exact w_ltT (by omega) (by omega) (w_some hz)
    | succ d ih =>
      intro k z hk hk1 hz
      have hnz : (nI k).toInt64 ≠ 0 := by
        have key : ∀ k : Fin 9, 1 ≤ k.val → (nI k.val).toInt64 ≠ 0 := by decide +kernel
        exact key ⟨k, by omega⟩ hk1
      have e1 : nI n - nI k = nI (n - k) := pk_sub (by omega)
      have c3 : ∀ (e i : Nat) (w3 : Int64) (z : ow_MS), i + e = n → Q z → Tt (fun K t => c_X4_findCharacteristic vl K t 3 (nI n) (nI k) 0 (nI i) 0 0 w3 0 6000 z) Q := by
        intro e
        induction e with
        | zero =>
          intro i w3 z hi hz
          refine u_X4_findCharacteristic_3 ?_; unfold cm_X4_findCharacteristic_3
          rw [e1, nI_1]
          refine w_leT (by omega) (by omega) (w_nzJ hnz (w_ctJ ch_6008 rfl (by omega) (w_cpJ (a := 0) (b := 0) (n := 64) ch_6007 ch_6006 rfl rfl rfl (by omega) (by omega) (ih (k + 1) _ (by omega) (by omega) ?_))))
          intro g hg
          have h1 := (fr_J2 (i := n - k) (y := (-w3) / (nI k).toInt64) hz (show fcP (6000 + 8) from Or.inr (Or.inr rfl))) g hg
          refine ⟨h1.1, h1.2.1, ?_⟩
          have hne : g ≠ 6000 + 6 := fun h9 => hg (by rw [h9]; exact Or.inl rfl)
          exact (if_neg hne).trans h1.2.2
        | succ e ihe =>
          intro i w3 z hi hz
          have c4 : ∀ (e2 j : Nat) (z : ow_MS), j + e2 = n → Q z → Tt (fun K t => c_X4_findCharacteristic vl K t 4 (nI n) (nI k) 0 (nI i) (nI j) 0 w3 0 6000 z) Q := by
            intro e2
            induction e2 with
            | zero =>
              intro j z hj hz
              refine u_X4_findCharacteristic_4 ?_; unfold cm_X4_findCharacteristic_4
              rw [ix8, nI_1]
              exact w_leT (by omega) (by omega) (w_crJ ch_6007 rfl (by omega) rfl (ihe (i + 1) _ z (by omega) hz))
            | succ e2 ih2 =>
              intro j z hj hz
              have c5 : ∀ (e3 m : Nat) (w7 : Int64), m + e3 = n → Tt (fun K t => c_X4_findCharacteristic vl K t 5 (nI n) (nI k) 0 (nI i) (nI j) (nI m) w3 w7 6000 z) Q := by
                intro e3
                induction e3 with
                | zero =>
                  intro m w7 hm
                  refine u_X4_findCharacteristic_5 ?_; unfold cm_X4_findCharacteristic_5
                  rw [ix8, nI_1 j]
                  exact w_leT (by omega) (by omega) (w_ctJ ch_6007 rfl (by omega) (ih2 (j + 1) _ (by omega) (fr_J2 hz (Or.inr (Or.inl rfl)))))
                | succ e3 ih3 =>
                  intro m w7 hm
                  refine u_X4_findCharacteristic_5 ?_; unfold cm_X4_findCharacteristic_5
                  refine w_leF (by omega) (by omega) (w_crJ ch_6005 (ix8 i m) (by omega) rfl (w_crJ ch_6006 (ix8 m j) (by omega) rfl ?_))
                  rw [nI_1]
                  exact ih3 (m + 1) _ (by omega)
              refine u_X4_findCharacteristic_4 ?_; unfold cm_X4_findCharacteristic_4
              exact w_leF (by omega) (by omega) (c5 n 0 _ (by omega))
          refine u_X4_findCharacteristic_3 ?_; unfold cm_X4_findCharacteristic_3
          exact w_leF (by omega) (by omega) (c4 n 0 z (by omega) hz)
      have c2 : ∀ (e i : Nat) (z : ow_MS), i + e = n → Q z → Tt (fun K t => c_X4_findCharacteristic vl K t 2 (nI n) (nI k) (nI i) 0 0 0 0 0 6000 z) Q := by
        intro e
        induction e with
        | zero =>
          intro i z hi hz
          refine u_X4_findCharacteristic_2 ?_; unfold cm_X4_findCharacteristic_2
          exact w_leT (by omega) (by omega) (c3 n 0 _ z (by omega) hz)
        | succ e ihe =>
          intro i z hi hz
          refine u_X4_findCharacteristic_2 ?_; unfold cm_X4_findCharacteristic_2
          rw [e1, ix8, nI_1, nI_1]
          exact w_leF (by omega) (by omega) (w_crJ ch_6006 rfl (by omega) rfl (w_crJ ch_6008 rfl (by omega) rfl (w_ctJ ch_6006 rfl (by omega) (ihe (i + 1) _ (by omega) (fr_J2 hz (Or.inl rfl))))))
      refine u_X4_findCharacteristic_1 ?_; unfold cm_X4_findCharacteristic_1
      exact w_ltF (by omega) (by omega) (c2 n 0 z (by omega) hz)
  refine e_X4_findCharacteristic ?_
  refine u_X4_findCharacteristic_0 ?_; unfold cm_X4_findCharacteristic_0
  refine w_cs0 (tc_fillJ ch_6008 (by omega)) ?_
  rintro z1 ⟨-, f1⟩
  refine w_cs0 (tc_fillJ ch_6006 (by omega)) ?_
  rintro z2 ⟨-, f2⟩
  exact w_ctJ ch_6008 rfl (by omega) (c1 n 1 _ (by omega) (by omega) (fr_J2 (fr_tr (fr_mono (fun g hg => Or.inr (Or.inr hg)) f1) (fr_mono (fun g hg => Or.inl hg) f2)) (Or.inr (Or.inr rfl))))
theorem e_X4_eigenvalueSigns {vl : Nat → Nat} {r0 : Nat} {x1 : Int32} {z : ow_MS} {Q : (Int32 × ow_MS) → Prop} (H : Tt (fun K _ => cm_X4_eigenvalueSigns_0 vl K x1 r0 z) Q) : Te (fun K => ce_X4_eigenvalueSigns vl K r0 x1 z) Q := w_te0 H
theorem tc_eigen {n : Nat} (hn : n ≤ 8) : Te (fun K => ce_X4_eigenvalueSigns vl K 6000 (nI n) y) (fun r => fr fcP y r.2) := by
  refine e_X4_eigenvalueSigns ?_; unfold cm_X4_eigenvalueSigns_0
  refine w_cs0 (tc_findChar hn) ?_
  rintro z1 f1
  refine w_cs1 (tc_signChanges hn) ?_
  rintro v1 z2 e2
  have e2 : z2 = z1 := e2
  rw [e2]
  refine w_cs1 (tc_signChanges hn) ?_
  rintro v3 z4 e4
  have e4 : z4 = z1 := e4
  rw [e4]
  exact w_some f1
end SGN
end
section
/-! 99zzzzzzzz.cnum -/
/-! the class: signature: faces of one colour are numbered -/
def nF (q : Nat → Bool) : Nat → Nat
  | 0 => 0
  | n + 1 => nF q n + (if q n = true then 1 else 0)
theorem nF_cg {q q' : Nat → Bool} : ∀ n, (∀ k, k < n → q k = q' k) → nF q n = nF q' n
  | 0, _ => rfl
  | n + 1, h => by
    show nF q n + _ = nF q' n + _
    rw [nF_cg n (fun k hk => h k (by omega)), h n (by omega)]
theorem nF_set {q q' : Nat → Bool} {a : Nat} (h1 : q a = false) (h2 : q' a = true) (h3 : ∀ k, k ≠ a → q' k = q k) : ∀ n, nF q' n = nF q n + (if a < n then 1 else 0)
  | 0 => rfl
  | n + 1 => by
    show nF q' n + _ = nF q n + _ + _
    rw [nF_set h1 h2 h3 n]
    by_cases e : n = a
    · subst e
      rw [h1, h2, if_pos rfl, if_neg (Nat.lt_irrefl _), if_pos (Nat.lt_succ_self _)]
      simp
    · rw [h3 n e]
      have e1 : (if a < n + 1 then 1 else 0) = if a < n then 1 else 0 := by
        by_cases h : a < n
        · rw [if_pos h, if_pos (show a < n + 1 by omega)]
        · rw [if_neg h, if_neg (show ¬ a < n + 1 by omega)]
      rw [e1]
      omega
theorem nF_le (q : Nat → Bool) : ∀ n, nF q n ≤ n
  | 0 => Nat.le_refl _
  | n + 1 => by
    have := nF_le q n
    show nF q n + _ ≤ n + 1
    split <;> omega
theorem nF_pos {q : Nat → Bool} {a : Nat} (h : q a = true) : ∀ n, a < n → 1 ≤ nF q n
  | 0, h1 => absurd h1 (Nat.not_lt_zero _)
  | n + 1, h1 => by
    show 1 ≤ nF q n + _
    by_cases e : a = n
    · subst e
      rw [if_pos h]
      omega
    · have := nF_pos h n (by omega)
      omega
def snS (φ : Nat → Nat) (cd : Nat → Bool) : Nat → Nat → Bool
  | 0, _ => false
  | s + 1, f => snS φ cd s f || (cd s && decide (φ s = f))
theorem snS_t {φ : Nat → Nat} {cd : Nat → Bool} {f : Nat} : ∀ s, snS φ cd s f = true ↔ ∃ t, t < s ∧ cd t = true ∧ φ t = f
  | 0 => ⟨fun h => (by cases h), fun ⟨t, h, _⟩ => absurd h (Nat.not_lt_zero _)⟩
  | s + 1 => by
    show (snS φ cd s f || (cd s && decide (φ s = f))) = true ↔ _
    rw [Bool.or_eq_true_iff, snS_t s, Bool.and_eq_true_iff]
    constructor
    · rintro (⟨t, h1, h2, h3⟩ | ⟨h1, h2⟩)
      · exact ⟨t, by omega, h2, h3⟩
      · exact ⟨s, by omega, h1, of_decide_eq_true h2⟩
    · rintro ⟨t, h1, h2, h3⟩
      by_cases e : t = s
      · subst e
        exact Or.inr ⟨h2, decide_eq_true h3⟩
      · exact Or.inl ⟨t, by omega, h2, h3⟩
def cdN (y : ow_MS) (φ : Nat → Nat) (x2 x3 : Int32) (s : Nat) : Bool := decide (y.2.1 4006 (s / 2) = x2 ∧ y.2.1 6003 (φ s) = x3)
section NRW
variable {vl : Nat → Nat} {y : ow_MS}
theorem cg_6001 : ((cX vl).2 6001).2.1 = 48 := rfl
theorem cg_6003 : ((cX vl).2 6003).2.1 = 48 := rfl
theorem cg_6004 : ((cX vl).2 6004).2.1 = 48 := rfl
theorem cg_4006 : ((cX vl).2 4006).2.1 = 24 := rfl
theorem u_X4_numberRows_1 {vl : Nat → Nat} {x2 : Int32} {x3 : Int32} {x4 : Int32} {x5 : Int32} {x6 : Int32} {r0 : Nat} {r1 : Nat} {z : ow_MS} {Q : (Int32 × ow_MS) → Prop} (H : Tt (fun K k => cm_X4_numberRows_1 vl K (c_X4_numberRows vl K k) x2 x3 x4 x5 x6 r0 r1 z) Q) : Tt (fun K k => c_X4_numberRows vl K k 1 x2 x3 x4 x5 x6 r0 r1 z) Q := w_un (fun _ _ => rfl) H
theorem u_X4_numberRows_2 {vl : Nat → Nat} {x2 : Int32} {x3 : Int32} {x4 : Int32} {x5 : Int32} {x6 : Int32} {r0 : Nat} {r1 : Nat} {z : ow_MS} {Q : (Int32 × ow_MS) → Prop} (H : Tt (fun K k => cm_X4_numberRows_2 vl K (c_X4_numberRows vl K k) x2 x3 x4 x5 x6 r0 r1 z) Q) : Tt (fun K k => c_X4_numberRows vl K k 2 x2 x3 x4 x5 x6 r0 r1 z) Q := w_un (fun _ _ => rfl) H
theorem e_X4_numberRows {vl : Nat → Nat} {r0 : Nat} {r1 : Nat} {x2 : Int32} {x3 : Int32} {z : ow_MS} {Q : (Int32 × ow_MS) → Prop} (H : Tt (fun K k => c_X4_numberRows vl K k 0 x2 x3 0 0 0 r0 r1 z) Q) : Te (fun K => ce_X4_numberRows vl K r0 r1 x2 x3 z) Q := w_te H
theorem u_X4_numberRows_0 {vl : Nat → Nat} {x2 : Int32} {x3 : Int32} {x4 : Int32} {x5 : Int32} {x6 : Int32} {r0 : Nat} {r1 : Nat} {z : ow_MS} {Q : (Int32 × ow_MS) → Prop} (H : Tt (fun K k => cm_X4_numberRows_0 vl K (c_X4_numberRows vl K k) x2 x3 x4 x5 x6 r0 r1 z) Q) : Tt (fun K k => c_X4_numberRows vl K k 0 x2 x3 x4 x5 x6 r0 r1 z) Q := w_un (fun _ _ => rfl) H
theorem tc_numRows {c n : Nat} {φ : Nat → Nat} {x2 x3 : Int32} (h8 : y.1 4008 = nI c) (hc : c ≤ 12) (h2 : y.1 6002 = nI n) (hn : n ≤ 48) (hφ : ∀ s, s < 4 * c → y.2.1 6001 s = nI (φ s) ∧ φ s < n) : Te (fun K => ce_X4_numberRows vl K 6000 4000 x2 x3 y) (fun r => r.1 = nI (nF (snS φ (cdN y φ x2 x3) (4 * c)) n) ∧ (∀ f, f < n → (r.2.2.1 6004 f = -1 ∧ snS φ (cdN y φ x2 x3) (4 * c) f = false ∨ (∃ k, k < nF (snS φ (cdN y φ x2 x3) (4 * c)) n ∧ r.2.2.1 6004 f = nI k) ∧ snS φ (cdN y φ x2 x3) (4 * c) f = true)) ∧ fr (fun g => g = 6004) y r.2) := by
  let cd := cdN y φ x2 x3
  let Q : Int32 × ow_MS → Prop := fun r => r.1 = nI (nF (snS φ cd (4 * c)) n) ∧ (∀ f, f < n → (r.2.2.1 6004 f = -1 ∧ snS φ cd (4 * c) f = false ∨ (∃ k, k < nF (snS φ cd (4 * c)) n ∧ r.2.2.1 6004 f = nI k) ∧ snS φ cd (4 * c) f = true)) ∧ fr (fun g => g = 6004) y r.2
  let I : Nat → ow_MS → Prop := fun s z => (∀ f, f < n → (z.2.1 6004 f = -1 ∧ snS φ cd s f = false ∨ (∃ k, k < nF (snS φ cd s) n ∧ z.2.1 6004 f = nI k) ∧ snS φ cd s f = true)) ∧ fr (fun g => g = 6004) y z
  have c1 : ∀ (d s : Nat) (z : ow_MS), s + d = 4 * c → I s z → Tt (fun K k => c_X4_numberRows vl K k 1 x2 x3 (nI (nF (snS φ cd s) n)) (nI s) 0 6000 4000 z) Q := by
    intro d
    induction d with
    | zero =>
      intro s z hs hz
      have hs : s = 4 * c := by omega
      subst hs
      refine u_X4_numberRows_1 ?_; unfold cm_X4_numberRows_1
      refine w_rdF ((hz.2 4008 (by omega)).1.trans h8) ?_
      rw [show (4 : Int32) * nI c = nI (4 * c) from pk_mul 4 c]
      exact w_leT (by omega) (by omega) (w_some ⟨rfl, hz.1, hz.2⟩)
    | succ d ih =>
      intro s z hs hz
      obtain ⟨p1, p2⟩ := hφ s (by omega)
      have hnl := nF_le (snS φ cd s) n
      have c2 : ∀ (m : Nat) (z1 : ow_MS), m = nF (snS φ cd (s + 1)) n → I (s + 1) z1 → Tt (fun K k => c_X4_numberRows vl K k 2 x2 x3 (nI m) (nI s) (nI (φ s)) 6000 4000 z1) Q := by
        intro m z1 hm h1
        refine u_X4_numberRows_2 ?_; unfold cm_X4_numberRows_2
        rw [nI_1, hm]
        exact ih (s + 1) z1 (by omega) h1
      -- nothing new
      have old : (cd s = false ∨ snS φ cd s (φ s) = true) → Tt (fun K k => c_X4_numberRows vl K k 2 x2 x3 (nI (nF (snS φ cd s) n)) (nI s) (nI (φ s)) 6000 4000 z) Q := by
        intro h9
        have e : ∀ f, snS φ cd (s + 1) f = snS φ cd s f := by
          intro f
          show (snS φ cd s f || (cd s && decide (φ s = f))) = _
          rcases h9 with h9 | h9
          · rw [h9, Bool.false_and, Bool.or_false]
          · by_cases e9 : φ s = f
            · rw [← e9, h9, Bool.true_or]
            · rw [decide_eq_false e9, Bool.and_false, Bool.or_false]
        have ef : snS φ cd (s + 1) = snS φ cd s := funext e
        refine c2 _ z (by rw [ef]) ?_
        show (∀ f, f < n → _) ∧ _
        rw [ef]
        exact hz
      refine u_X4_numberRows_1 ?_; unfold cm_X4_numberRows_1
      refine w_rdF ((hz.2 4008 (by omega)).1.trans h8) ?_
      rw [show (4 : Int32) * nI c = nI (4 * c) from pk_mul 4 c, rn_shr1 (by omega)]
      have r1 : z.2.1 6001 s = nI (φ s) := by rw [(hz.2 6001 (by omega)).2.1]; exact p1
      have r6 : z.2.1 4006 (s / 2) = y.2.1 4006 (s / 2) := by rw [(hz.2 4006 (by omega)).2.1]
      have r3 : z.2.1 6003 (φ s) = y.2.1 6003 (φ s) := by rw [(hz.2 6003 (by omega)).2.1]
      refine w_leF (by omega) (by omega) (w_crI cg_6001 rfl (by omega) r1 (w_crI cg_4006 rfl (by omega) r6 (w_if (fun a1 => w_crI cg_6003 rfl (by omega) r3 (w_if (fun a2 => ?_) (fun a2 => old (Or.inl (decide_eq_false (fun h9 => a2 h9.2)))))) (fun a1 => old (Or.inl (decide_eq_false (fun h9 => a1 h9.1)))))))
      have hcd : cd s = true := decide_eq_true ⟨a1, a2⟩
      rcases hz.1 (φ s) p2 with ⟨q1, q2⟩ | ⟨⟨k, q1, q3⟩, q2⟩
      · refine w_crI cg_6004 rfl (by omega) q1 (w_ifT rfl (w_ctI cg_6004 rfl (by omega) ?_))
        rw [nI_1]
        have hset := nF_set (q := snS φ cd s) (q' := snS φ cd (s + 1)) (a := φ s) q2 (by
          show (snS φ cd s (φ s) || (cd s && decide (φ s = φ s))) = true
          rw [hcd, decide_eq_true rfl]
          simp) (fun k hk => by
          show (snS φ cd s k || (cd s && decide (φ s = k))) = _
          rw [decide_eq_false (fun h9 => hk h9.symm), Bool.and_false, Bool.or_false]) n
        rw [if_pos p2] at hset
        refine c2 _ _ hset.symm ⟨fun f hf => ?_, fr_I2 hz.2 rfl⟩
        by_cases e : f = φ s
        · subst e
          refine Or.inr ⟨⟨nF (snS φ cd s) n, by omega, po_usI_at⟩, ?_⟩
          show (snS φ cd s (φ s) || (cd s && decide (φ s = φ s))) = true
          rw [hcd, decide_eq_true rfl]
          simp
        · have e2 : snS φ cd (s + 1) f = snS φ cd s f := by
            show (snS φ cd s f || (cd s && decide (φ s = f))) = _
            rw [decide_eq_false (fun h9 => e h9.symm), Bool.and_false, Bool.or_false]
          rcases hz.1 f hf with ⟨u1, u2⟩ | ⟨⟨k, u1, u3⟩, u2⟩
          · exact Or.inl ⟨(po_usI_ne e).trans u1, by rw [e2]; exact u2⟩
          · exact Or.inr ⟨⟨k, by omega, (po_usI_ne e).trans u3⟩, by rw [e2]; exact u2⟩
      · exact w_crI cg_6004 rfl (by omega) q3 (w_ifF (rn_neg1 (by omega)) (old (Or.inr q2)))
  have hz0 : nF (snS φ cd 0) n = 0 := by
    have key : ∀ m, nF (fun _ => false) m = 0 := by
      intro m
      induction m with
      | zero => rfl
      | succ m ih =>
        show nF (fun _ => false) m + (if false = true then 1 else 0) = 0
        rw [ih]
        rfl
    exact key n
  refine e_X4_numberRows ?_
  refine u_X4_numberRows_0 ?_; unfold cm_X4_numberRows_0
  refine w_rdF h2 (w_cs0 (tc_fill (a := 0) (b := n) cg_6004 (by omega) (by omega) (by omega)) ?_)
  rintro z1 ⟨f1, f2⟩
  have := c1 (4 * c) 0 z1 (by omega) ⟨fun f hf => Or.inl ⟨by rw [f1 f, if_pos (by omega)], rfl⟩, f2⟩
  rw [hz0] at this
  exact this
end NRW
end
section
/-! 99zzzzzzzza.cpnt -/
/-! the class: signature: faces of a part are painted -/
def fsV (y : ow_MS) (c : Nat) (x2 : Int32) (v0 : Nat) : Prop := v0 < 2 * c ∧ y.2.1 4006 v0 = x2 ∧ ∀ v, v < v0 → y.2.1 4006 v ≠ x2
/-- the two sides of the part's first gap have the colours 0 and 1 -/
def gdP (y z : ow_MS) (c : Nat) (φ : Nat → Nat) (x2 : Int32) : Prop := ∀ v0, fsV y c x2 v0 → φ (2 * v0) ≠ φ (2 * v0 + 1) → y.2.1 6003 (φ (2 * v0 + 1)) = -1 → z.2.1 6003 (φ (2 * v0)) = 0 ∧ z.2.1 6003 (φ (2 * v0 + 1)) = 1
def ouP (y z : ow_MS) (c : Nat) (φ : Nat → Nat) (x2 : Int32) : Prop := ∀ f, (∀ s, s < 4 * c → y.2.1 4006 (s / 2) = x2 → φ s ≠ f) → z.2.1 6003 f = y.2.1 6003 f
section PN
variable {vl : Nat → Nat} {y : ow_MS} {c n : Nat} {φ : Nat → Nat} {x2 : Int32}
theorem gdP_w {z : ow_MS} {f : Nat} {x : Int32} (hg : gdP y z c φ x2) (hf : z.2.1 6003 f = -1) : gdP y (usI z 6003 f x) c φ x2 := by
  intro v0 h1 h2 h3
  obtain ⟨g1, g2⟩ := hg v0 h1 h2 h3
  refine ⟨?_, ?_⟩
  · rw [po_usI_ne (fun h9 => by rw [h9, hf] at g1; exact absurd g1 (by decide))]
    exact g1
  · rw [po_usI_ne (fun h9 => by rw [h9, hf] at g2; exact absurd g2 (by decide))]
    exact g2
theorem ouP_w {z : ow_MS} {s : Nat} {x : Int32} (hs : s < 4 * c) (hp : y.2.1 4006 (s / 2) = x2) (h : ouP y z c φ x2) : ouP y (usI z 6003 (φ s) x) c φ x2 := by
  intro f hf
  rw [po_usI_ne (fun h9 => hf s hs hp h9.symm)]
  exact h f hf
theorem u_X4_paint_2 {vl : Nat → Nat} {x2 : Int32} {x3 : Int32} {x4 : Int32} {x5 : Int32} {x6 : Int32} {x7 : Int32} {x8 : Int32} {r0 : Nat} {r1 : Nat} {z : ow_MS} {Q : ow_MS → Prop} (H : Tt (fun K k => cm_X4_paint_2 vl K (c_X4_paint vl K k) x2 x3 x4 x5 x6 x7 x8 r0 r1 z) Q) : Tt (fun K k => c_X4_paint vl K k 2 x2 x3 x4 x5 x6 x7 x8 r0 r1 z) Q := w_un (fun _ _ => rfl) H
theorem u_X4_paint_5 {vl : Nat → Nat} {x2 : Int32} {x3 : Int32} {x4 : Int32} {x5 : Int32} {x6 : Int32} {x7 : Int32} {x8 : Int32} {r0 : Nat} {r1 : Nat} {z : ow_MS} {Q : ow_MS → Prop} (H : Tt (fun K k => cm_X4_paint_5 vl K (c_X4_paint vl K k) x2 x3 x4 x5 x6 x7 x8 r0 r1 z) Q) : Tt (fun K k => c_X4_paint vl K k 5 x2 x3 x4 x5 x6 x7 x8 r0 r1 z) Q := w_un (fun _ _ => rfl) H
theorem u_X4_paint_4 {vl : Nat → Nat} {x2 : Int32} {x3 : Int32} {x4 : Int32} {x5 : Int32} {x6 : Int32} {x7 : Int32} {x8 : Int32} {r0 : Nat} {r1 : Nat} {z : ow_MS} {Q : ow_MS → Prop} (H : Tt (fun K k => cm_X4_paint_4 vl K (c_X4_paint vl K k) x2 x3 x4 x5 x6 x7 x8 r0 r1 z) Q) : Tt (fun K k => c_X4_paint vl K k 4 x2 x3 x4 x5 x6 x7 x8 r0 r1 z) Q := w_un (fun _ _ => rfl) H
theorem u_X4_paint_3 {vl : Nat → Nat} {x2 : Int32} {x3 : Int32} {x4 : Int32} {x5 : Int32} {x6 : Int32} {x7 : Int32} {x8 : Int32} {r0 : Nat} {r1 : Nat} {z : ow_MS} {Q : ow_MS → Prop} (H : Tt (fun K k => cm_X4_paint_3 vl K (c_X4_paint vl K k) x2 x3 x4 x5 x6 x7 x8 r0 r1 z) Q) : Tt (fun K k => c_X4_paint vl K k 3 x2 x3 x4 x5 x6 x7 x8 r0 r1 z) Q := w_un (fun _ _ => rfl) H
theorem u_X4_paint_1 {vl : Nat → Nat} {x2 : Int32} {x3 : Int32} {x4 : Int32} {x5 : Int32} {x6 : Int32} {x7 : Int32} {x8 : Int32} {r0 : Nat} {r1 : Nat} {z : ow_MS} {Q : ow_MS → Prop} (H : Tt (fun K k => cm_X4_paint_1 vl K (c_X4_paint vl K k) x2 x3 x4 x5 x6 x7 x8 r0 r1 z) Q) : Tt (fun K k => c_X4_paint vl K k 1 x2 x3 x4 x5 x6 x7 x8 r0 r1 z) Q := w_un (fun _ _ => rfl) H
theorem e_X4_paint {vl : Nat → Nat} {r0 : Nat} {r1 : Nat} {x2 : Int32} {z : ow_MS} {Q : ow_MS → Prop} (H : Tt (fun K k => c_X4_paint vl K k 0 x2 0 0 0 0 0 0 r0 r1 z) Q) : Te (fun K => ce_X4_paint vl K r0 r1 x2 z) Q := w_te H
theorem u_X4_paint_0 {vl : Nat → Nat} {x2 : Int32} {x3 : Int32} {x4 : Int32} {x5 : Int32} {x6 : Int32} {x7 : Int32} {x8 : Int32} {r0 : Nat} {r1 : Nat} {z : ow_MS} {Q : ow_MS → Prop} (H : Tt (fun K k => cm_X4_paint_0 vl K (c_X4_paint vl K k) x2 x3 x4 x5 x6 x7 x8 r0 r1 z) Q) : Tt (fun K k => c_X4_paint vl K k 0 x2 x3 x4 x5 x6 x7 x8 r0 r1 z) Q := w_un (fun _ _ => rfl) H
theorem tc_paint (h8 : y.1 4008 = nI c) (hc : c ≤ 12) (hn : n ≤ 48) (hφ : ∀ s, s < 4 * c → y.2.1 6001 s = nI (φ s) ∧ φ s < n) : Te (fun K => ce_X4_paint vl K 6000 4000 x2 y) (fun y1 => fr (fun g => g = 6003) y y1 ∧ ouP y y1 c φ x2 ∧ gdP y y1 c φ x2) := by
  let Q : ow_MS → Prop := fun y1 => fr (fun g => g = 6003) y y1 ∧ ouP y y1 c φ x2 ∧ gdP y y1 c φ x2
  let B : ow_MS → Prop := fun z => fr (fun g => g = 6003) y z ∧ ouP y z c φ x2
  -- one pass
  have pass : ∀ (x5 : Int32), (∀ (x3 x4 : Int32) (z : ow_MS), B z → gdP y z c φ x2 → (x3 = 1 ∨ x3 = 0 ∧ z.2.1 6003 = y.2.1 6003 ∧ ∀ v, v < 2 * c → y.2.1 4006 v ≠ x2) → Tt (fun K k => c_X4_paint vl K k 1 x2 x3 x4 (x5 + 1) 0 0 0 6000 4000 z) Q) → ∀ (d v : Nat) (x3 x4 : Int32) (z : ow_MS), v + d = 2 * c → B z → (x3 = 1 ∧ gdP y z c φ x2 ∨ x3 = 0 ∧ z.2.1 6003 = y.2.1 6003 ∧ ∀ u, u < v → y.2.1 4006 u ≠ x2) → Tt (fun K k => c_X4_paint vl K k 2 x2 x3 x4 x5 (nI v) 0 0 6000 4000 z) Q := by
    intro x5 hnext d
    induction d with
    | zero =>
      intro v x3 x4 z hv hB hJ
      refine u_X4_paint_2 ?_; unfold cm_X4_paint_2
      refine w_rdF ((hB.1 4008 (by omega)).1.trans h8) ?_
      rw [rn_mul2]
      refine w_leT (by omega) (by omega) ?_
      rcases hJ with ⟨j1, j2⟩ | ⟨j1, j2, j3⟩
      · exact hnext x3 x4 z hB j2 (Or.inl j1)
      · have j3' : ∀ u, u < 2 * c → y.2.1 4006 u ≠ x2 := fun u hu => j3 u (by omega)
        exact hnext x3 x4 z hB (fun v0 h1 _ _ => absurd h1.2.1 (j3' v0 h1.1)) (Or.inr ⟨j1, j2, j3'⟩)
    | succ d ih =>
      intro v x3 x4 z hv hB hJ
      obtain ⟨a1, a2⟩ := hφ (2 * v) (by omega)
      obtain ⟨b1, b2⟩ := hφ (2 * v + 1) (by omega)
      have c5 : ∀ (x3 x4 : Int32) (z : ow_MS), B z → (x3 = 1 ∧ gdP y z c φ x2 ∨ x3 = 0 ∧ z.2.1 6003 = y.2.1 6003 ∧ ∀ u, u < v + 1 → y.2.1 4006 u ≠ x2) → Tt (fun K k => c_X4_paint vl K k 5 x2 x3 x4 x5 (nI v) 0 0 6000 4000 z) Q := by
        intro x3 x4 z hB hJ
        refine u_X4_paint_5 ?_; unfold cm_X4_paint_5
        rw [nI_1]
        exact ih (v + 1) x3 x4 z (by omega) hB hJ
      have wr1 : ∀ (z : ow_MS) (x : Int32), y.2.1 4006 v = x2 → B z → B (usI z 6003 (φ (2 * v)) x) := fun z x hp hB => ⟨fr_I2 hB.1 rfl, ouP_w (by omega) (by rw [show 2 * v / 2 = v by omega]; exact hp) hB.2⟩
      have wr2 : ∀ (z : ow_MS) (x : Int32), y.2.1 4006 v = x2 → B z → B (usI z 6003 (φ (2 * v + 1)) x) := fun z x hp hB => ⟨fr_I2 hB.1 rfl, ouP_w (by omega) (by rw [show (2 * v + 1) / 2 = v by omega]; exact hp) hB.2⟩
      have c4 : ∀ (x4 : Int32) (z : ow_MS), y.2.1 4006 v = x2 → B z → gdP y z c φ x2 → Tt (fun K k => c_X4_paint vl K k 4 x2 1 x4 x5 (nI v) (nI (φ (2 * v))) (nI (φ (2 * v + 1))) 6000 4000 z) Q := by
        intro x4 z hp hB hg
        refine u_X4_paint_4 ?_; unfold cm_X4_paint_4
        refine w_crI cg_6003 rfl (by omega) rfl (w_if (fun e1 => w_crI cg_6003 rfl (by omega) rfl (w_if (fun _ => c5 _ _ z hB (Or.inl ⟨rfl, hg⟩)) (fun _ => w_crI cg_6003 rfl (by omega) rfl (w_ctI cg_6003 rfl (by omega) (c5 _ _ _ (wr1 z _ hp hB) (Or.inl ⟨rfl, gdP_w hg e1⟩)))))) (fun _ => c5 _ _ z hB (Or.inl ⟨rfl, hg⟩)))
      have c3 : ∀ (x4 : Int32) (z : ow_MS), y.2.1 4006 v = x2 → B z → gdP y z c φ x2 → Tt (fun K k => c_X4_paint vl K k 3 x2 1 x4 x5 (nI v) (nI (φ (2 * v))) (nI (φ (2 * v + 1))) 6000 4000 z) Q := by
        intro x4 z hp hB hg
        refine u_X4_paint_3 ?_; unfold cm_X4_paint_3
        refine w_crI cg_6003 rfl (by omega) rfl (w_if (fun _ => c4 x4 z hp hB hg) (fun _ => w_crI cg_6003 rfl (by omega) rfl (w_if (fun e1 => w_crI cg_6003 rfl (by omega) rfl (w_ctI cg_6003 rfl (by omega) (c5 _ _ _ (wr2 z _ hp hB) (Or.inl ⟨rfl, gdP_w hg e1⟩)))) (fun _ => c4 x4 z hp hB hg))))
      have r6 : z.2.1 4006 v = y.2.1 4006 v := by rw [(hB.1 4006 (by omega)).2.1]
      have r1 : z.2.1 6001 (2 * v) = nI (φ (2 * v)) := by rw [(hB.1 6001 (by omega)).2.1]; exact a1
      have r2 : z.2.1 6001 (2 * v + 1) = nI (φ (2 * v + 1)) := by rw [(hB.1 6001 (by omega)).2.1]; exact b1
      refine u_X4_paint_2 ?_; unfold cm_X4_paint_2
      refine w_rdF ((hB.1 4008 (by omega)).1.trans h8) ?_
      rw [rn_mul2, rn_mul2, nI_1]
      refine w_leF (by omega) (by omega) (w_crI cg_4006 rfl (by omega) r6 (w_if (fun hp => w_crI cg_6001 rfl (by omega) r1 (w_crI cg_6001 rfl (by omega) r2 ?_)) (fun hp => c5 _ _ z hB ?_)))
      · rcases hJ with ⟨j1, j2⟩ | ⟨j1, j2, j3⟩
        · subst j1
          exact w_ifF (by decide) (c3 x4 z hp hB j2)
        · subst j1
          refine w_ifT rfl (w_ctI cg_6003 rfl (by omega) ?_)
          -- the first visit
          have hB1 := wr1 z 0 hp hB
          have hat : (usI z (6000 + 3) (φ (2 * v)) 0).2.1 6003 (φ (2 * v)) = 0 := po_usI_at
          have one : ∀ z1, (∀ v0, v0 = v → φ (2 * v0) ≠ φ (2 * v0 + 1) → y.2.1 6003 (φ (2 * v0 + 1)) = -1 → z1.2.1 6003 (φ (2 * v0)) = 0 ∧ z1.2.1 6003 (φ (2 * v0 + 1)) = 1) → gdP y z1 c φ x2 := by
            intro z1 h1 v0 g1 g2 g3
            refine h1 v0 ?_ g2 g3
            rcases Nat.lt_trichotomy v0 v with h9 | h9 | h9
            · exact absurd g1.2.1 (j3 v0 h9)
            · exact h9
            · exact absurd hp (g1.2.2 v h9)
          have c4' : ∀ (x4 : Int32), (¬ (usI z (6000 + 3) (φ (2 * v)) 0).2.1 6003 (φ (2 * v + 1)) = -1) → Tt (fun K k => c_X4_paint vl K k 4 x2 1 x4 x5 (nI v) (nI (φ (2 * v))) (nI (φ (2 * v + 1))) 6000 4000 (usI z (6000 + 3) (φ (2 * v)) 0)) Q := by
            intro x4 hne
            refine c4 x4 _ hp hB1 (one _ ?_)
            rintro v0 rfl g2 g3
            refine absurd ?_ hne
            rw [po_usI_ne (fun h9 => g2 h9.symm), j2]
            exact g3
          refine u_X4_paint_3 ?_; unfold cm_X4_paint_3
          refine w_crI cg_6003 rfl (by omega) hat (w_ifF (by decide) (w_crI cg_6003 rfl (by omega) rfl (w_if (fun e1 => w_crI cg_6003 rfl (by omega) hat (w_ctI cg_6003 rfl (by omega) (c5 _ _ _ (wr2 _ _ hp hB1) (Or.inl ⟨rfl, one _ ?_⟩)))) (fun e1 => c4' x4 e1))))
          rintro v0 rfl g2 g3
          exact ⟨(po_usI_ne g2).trans hat, po_usI_at⟩
      · rcases hJ with ⟨j1, j2⟩ | ⟨j1, j2, j3⟩
        · exact Or.inl ⟨j1, j2⟩
        · refine Or.inr ⟨j1, j2, fun u hu => ?_⟩
          by_cases e : u = v
          · rw [e]
            exact hp
          · exact j3 u (by omega)
  have c1 : ∀ (d i : Nat) (x3 x4 : Int32) (z : ow_MS), i + d = 48 → B z → gdP y z c φ x2 → (x3 = 1 ∨ x3 = 0 ∧ z.2.1 6003 = y.2.1 6003 ∧ ∀ v, v < 2 * c → y.2.1 4006 v ≠ x2) → Tt (fun K k => c_X4_paint vl K k 1 x2 x3 x4 (nI i) 0 0 0 6000 4000 z) Q := by
    intro d
    induction d with
    | zero =>
      intro i x3 x4 z hi hB hg _
      refine u_X4_paint_1 ?_; unfold cm_X4_paint_1
      exact w_leT (a := 48) (b := i) (by omega) (by omega) (w_some ⟨hB.1, hB.2, hg⟩)
    | succ d ih =>
      intro i x3 x4 z hi hB hg hJ
      refine u_X4_paint_1 ?_; unfold cm_X4_paint_1
      refine w_leF (a := 48) (b := i) (by omega) (by omega) (w_if (fun _ => w_some ⟨hB.1, hB.2, hg⟩) (fun _ => ?_))
      refine pass (nI i) (fun x3 x4 z h1 h2 h3 => ?_) (2 * c) 0 x3 0 z (by omega) hB ?_
      · rw [nI_1]
        exact ih (i + 1) x3 x4 z (by omega) h1 h2 h3
      · rcases hJ with j1 | ⟨j1, j2, -⟩
        · exact Or.inl ⟨j1, hg⟩
        · exact Or.inr ⟨j1, j2, fun u hu => absurd hu (Nat.not_lt_zero _)⟩
  refine e_X4_paint ?_
  refine u_X4_paint_0 ?_; unfold cm_X4_paint_0
  refine u_X4_paint_1 ?_; unfold cm_X4_paint_1
  refine w_leF (a := 48) (b := 0) (by omega) (by omega) (w_ifF (by decide) ?_)
  refine pass 0 (fun x3 x4 z h1 h2 h3 => ?_) (2 * c) 0 0 0 y (by omega) ⟨fr_rf, fun f _ => rfl⟩ (Or.inr ⟨rfl, rfl, fun u hu => absurd hu (Nat.not_lt_zero _)⟩)
  exact c1 47 1 x3 x4 z (by omega) h1 h2 h3
end PN
end
section
/-! 99zzzzzzzzb.csgp -/
/-! the class: signature of a part -/
theorem cdN_fr {P : Nat → Prop} {y z : ow_MS} {φ : Nat → Nat} {x2 x3 : Int32} (hf : fr P y z) (h1 : ¬ P 4006) (h2 : ¬ P 6003) : cdN z φ x2 x3 = cdN y φ x2 x3 := by
  funext s
  unfold cdN
  rw [(hf _ h1).2.1, (hf _ h2).2.1]
theorem nF_two {q1 q2 q : Nat → Bool} (h1 : ∀ k, q1 k = true → q k = true ∧ q2 k = false) (h2 : ∀ k, q2 k = true → q k = true) : ∀ n, nF q1 n + nF q2 n ≤ nF q n
  | 0 => Nat.le_refl _
  | n + 1 => by
    have ih := nF_two h1 h2 n
    show nF q1 n + _ + (nF q2 n + _) ≤ nF q n + _
    cases e1 : q1 n with
    | true =>
      obtain ⟨a, b⟩ := h1 n e1
      rw [a, b]
      simp
      omega
    | false =>
      cases e2 : q2 n with
      | true =>
        rw [h2 n e2]
        simp
        omega
      | false =>
        simp
        split <;> omega
section SP
variable {vl : Nat → Nat} {y : ow_MS} {c n : Nat} {φ : Nat → Nat} {x2 x3 : Int32}
def cntR (y : ow_MS) (c n : Nat) (φ : Nat → Nat) (x2 x3 : Int32) : Nat := nF (snS φ (cdN y φ x2 x3) (4 * c)) n
theorem cntR_fr {P : Nat → Prop} {z : ow_MS} (hf : fr P y z) (h1 : ¬ P 4006) (h2 : ¬ P 6003) : cntR z c n φ x2 x3 = cntR y c n φ x2 x3 := by
  unfold cntR
  rw [cdN_fr hf h1 h2]
theorem e_X4_rarerColour {vl : Nat → Nat} {r0 : Nat} {r1 : Nat} {x2 : Int32} {z : ow_MS} {Q : (Int32 × ow_MS) → Prop} (H : Tt (fun K _ => cm_X4_rarerColour_0 vl K x2 r0 r1 z) Q) : Te (fun K => ce_X4_rarerColour vl K r0 r1 x2 z) Q := w_te0 H
theorem tc_rarer (h8 : y.1 4008 = nI c) (hc : c ≤ 12) (h2 : y.1 6002 = nI n) (hn : n ≤ 48) (hφ : ∀ s, s < 4 * c → y.2.1 6001 s = nI (φ s) ∧ φ s < n) : Te (fun K => ce_X4_rarerColour vl K 6000 4000 x2 y) (fun r => (r.1 = 0 ∧ cntR y c n φ x2 0 ≤ cntR y c n φ x2 1 ∨ r.1 = 1 ∧ cntR y c n φ x2 1 < cntR y c n φ x2 0) ∧ fr (fun g => g = 6004) y r.2) := by
  have l0 : cntR y c n φ x2 0 ≤ n := nF_le _ _
  have l1 : cntR y c n φ x2 1 ≤ n := nF_le _ _
  refine e_X4_rarerColour ?_; unfold cm_X4_rarerColour_0
  refine w_cs1 (tc_numRows (x3 := 0) h8 hc h2 hn hφ) ?_
  rintro v1 z1 ⟨e1, -, f1⟩
  refine w_cs1 (tc_numRows (x3 := 1) (n := n) (φ := φ) ((f1 4008 (by omega)).1.trans h8) hc ((f1 6002 (by omega)).1.trans h2) hn (fun s hs => by
    rw [(f1 6001 (by omega)).2.1]
    exact hφ s hs)) ?_
  rintro v2 z2 ⟨e2, -, f2⟩
  have e1 : v1 = nI (cntR y c n φ x2 0) := e1
  have e2 : v2 = nI (cntR z1 c n φ x2 1) := e2
  rw [cntR_fr f1 (by omega) (by omega)] at e2
  rw [e1, e2]
  exact w_lt (by omega) (by omega) (fun h => w_some ⟨Or.inr ⟨rfl, h⟩, fr_tr f1 f2⟩) (fun h => w_some ⟨Or.inl ⟨rfl, h⟩, fr_tr f1 f2⟩)
def spP (g : Nat) : Prop := g = 6004 ∨ g = 6005 ∨ fcP g
theorem mt_x {t : Nat} (h : t < 24) : nI t ^^^ 1 = nI (mt t) := by
  have key : ∀ t : Fin 24, nI t.val ^^^ 1 = nI (mt t.val) := by decide +kernel
  exact key ⟨t, h⟩
theorem u_X4_signatureOfPart_1 {vl : Nat → Nat} {x2 : Int32} {x3 : Int32} {x4 : Int32} {x5 : Int32} {x6 : Int32} {r0 : Nat} {r1 : Nat} {t0 : Int32} {z : ow_MS} {Q : (Int32 × ow_MS) → Prop} (H : Tt (fun K k => cm_X4_signatureOfPart_1 vl K (c_X4_signatureOfPart vl K k) x2 x3 x4 x5 x6 r0 r1 t0 z) Q) : Tt (fun K k => c_X4_signatureOfPart vl K k 1 x2 x3 x4 x5 x6 r0 r1 t0 z) Q := w_un (fun _ _ => rfl) H
theorem u_X4_signatureOfPart_3 {vl : Nat → Nat} {x2 : Int32} {x3 : Int32} {x4 : Int32} {x5 : Int32} {x6 : Int32} {r0 : Nat} {r1 : Nat} {t0 : Int32} {z : ow_MS} {Q : (Int32 × ow_MS) → Prop} (H : Tt (fun K k => cm_X4_signatureOfPart_3 vl K (c_X4_signatureOfPart vl K k) x2 x3 x4 x5 x6 r0 r1 t0 z) Q) : Tt (fun K k => c_X4_signatureOfPart vl K k 3 x2 x3 x4 x5 x6 r0 r1 t0 z) Q := w_un (fun _ _ => rfl) H
theorem u_X4_signatureOfPart_2 {vl : Nat → Nat} {x2 : Int32} {x3 : Int32} {x4 : Int32} {x5 : Int32} {x6 : Int32} {r0 : Nat} {r1 : Nat} {t0 : Int32} {z : ow_MS} {Q : (Int32 × ow_MS) → Prop} (H : Tt (fun K k => cm_X4_signatureOfPart_2 vl K (c_X4_signatureOfPart vl K k) x2 x3 x4 x5 x6 r0 r1 t0 z) Q) : Tt (fun K k => c_X4_signatureOfPart vl K k 2 x2 x3 x4 x5 x6 r0 r1 t0 z) Q := w_un (fun _ _ => rfl) H
theorem e_X4_signatureOfPart {vl : Nat → Nat} {r0 : Nat} {r1 : Nat} {x2 : Int32} {x3 : Int32} {z : ow_MS} {Q : (Int32 × ow_MS) → Prop} (H : Tt (fun K k => c_X4_signatureOfPart vl K k 0 x2 x3 0 0 0 r0 r1 0 z) Q) : Te (fun K => ce_X4_signatureOfPart vl K r0 r1 x2 x3 z) Q := w_te H
theorem u_X4_signatureOfPart_0 {vl : Nat → Nat} {x2 : Int32} {x3 : Int32} {x4 : Int32} {x5 : Int32} {x6 : Int32} {r0 : Nat} {r1 : Nat} {t0 : Int32} {z : ow_MS} {Q : (Int32 × ow_MS) → Prop} (H : Tt (fun K k => cm_X4_signatureOfPart_0 vl K (c_X4_signatureOfPart vl K k) x2 x3 x4 x5 x6 r0 r1 t0 z) Q) : Tt (fun K k => c_X4_signatureOfPart vl K k 0 x2 x3 x4 x5 x6 r0 r1 t0 z) Q := w_un (fun _ _ => rfl) H
theorem tc_sgPart {T : ow_NT} (hy : cAt y 4000 T) (hv : vn T.1 T.2.2.1) (hc : T.1 ≤ 12) (h2 : y.1 6002 = nI n) (hn : n ≤ 48) (hφ : ∀ s, s < 4 * T.1 → y.2.1 6001 s = nI (φ s) ∧ φ s < n) (hR1 : 1 ≤ cntR y T.1 n φ x2 x3) (hR9 : cntR y T.1 n φ x2 x3 ≤ 9) : Te (fun K => ce_X4_signatureOfPart vl K 6000 4000 x2 x3 y) (fun r => fr spP y r.2) := by
  let Q : Int32 × ow_MS → Prop := fun r => fr spP y r.2
  generalize hm : cntR y T.1 n φ x2 x3 - 1 = m
  have hm8 : m ≤ 8 := by omega
  let I : ow_MS → Prop := fun z => fr (fun g => g = 6004 ∨ g = 6005) y z
  have c1 : ∀ (d x : Nat) (x5 : Int32) (z : ow_MS), x + d = T.1 → I z → Tt (fun K k => c_X4_signatureOfPart vl K k 1 x2 x3 (nI m) x5 (nI x) 6000 4000 0 z) Q := by
    intro d
    induction d with
    | zero =>
      intro x x5 z hx hz
      refine u_X4_signatureOfPart_1 ?_; unfold cm_X4_signatureOfPart_1
      refine w_rdF ((hz 4008 (by omega)).1.trans hy.1) (w_leT (by omega) (by omega) (w_cs1 (tc_eigen hm8) ?_))
      rintro v z1 f1
      exact w_some (fr_tr (fr_mono (fun g hg => by unfold spP; rcases hg with h | h; exact Or.inl h; exact Or.inr (Or.inl h)) hz) (fr_mono (fun g hg => Or.inr (Or.inr hg)) f1))
    | succ d ih =>
      intro x x5 z hx hz
      have c3 : ∀ (x5 : Int32) (z : ow_MS), I z → Tt (fun K k => c_X4_signatureOfPart vl K k 3 x2 x3 (nI m) x5 (nI x) 6000 4000 0 z) Q := by
        intro x5 z hz
        refine u_X4_signatureOfPart_3 ?_; unfold cm_X4_signatureOfPart_3
        rw [nI_1]
        exact ih (x + 1) x5 z (by omega) hz
      have ad : ∀ (z z1 : ow_MS), I z → fr (fun g => g = 6005) z z1 → I z1 := fun z z1 h1 h3 => fr_tr h1 (fr_mono (fun g hg => Or.inr hg) h3)
      have c2 : ∀ t : Nat, t < 2 * T.1 → Tt (fun K k => c_X4_signatureOfPart vl K k 2 x2 x3 (nI m) x5 (nI x) 6000 4000 (nI t) z) Q := by
        intro t ht
        have hmt := mt_lt ht
        have v1 := (hv t ht).2.1
        have v2 := (hv (mt t) hmt).2.1
        have fc : ∀ s, s < 4 * T.1 → z.2.1 6001 s = nI (φ s) ∧ φ s < n := fun s hs => by
          rw [(hz 6001 (by omega)).2.1]
          exact hφ s hs
        have pv : ∀ v, z.2.1 4002 v = nI (T.2.2.1.2 v) := fun v => by
          rw [(hz 4002 (by omega)).2.1]
          exact hy.2.2.2.1 v
        obtain ⟨f1, f2⟩ := fc (2 * t) (by omega)
        obtain ⟨g1, g2⟩ := fc (2 * t + 1) (by omega)
        obtain ⟨j1, j2⟩ := fc (2 * T.2.2.1.2 t) (by omega)
        obtain ⟨k1, k2⟩ := fc (2 * T.2.2.1.2 (mt t)) (by omega)
        refine u_X4_signatureOfPart_2 ?_; unfold cm_X4_signatureOfPart_2
        rw [rn_mul2, mt_x (by omega), nI_1]
        refine w_crI cg_6001 rfl (by omega) f1 (w_crI cg_6003 rfl (by omega) rfl (w_if (fun _ => ?_) (fun _ => ?_)))
        · refine w_crI (len := 24) rfl rfl (by omega) (pv (mt t)) ?_
          rw [rn_mul2]
          refine w_crI cg_6001 rfl (by omega) k1 (w_crI cg_6004 rfl (by omega) rfl (w_crI cg_6004 rfl (by omega) rfl (w_crI (len := 12) rfl rfl (by omega) rfl (w_cs0 (tc_addAt hm8) (fun z1 h1 => c3 _ z1 (ad z z1 hz h1))))))
        · refine w_crI cg_6001 rfl (by omega) g1 (w_crI (len := 24) rfl rfl (by omega) (pv t) ?_)
          rw [rn_mul2]
          refine w_crI cg_6001 rfl (by omega) j1 (w_crI cg_6004 rfl (by omega) rfl (w_crI cg_6004 rfl (by omega) rfl (w_crI (len := 12) rfl rfl (by omega) rfl (w_cs0 (tc_addAt hm8) (fun z1 h1 => w_crI (len := 12) rfl rfl (by omega) rfl (c3 _ z1 (ad z z1 hz h1)))))))
      refine u_X4_signatureOfPart_1 ?_; unfold cm_X4_signatureOfPart_1
      rw [rn_mul2, nI_1]
      exact w_rdF ((hz 4008 (by omega)).1.trans hy.1) (w_leF (by omega) (by omega) (w_crI cg_4006 rfl (by omega) rfl (w_if (fun _ => w_crI (len := 12) rfl rfl (by omega) rfl (w_if (fun _ => c2 (2 * x + 1) (by omega)) (fun _ => c2 (2 * x) (by omega)))) (fun _ => c3 _ z hz))))
  refine e_X4_signatureOfPart ?_
  refine u_X4_signatureOfPart_0 ?_; unfold cm_X4_signatureOfPart_0
  refine w_cs1 (tc_numRows (x3 := x3) hy.1 hc h2 hn hφ) ?_
  rintro v1 z1 ⟨e1, -, f1⟩
  have e1 : v1 = nI (cntR y T.1 n φ x2 x3) := e1
  refine w_cs0 (tc_fillJ ch_6005 (by omega)) ?_
  rintro z2 ⟨-, f2⟩
  rw [e1, show nI (cntR y T.1 n φ x2 x3) - 1 = nI (cntR y T.1 n φ x2 x3 - 1) from pk_sub (b := 1) hR1, hm]
  exact c1 T.1 0 _ z2 (by omega) (fr_tr (fr_mono (fun g hg => Or.inl hg) f1) (fr_mono (fun g hg => Or.inr hg) f2))
end SP
end
section
/-! 99zzzzzzzzc.cfac -/
/-! labels of rounds: what is the same along rounds is the same at one label; counting by parts -/
section MR
variable {β : Type} {N : Nat → Nat} {vs : Nat} {κ : Nat → β} {x : Int32}
theorem mr_in_k (hN : ∀ a, a < vs → N a < vs ∧ κ (N a) = κ a) : ∀ (d : Nat) (F : Nat → Int32) (v : Nat), v < vs → ∀ k, mr_in N x d F v k = F k ∨ (mr_in N x d F v k = x ∧ F k = -1 ∧ κ k = κ v)
  | 0, F, v, _, k => Or.inl rfl
  | d + 1, F, v, hv, k => by
    show (if F v = -1 then mr_in N x d (su F v x) (N v) else F) k = _ ∨ (if F v = -1 then mr_in N x d (su F v x) (N v) else F) k = _ ∧ _
    by_cases h : F v = -1
    · rw [if_pos h]
      have ih := mr_in_k hN d (su F v x) (N v) (hN v hv).1 k
      by_cases e : k = v
      · subst e
        have e1 : su F k x k = x := if_pos rfl
        rcases ih with ih | ⟨i1, -, -⟩
        · exact Or.inr ⟨ih.trans e1, h, rfl⟩
        · exact Or.inr ⟨i1, h, rfl⟩
      · have e1 : su F v x k = F k := if_neg e
        rcases ih with ih | ⟨i1, i2, i3⟩
        · exact Or.inl (ih.trans e1)
        · exact Or.inr ⟨i1, e1 ▸ i2, i3.trans (hN v hv).2⟩
    · rw [if_neg h]
      exact Or.inl rfl
theorem mr_in_v (hN : ∀ a, a < vs → N a < vs ∧ κ (N a) = κ a) {d : Nat} {F : Nat → Int32} {v : Nat} (hv : v < vs) (h : F v = -1) : mr_in N x (d + 1) F v v = x := by
  show (if F v = -1 then mr_in N x d (su F v x) (N v) else F) v = x
  rw [if_pos h]
  have e1 : su F v x v = x := if_pos rfl
  rcases mr_in_k (x := x) hN d (su F v x) (N v) (hN v hv).1 v with i | ⟨i, -, -⟩
  · exact i.trans e1
  · exact i
def mrI (κ : Nat → β) (vs n : Nat) (R : (Nat → Int32) × Nat) : Prop := R.2 ≤ n ∧ (∀ k, k < vs → R.1 k = -1 ∨ ∃ r, r < R.2 ∧ R.1 k = nI r) ∧ (∀ k, k < n → R.1 k ≠ -1) ∧ (∀ r, r < R.2 → ∃ k, k < vs ∧ R.1 k = nI r) ∧ ∀ j k, j < vs → k < vs → R.1 j ≠ -1 → R.1 j = R.1 k → κ j = κ k
theorem mr_out_k (hN : ∀ a, a < vs → N a < vs ∧ κ (N a) = κ a) {F : Nat → Int32} (hF : ∀ k, k < vs → F k = -1) (hvs : vs ≤ 48) : ∀ n, n ≤ vs → mrI κ vs n (mr_out N vs F n)
  | 0, _ => ⟨Nat.le_refl _, fun k hk => Or.inl (hF k hk), fun k hk => absurd hk (Nat.not_lt_zero _), fun r hr => absurd hr (Nat.not_lt_zero _), fun j k hj _ h9 _ => absurd (hF j hj) h9⟩
  | n + 1, hn => by
    obtain ⟨i1, i2, i3, i4, i5⟩ := mr_out_k hN hF hvs n (by omega)
    show mrI κ vs (n + 1) (if (mr_out N vs F n).1 n = -1 then (mr_in N (nI (mr_out N vs F n).2) vs (mr_out N vs F n).1 n, (mr_out N vs F n).2 + 1) else mr_out N vs F n)
    generalize mr_out N vs F n = R at i1 i2 i3 i4 i5
    obtain ⟨L, m⟩ := R
    dsimp only at i1 i2 i3 i4 i5 ⊢
    by_cases h : L n = -1
    · rw [if_pos h]
      have hx : nI m ≠ -1 := rn_neg1 (by omega)
      have key := mr_in_k (x := nI m) hN vs L n (by omega)
      have hnv : mr_in N (nI m) vs L n n = nI m := by
        obtain ⟨d, hd⟩ : ∃ d, vs = d + 1 := ⟨vs - 1, by omega⟩
        have := mr_in_v (x := nI m) (d := d) hN (show n < vs by omega) h
        rw [← hd] at this
        exact this
      have lbl : ∀ k, k < vs → L k ≠ -1 → ∃ r, r < m ∧ L k = nI r := fun k hk h9 => (i2 k hk).resolve_left h9
      refine ⟨?_, fun k hk => ?_, fun k hk => ?_, fun r hr => ?_, fun j k hj hk h1 h2 => ?_⟩
      · show m + 1 ≤ n + 1
        omega
      · show mr_in N (nI m) vs L n k = -1 ∨ ∃ r, r < m + 1 ∧ mr_in N (nI m) vs L n k = nI r
        rcases key k with e | ⟨e, -, -⟩
        · rw [e]
          rcases i2 k hk with q | ⟨r, r1, r2⟩
          · exact Or.inl q
          · exact Or.inr ⟨r, by omega, r2⟩
        · exact Or.inr ⟨m, by omega, e⟩
      · show mr_in N (nI m) vs L n k ≠ -1
        by_cases e9 : k = n
        · rw [e9, hnv]
          exact hx
        · rcases key k with e | ⟨e, -, -⟩
          · rw [e]
            exact i3 k (by omega)
          · rw [e]
            exact hx
      · show ∃ k, k < vs ∧ mr_in N (nI m) vs L n k = nI r
        have hr : r < m + 1 := hr
        by_cases e9 : r = m
        · exact ⟨n, by omega, by rw [e9]; exact hnv⟩
        · obtain ⟨k, k1, k2⟩ := i4 r (by omega)
          refine ⟨k, k1, ?_⟩
          rcases key k with e | ⟨-, e, -⟩
          · rw [e, k2]
          · rw [k2] at e
            exact absurd e (rn_neg1 (by omega))
      · have h1 : mr_in N (nI m) vs L n j ≠ -1 := h1
        have h2 : mr_in N (nI m) vs L n j = mr_in N (nI m) vs L n k := h2
        have nom : ∀ k, k < vs → mr_in N (nI m) vs L n k = L k → L k ≠ -1 → mr_in N (nI m) vs L n k ≠ nI m := by
          intro k hk e h9 h8
          obtain ⟨r, r1, r2⟩ := lbl k hk h9
          rw [e, r2] at h8
          have := nI_inj9 (by omega) (by omega) h8
          omega
        rcases key j with e | ⟨e, e2, e3⟩
        · rcases key k with g | ⟨g, g2, g3⟩
          · rw [e] at h1 h2
            rw [g] at h2
            exact i5 j k hj hk h1 h2
          · exact absurd (h2.trans g) (nom j hj e (by rw [← e]; exact h1))
        · rcases key k with g | ⟨g, g2, g3⟩
          · have : mr_in N (nI m) vs L n k = nI m := h2.symm.trans e
            have hk9 : L k ≠ -1 := by
              rw [← g, this]
              exact hx
            exact absurd this (nom k hk g hk9)
          · exact e3.trans g3.symm
    · rw [if_neg h]
      refine ⟨?_, i2, fun k hk => ?_, i4, i5⟩
      · show m ≤ n + 1
        omega
      · by_cases e9 : k = n
        · rw [e9]
          exact h
        · exact i3 k (by omega)
end MR
def sumQ (g : Nat → Nat) : Nat → Nat
  | 0 => 0
  | n + 1 => sumQ g n + g n
theorem sumQ_add (g h : Nat → Nat) : ∀ P, sumQ (fun p => g p + h p) P = sumQ g P + sumQ h P
  | 0 => rfl
  | P + 1 => by
    show sumQ (fun p => g p + h p) P + (g P + h P) = sumQ g P + g P + (sumQ h P + h P)
    rw [sumQ_add g h P]
    omega
theorem sumQ_one (a : Nat) : ∀ P, sumQ (fun p => if decide (a = p) = true then 1 else 0) P = if a < P then 1 else 0
  | 0 => rfl
  | P + 1 => by
    show sumQ _ P + (if decide (a = P) = true then 1 else 0) = _
    rw [sumQ_one a P]
    by_cases e : a = P
    · subst e
      rw [if_neg (Nat.lt_irrefl _), if_pos (Nat.lt_succ_self _), decide_eq_true rfl]
      rfl
    · rw [decide_eq_false e]
      by_cases h : a < P
      · rw [if_pos h, if_pos (show a < P + 1 by omega)]
        rfl
      · rw [if_neg h, if_neg (show ¬ a < P + 1 by omega)]
        rfl
theorem sumQ_nF (ψ : Nat → Nat) (P : Nat) : ∀ n, (∀ f, f < n → ψ f < P) → sumQ (fun p => nF (fun f => decide (ψ f = p)) n) P = n
  | 0, _ => by
    have : ∀ P, sumQ (fun p => nF (fun f => decide (ψ f = p)) 0) P = 0 := by
      intro P
      induction P with
      | zero => rfl
      | succ P ih =>
        show sumQ _ P + 0 = 0
        rw [ih]
    exact this P
  | n + 1, h => by
    have := sumQ_add (fun p => nF (fun f => decide (ψ f = p)) n) (fun p => if decide (ψ n = p) = true then 1 else 0) P
    rw [sumQ_nF ψ P n (fun f hf => h f (by omega)), sumQ_one, if_pos (h n (by omega))] at this
    exact this
theorem sumQ_low {g : Nat → Nat} : ∀ P, (∀ q, q < P → 2 ≤ g q) → 2 * P ≤ sumQ g P
  | 0, _ => Nat.le_refl _
  | P + 1, h => by
    have h1 := sumQ_low P (fun q hq => h q (by omega))
    have h2 := h P (by omega)
    show 2 * (P + 1) ≤ sumQ g P + g P
    omega
theorem sumQ_hi {g : Nat → Nat} {p : Nat} : ∀ P, p < P → (∀ q, q < P → 2 ≤ g q) → g p + 2 * P ≤ sumQ g P + 2
  | 0, hp, _ => absurd hp (Nat.not_lt_zero _)
  | P + 1, hp, h => by
    have h2 := h P (by omega)
    show g p + 2 * (P + 1) ≤ sumQ g P + g P + 2
    by_cases e : p = P
    · subst e
      have := sumQ_low p (fun q hq => h q (by omega))
      omega
    · have := sumQ_hi P (show p < P by omega) (fun q hq => h q (by omega))
      omega
/-- no part of a plane net has more than c + 2 faces -/
theorem pt_face {ψ : Nat → Nat} {c P n p : Nat} (hψ : ∀ f, f < n → ψ f < P) (h2 : ∀ q, q < P → 2 ≤ nF (fun f => decide (ψ f = q)) n) (hn : n = c + 2 * P) (hp : p < P) : nF (fun f => decide (ψ f = p)) n ≤ c + 2 := by
  have h3 := sumQ_nF ψ P n hψ
  have h4 := sumQ_hi (g := fun p => nF (fun f => decide (ψ f = p)) n) (p := p) P hp h2
  rw [h3] at h4
  omega
end
section
/-! 99zzzzzzzzd.csgo -/
/-! the class: signature -/
theorem lst_ex {p : Nat → Prop} : ∀ n, p n → ∃ m, p m ∧ ∀ u, u < m → ¬ p u := by
  intro n
  induction n using Nat.strongRecOn with
  | ind n ih =>
    intro h
    by_cases hx : ∃ u, u < n ∧ p u
    · obtain ⟨u, u1, u2⟩ := hx
      exact ih u u1 u2
    · exact ⟨n, h, fun u hu h9 => hx ⟨u, hu, h9⟩⟩
def sgL (g : Nat) : Prop := 6003 ≤ g ∧ g ≤ 6008
/-- what the walk over the parts asks of faces and parts -/
def fpI (c n P : Nat) (M : Nat → Int32) (φ : Nat → Nat) : Prop := (∀ s, s < 4 * c → φ s < n) ∧ (∀ v, v < 2 * c → ∃ r, r < P ∧ M v = nI r) ∧ (∀ r, r < P → ∃ v, v < 2 * c ∧ M v = nI r) ∧ (∀ f, f < n → ∃ s, s < 4 * c ∧ φ s = f) ∧ (∀ s t, s < 4 * c → t < 4 * c → φ s = φ t → M (s / 2) = M (t / 2)) ∧ (∀ v, v < 2 * c → φ (2 * v) ≠ φ (2 * v + 1)) ∧ n = c + 2 * P ∧ c ≤ 12 ∧ n ≤ 48 ∧ P ≤ 24
theorem fp_psi {c n P : Nat} {M : Nat → Int32} {φ : Nat → Nat} (h : fpI c n P M φ) : ∃ ψ : Nat → Nat, (∀ f, f < n → ψ f < P) ∧ ∀ s, s < 4 * c → M (s / 2) = nI (ψ (φ s)) := by
  obtain ⟨h1, h2, h3, h4, h5, h6, h7, h8, h9, h10⟩ := h
  have hex : ∀ f, ∃ q, f < n → q < P ∧ ∀ s, s < 4 * c → φ s = f → M (s / 2) = nI q := by
    intro f
    by_cases hf : f < n
    · obtain ⟨s, s1, s2⟩ := h4 f hf
      obtain ⟨r, r1, r2⟩ := h2 (s / 2) (by omega)
      exact ⟨r, fun _ => ⟨r1, fun t t1 t2 => by rw [← r2]; exact h5 t s t1 s1 (by rw [t2, s2])⟩⟩
    · exact ⟨0, fun h9 => absurd h9 hf⟩
  exact ⟨fun f => Classical.choose (hex f), fun f hf => (Classical.choose_spec (hex f) hf).1, fun s hs => (Classical.choose_spec (hex (φ s)) (h1 s hs)).2 s hs rfl⟩
theorem fp_bound {c n P p : Nat} {M : Nat → Int32} {φ : Nat → Nat} (h : fpI c n P M φ) (hp : p < P) {z : ow_MS} (hM : ∀ v, v < 2 * c → z.2.1 4006 v = M v) : cntR z c n φ (nI p) 0 + cntR z c n φ (nI p) 1 ≤ c + 2 := by
  obtain ⟨ψ, e1, e2⟩ := fp_psi h
  obtain ⟨h1, h2, h3, h4, h5, h6, h7, h8, h9, h10⟩ := h
  have two : ∀ q, q < P → 2 ≤ nF (fun f => decide (ψ f = q)) n := by
    intro q hq
    obtain ⟨v, v1, v2⟩ := h3 q hq
    have pa : ∀ s, s < 4 * c → s / 2 = v → ψ (φ s) = q := by
      intro s hs e
      have := e2 s hs
      rw [e, v2] at this
      have hl := e1 (φ s) (h1 s hs)
      exact (nI_inj9 (by omega) (by omega) this).symm
    have n1 := nF_pos (q := fun f => decide (f = φ (2 * v))) (a := φ (2 * v)) (decide_eq_true rfl) n (h1 _ (by omega))
    have n2 := nF_pos (q := fun f => decide (f = φ (2 * v + 1))) (a := φ (2 * v + 1)) (decide_eq_true rfl) n (h1 _ (by omega))
    have := nF_two (q1 := fun f => decide (f = φ (2 * v))) (q2 := fun f => decide (f = φ (2 * v + 1))) (q := fun f => decide (ψ f = q)) (fun k hk => by
      have hk := of_decide_eq_true hk
      rw [hk]
      exact ⟨decide_eq_true (pa _ (by omega) (by omega)), decide_eq_false (h6 v v1)⟩) (fun k hk => by
      have hk := of_decide_eq_true hk
      rw [hk]
      exact decide_eq_true (pa _ (by omega) (by omega))) n
    omega
  have hf := pt_face (c := c) (p := p) e1 two h7 hp
  have seen : ∀ x k, snS φ (cdN z φ (nI p) x) (4 * c) k = true → ψ k = p ∧ z.2.1 6003 k = x := by
    intro x k hk
    obtain ⟨t, t1, t2, t3⟩ := (snS_t _).mp hk
    obtain ⟨u1, u2⟩ := of_decide_eq_true t2
    rw [hM _ (by omega), e2 t t1, t3] at u1
    have hl := e1 (φ t) (h1 t t1)
    rw [t3] at hl u2
    exact ⟨nI_inj9 (by omega) (by omega) u1, u2⟩
  refine Nat.le_trans (nF_two (q := fun f => decide (ψ f = p)) (fun k hk => ?_) (fun k hk => decide_eq_true (seen 1 k hk).1) n) hf
  obtain ⟨a, b⟩ := seen 0 k hk
  refine ⟨decide_eq_true a, ?_⟩
  cases e : snS φ (cdN z φ (nI p) 1) (4 * c) k with
  | false => rfl
  | true =>
    have := (seen 1 k e).2
    rw [b] at this
    exact absurd this (by decide)
section SO
variable {vl : Nat → Nat} {y : ow_MS} {T : ow_NT} {n P : Nat} {M : Nat → Int32} {φ : Nat → Nat}
theorem u_X4_signatureOf_1 {vl : Nat → Nat} {x2 : Int32} {x3 : Int32} {r0 : Nat} {r1 : Nat} {z : ow_MS} {Q : (Int32 × ow_MS) → Prop} (H : Tt (fun K k => cm_X4_signatureOf_1 vl K (c_X4_signatureOf vl K k) x2 x3 r0 r1 z) Q) : Tt (fun K k => c_X4_signatureOf vl K k 1 x2 x3 r0 r1 z) Q := w_un (fun _ _ => rfl) H
theorem tc_sgLoop (hy : cAt y 4000 T) (hv : vn T.1 T.2.2.1) (h11 : y.1 4011 = nI P) (h2 : y.1 6002 = nI n) (hM : ∀ v, v < 2 * T.1 → y.2.1 4006 v = M v) (hφ : ∀ s, s < 4 * T.1 → y.2.1 6001 s = nI (φ s)) (hI : fpI T.1 n P M φ) : ∀ (d p : Nat) (x : Int32) (z : ow_MS), p + d = P → fr sgL y z → (∀ s q, s < 4 * T.1 → p ≤ q → q < P → M (s / 2) = nI q → z.2.1 6003 (φ s) = -1) → Tt (fun K k => c_X4_signatureOf vl K k 1 x (nI p) 6000 4000 z) (fun r => fr sgL y r.2) := by
  have hI0 := hI
  obtain ⟨i1, i2, i3, i4, i5, i6, i7, i8, i9, i10⟩ := hI
  intro d
  induction d with
  | zero =>
    intro p x z hp hz _
    refine u_X4_signatureOf_1 ?_; unfold cm_X4_signatureOf_1
    exact w_rdF ((hz 4011 (by unfold sgL; omega)).1.trans h11) (w_leT (by omega) (by omega) (w_some hz))
  | succ d ih =>
    intro p x z hp hz hcol
    have zc : cAt z 4000 T := cAt_fr hz (fun g hg h9 => by unfold cP at hg; unfold sgL at h9; omega) hy
    have z2 : z.1 6002 = nI n := (hz 6002 (by unfold sgL; omega)).1.trans h2
    have zφ : ∀ s, s < 4 * T.1 → z.2.1 6001 s = nI (φ s) ∧ φ s < n := fun s hs => ⟨by rw [(hz 6001 (by unfold sgL; omega)).2.1]; exact hφ s hs, i1 s hs⟩
    have zM : ∀ v, v < 2 * T.1 → z.2.1 4006 v = M v := fun v hv => by rw [(hz 4006 (by unfold sgL; omega)).2.1]; exact hM v hv
    refine u_X4_signatureOf_1 ?_; unfold cm_X4_signatureOf_1
    refine w_rdF ((hz 4011 (by unfold sgL; omega)).1.trans h11) (w_leF (by omega) (by omega) (w_cs0 (tc_paint (x2 := nI p) zc.1 i8 i9 zφ) ?_))
    rintro z5 ⟨f5, o5, g5⟩
    have y5 : fr sgL y z5 := fr_tr hz (fr_mono (fun g hg => by unfold sgL; omega) f5)
    have c5 : cAt z5 4000 T := cAt_fr y5 (fun g hg h9 => by unfold cP at hg; unfold sgL at h9; omega) hy
    have t5 : z5.1 6002 = nI n := (y5 6002 (by unfold sgL; omega)).1.trans h2
    have φ5 : ∀ s, s < 4 * T.1 → z5.2.1 6001 s = nI (φ s) ∧ φ s < n := fun s hs => ⟨by rw [(y5 6001 (by unfold sgL; omega)).2.1]; exact hφ s hs, i1 s hs⟩
    have M5 : ∀ v, v < 2 * T.1 → z5.2.1 4006 v = M v := fun v hv => by rw [(y5 4006 (by unfold sgL; omega)).2.1]; exact hM v hv
    obtain ⟨v, v1, v2⟩ := i3 p (by omega)
    obtain ⟨v0, ⟨a1, a2⟩, a3⟩ := lst_ex (p := fun v => v < 2 * T.1 ∧ M v = nI p) v ⟨v1, v2⟩
    have hfs : fsV z T.1 (nI p) v0 := ⟨a1, (zM v0 a1).trans a2, fun u hu h9 => a3 u hu ⟨by omega, (zM u (by omega)).symm.trans h9⟩⟩
    obtain ⟨b0, b1⟩ := g5 v0 hfs (i6 v0 a1) (hcol (2 * v0 + 1) p (by omega) (Nat.le_refl _) (by omega) (by rw [show (2 * v0 + 1) / 2 = v0 by omega]; exact a2))
    have pos : ∀ x s, s < 4 * T.1 → s / 2 = v0 → z5.2.1 6003 (φ s) = x → 1 ≤ cntR z5 T.1 n φ (nI p) x := by
      intro x s hs e1 e2
      refine nF_pos (a := φ s) ((snS_t _).mpr ⟨s, hs, decide_eq_true ⟨?_, e2⟩, rfl⟩) n (i1 s hs)
      rw [e1, M5 v0 a1]
      exact a2
    have p0 := pos 0 (2 * v0) (by omega) (by omega) b0
    have p1 := pos 1 (2 * v0 + 1) (by omega) (by omega) b1
    have bd := fp_bound hI0 (show p < P by omega) M5
    refine w_cs1 (tc_rarer c5.1 i8 t5 i9 φ5) ?_
    rintro x3 z7 ⟨r1, f7⟩
    have y7 : fr sgL y z7 := fr_tr y5 (fr_mono (fun g hg => by unfold sgL; omega) f7)
    have c7 : cAt z7 4000 T := cAt_fr y7 (fun g hg h9 => by unfold cP at hg; unfold sgL at h9; omega) hy
    have φ7 : ∀ s, s < 4 * T.1 → z7.2.1 6001 s = nI (φ s) ∧ φ s < n := fun s hs => ⟨by rw [(y7 6001 (by unfold sgL; omega)).2.1]; exact hφ s hs, i1 s hs⟩
    have hR : 1 ≤ cntR z7 T.1 n φ (nI p) x3 ∧ cntR z7 T.1 n φ (nI p) x3 ≤ 9 := by
      rw [cntR_fr f7 (by omega) (by omega)]
      dsimp only at r1
      rcases r1 with ⟨e, h⟩ | ⟨e, h⟩
      · rw [e]
        omega
      · rw [e]
        omega
    refine w_cs1 (tc_sgPart c7 hv i8 ((y7 6002 (by unfold sgL; omega)).1.trans h2) i9 φ7 hR.1 hR.2) ?_
    rintro x4 z9 f9
    have sp : ∀ g, spP g → sgL g ∧ g ≠ 6003 := fun g hg => by
      unfold spP fcP at hg
      unfold sgL
      omega
    rw [nI_1]
    refine ih (p + 1) _ z9 (by omega) (fr_tr y7 (fr_mono (fun g hg => (sp g hg).1) f9)) (fun s q hs hq hqP hsq => ?_)
    rw [(f9 6003 (fun h9 => (sp _ h9).2 rfl)).2.1, (f7 6003 (by omega)).2.1, o5 (φ s) (fun t ht h9 h8 => ?_)]
    · exact hcol s q hs (by omega) hqP hsq
    · rw [zM _ (by omega), i5 t s ht hs h8, hsq] at h9
      have := nI_inj9 (by omega) (by omega) h9
      omega
end SO
end
section
/-! 99zzzzzzzze.csgt -/
/-! the class: signature has an answer -/
def sgP2 (g : Nat) : Prop := cQ 4000 g ∨ 6001 ≤ g ∧ g ≤ 6008
section ST
variable {vl : Nat → Nat} {y : ow_MS} {c : Nat} {S : ow_NP} {G : Nat → Int32} {w : Nat → Bool}
theorem fp_of (hv : vn c S) (hc : c ≤ 12) (hw : gaO c S w) (hp : (np_faces c S G).2 = c + 2 * (np_parts c S.1).2) : fpI c (np_faces c S G).2 (np_parts c S.1).2 (np_parts c S.1).1 (fun s => ((np_faces c S G).1 s).toNatClampNeg) ∧ ∀ s, s < 4 * c → (np_faces c S G).1 s = nI ((np_faces c S G).1 s).toNatClampNeg := by
  obtain ⟨q1, q2, q3, q4⟩ := parts_I hv hc
  have m1 : mrI (kS w) (4 * c) (4 * c) (np_faces c S G) := mr_out_k (fun a ha => ⟨fc_on_vn hv G ha, ga_on hw hv ha⟩) (fun _ _ => rfl) (by omega) (4 * c) (Nat.le_refl _)
  have hpt : ∀ a, a < 4 * c → (np_parts c S.1).1 (fc_on S G a / 2) = (np_parts c S.1).1 (a / 2) := by
    intro a ha
    have he : fc_end S.1 a < 2 * c ∧ (np_parts c S.1).1 (fc_end S.1 a) = (np_parts c S.1).1 (a / 2) := by
      unfold fc_end
      split
      · exact ⟨(hv _ (by omega)).1, (q1 _ (by omega)).1⟩
      · exact ⟨by omega, rfl⟩
    have hm := mt_lt he.1
    have em := (q1 _ he.1).2
    unfold fc_on
    split
    · rw [show 2 * mt (fc_end S.1 a) / 2 = mt (fc_end S.1 a) by omega, em, he.2]
    · rw [show (2 * S.2 (mt (fc_end S.1 a)) + 1) / 2 = S.2 (mt (fc_end S.1 a)) by omega]
      have h3 := (q1 (S.2 (mt (fc_end S.1 a))) (hv _ hm).2.1).1
      rw [(hv _ hm).2.2.2] at h3
      rw [← h3, em, he.2]
  have m2 : mrI (fun s => (np_parts c S.1).1 (s / 2)) (4 * c) (4 * c) (np_faces c S G) := mr_out_k (fun a ha => ⟨fc_on_vn hv G ha, hpt a ha⟩) (fun _ _ => rfl) (by omega) (4 * c) (Nat.le_refl _)
  obtain ⟨a1, a2, a3, a4, a5⟩ := m1
  obtain ⟨-, -, -, -, b5⟩ := m2
  have val : ∀ s, s < 4 * c → ∃ r, r < (np_faces c S G).2 ∧ (np_faces c S G).1 s = nI r ∧ ((np_faces c S G).1 s).toNatClampNeg = r := by
    intro s hs
    obtain ⟨r, r1, r2⟩ := (a2 s hs).resolve_left (a3 s hs)
    exact ⟨r, r1, r2, by rw [r2, nI_clamp (by omega)]⟩
  have inj : ∀ s t, s < 4 * c → t < 4 * c → ((np_faces c S G).1 s).toNatClampNeg = ((np_faces c S G).1 t).toNatClampNeg → (np_faces c S G).1 s = (np_faces c S G).1 t := by
    intro s t hs ht e
    obtain ⟨r, r1, r2, r3⟩ := val s hs
    obtain ⟨u, u1, u2, u3⟩ := val t ht
    rw [r2, u2, ← r3, ← u3, e]
  refine ⟨⟨fun s hs => ?_, q2, q3, fun f hf => ?_, fun s t hs ht e => ?_, fun v hv1 e => ?_, hp, hc, by omega, by omega⟩, fun s hs => ?_⟩
  · obtain ⟨r, r1, r2, r3⟩ := val s hs
    show ((np_faces c S G).1 s).toNatClampNeg < _
    rw [r3]
    exact r1
  · obtain ⟨k, k1, k2⟩ := a4 f hf
    exact ⟨k, k1, by show ((np_faces c S G).1 k).toNatClampNeg = f; rw [k2, nI_clamp (by omega)]⟩
  · exact b5 s t hs ht (a3 s hs) (inj s t hs ht e)
  · exact kS_lr v (a5 (2 * v) (2 * v + 1) (by omega) (by omega) (a3 _ (by omega)) (inj _ _ (by omega) (by omega) e))
  · obtain ⟨r, r1, r2, r3⟩ := val s hs
    rw [r3]
    exact r2
theorem e_X4_signatureOf {vl : Nat → Nat} {r0 : Nat} {r1 : Nat} {z : ow_MS} {Q : (Int32 × ow_MS) → Prop} (H : Tt (fun K k => c_X4_signatureOf vl K k 0 0 0 r0 r1 z) Q) : Te (fun K => ce_X4_signatureOf vl K r0 r1 z) Q := w_te H
theorem u_X4_signatureOf_0 {vl : Nat → Nat} {x2 : Int32} {x3 : Int32} {r0 : Nat} {r1 : Nat} {z : ow_MS} {Q : (Int32 × ow_MS) → Prop} (H : Tt (fun K k => cm_X4_signatureOf_0 vl K (c_X4_signatureOf vl K k) x2 x3 r0 r1 z) Q) : Tt (fun K k => c_X4_signatureOf vl K k 0 x2 x3 r0 r1 z) Q := w_un (fun _ _ => rfl) H
theorem tc_sgOf {ci : Nat} (hy : cAt y 4000 (c, ci, S, G)) (hb : ow_b24 S) (hv : vn c S) (hc : c ≤ 12) (hw : gaO c S w) (hp : nt_plane (c, ci, S, G) = true) : Te (fun K => ce_X4_signatureOf vl K 6000 4000 y) (fun r => fr sgP2 y r.2) := by
  have hp' : (np_faces c S G).2 = c + 2 * (np_parts c S.1).2 := of_decide_eq_true hp
  obtain ⟨hI, hval⟩ := fp_of hv hc hw hp'
  have hN : ∀ k, k < 2 * c → S.1 k < 2 * c := fun k hk => (hv k hk).1
  refine e_X4_signatureOf ?_
  refine u_X4_signatureOf_0 ?_; unfold cm_X4_signatureOf_0
  refine w_cs0 (tc_markParts nH4 hy hN hc) ?_
  rintro z1 ⟨m1, m2, m3⟩
  have q := np_parts_of (N := S.1) (c := c) hN hc (y.2.1 (4000 + 6))
  have c1 : cAt z1 4000 (c, ci, S, G) := cAt_fr m3 (fun g hg h9 => by unfold cP at hg; unfold cQ at h9; omega) hy
  refine w_cs0 (tc_faces nH4 (Or.inl rfl) (Or.inl (by omega)) c1 hb hv hc) ?_
  rintro z2 ⟨k1, k2, k3⟩
  have q2 := mr_out_rl (fun a ha => fc_on_vn hv G ha) (rl_fill (4 * c) (z1.2.1 (6000 + 1)) (-1)) (4 * c) (Nat.le_refl _)
  dsimp only at m1 m2 k1 k2
  rw [q2.2] at k2
  rw [q.2] at m2
  have hn48 := hI.2.2.2.2.2.2.2.2.1
  have k2' : z2.1 6002 = nI (np_faces c S G).2 := k2
  refine w_rdF k2' (w_cs0 (tc_fill (a := 0) (b := (np_faces c S G).2) cg_6003 (by omega) hn48 (by omega)) ?_)
  rintro z4 ⟨f4, f5⟩
  have e4 : ∀ g, g = 6001 ∨ g = 6002 ∨ g = 4011 ∨ g = 4006 → g ≠ 6003 := fun g hg => by omega
  have c4 : cAt z4 4000 (c, ci, S, G) := cAt_fr f5 (fun g hg h9 => by unfold cP at hg; omega) (cAt_fr k3 (fun g hg h9 => by unfold cP at hg; unfold cF at h9; omega) c1)
  refine w_mono (tc_sgLoop (φ := fun s => ((np_faces c S G).1 s).toNatClampNeg) (M := (np_parts c S.1).1) c4 hv ?_ ?_ ?_ ?_ hI (np_parts c S.1).2 0 0 z4 (by omega) fr_rf ?_) ?_
  · rw [(f5 4011 (by omega)).1, (k3 4011 (by unfold cF; omega)).1]
    exact m2
  · rw [(f5 6002 (by omega)).1]
    exact k2'
  · intro v hv1
    rw [(f5 4006 (by omega)).2.1, (k3 4006 (by unfold cF; omega)).2.1]
    exact (m1 v).trans (q.1 v hv1)
  · intro s hs
    rw [(f5 6001 (by omega)).2.1]
    exact ((k1 s).trans (q2.1 s hs)).trans (hval s hs)
  · intro s r hs _ _ _
    have := hI.1 s hs
    rw [f4, if_pos ⟨Nat.zero_le _, this⟩]
  · intro r hr
    exact fr_tr (fr_tr (fr_tr (fr_mono (fun g hg => Or.inl hg) m3) (fr_mono (fun g hg => Or.inr (by unfold cF at hg; omega)) k3)) (fr_mono (fun g hg => Or.inr (by omega)) f5)) (fr_mono (fun g hg => Or.inr (by unfold sgL at hg; omega)) hr)
/-- every diagram that is kept is plane -/
def plS (y : ow_MS) : Prop := ∀ d A sg c, d < 40 → slC y 1000 d (clC sg A) → okL A c → ∀ T, isoV A sg (fun x => x) T → (∀ x, x < T.1 → T.2.2.2 x ≠ 0) → nt_plane T = true
def sxP (g : Nat) : Prop := 4001 ≤ g ∧ g ≤ 4011 ∨ 6001 ≤ g ∧ g ≤ 6008
theorem e_X11_signature {vl : Nat → Nat} {r0 : Nat} {x1 : Int32} {z : ow_MS} {Q : (Nat × Int32 × ow_MS) → Prop} (H : Tt (fun K _ => cm_X11_signature_0 vl K x1 r0 z) Q) : Te (fun K => ce_X11_signature vl K r0 x1 z) Q := w_te0 H
theorem tc_signature {x : Int32} (hM : gM y) (hg : gaS y) (hpl : plS y) : Te (fun K => ce_X11_signature vl K 0 x y) (fun r => gM r.2.2 ∧ fr sxP y r.2.2 ∧ (r.1 = 0 ∧ isO y x ∨ r.1 = 1 ∧ ∀ d, d < 40 → x = nI d → y.2.1 1002 d = 0)) := by
  refine e_X11_signature ?_; unfold cm_X11_signature_0
  refine w_tc0 (tc_need hM.1.1) ?_ ?_
  · rintro y1 ⟨h1, e0⟩
    have e0 : y1 = y := e0
    rw [e0]
    rcases h1 with ⟨-, ho⟩ | h1
    · obtain ⟨d, A, sg, c, hd, rfl, hs, hA, hne⟩ := id ho
      refine w_cs0 (tc_ld3 nH4 hM.1 hd hs hA) ?_
      rintro y2 ⟨g1, g2, S, G, g3, g4⟩
      obtain ⟨j1, j2, j3, j4⟩ := g4
      have hV : isoV A sg (fun x => x) (c, cirs A, S, G) := isoV_of j2 j3
      obtain ⟨w0, hw0⟩ := hg d A sg c hd hs hA
      obtain ⟨w, hw⟩ := gaT_of hV hw0
      refine w_cs1 (tc_sgOf g3.1 g3.2.2.1.2.2.1 j3 hA.2.2.2.1 hw (hpl d A sg c hd hs hA _ hV (fun x hx => by have h7 : G x = if sg x then -1 else 1 := j4 x hx; show G x ≠ 0; rw [h7]; split <;> decide))) ?_
      rintro v z f3
      have f3 : fr sgP2 y2 z := f3
      have key : ∀ a, a ∈ nHL → 4000 ≤ a ∧ a ≤ 4000 ∨ 4012 ≤ a ∧ (a ≤ 5000 ∨ 6010 ≤ a) := by decide
      refine w_some ⟨⟨⟨dgC_fr f3 (fun g h7 h8 h9 => by unfold sgP2 cQ at h9; omega) g1.1, nsC_fr f3 (fun h' hh' g hg h9 => ?_) g1.2.1, kdC_fr f3 (fun g hg => by unfold sgP2 cQ at hg; omega) g1.2.2⟩, tbs_fr (fr_tr (fr_mono (fun g hg => Or.inl hg) g2) (fr_mono (fun g hg => Or.inr hg) f3)) (fun g (hg : cL 4000 g ∨ sgP2 g) => by unfold cL sgP2 cQ at hg; omega) hM.2⟩, fr_tr (fr_mono (fun g hg => by unfold sxP; unfold cL at hg; omega) g2) (fr_mono (fun g hg => by unfold sxP; unfold sgP2 cQ at hg; omega) f3), Or.inl ⟨rfl, ho⟩⟩
      have := key h' hh'
      unfold cP at hg
      unfold sgP2 cQ at h9
      omega
    · exact absurd (show (0 : Nat) = 1 from h1.1) (by decide)
  · rintro a y1 ha ⟨h1, e0⟩
    have e0 : y1 = y := e0
    rw [e0]
    refine w_some ⟨hM, fr_rf, ?_⟩
    rcases h1 with ⟨h9, -⟩ | h1
    · exact absurd h9 ha
    · exact Or.inr h1
end ST
end
section
/-! 99zzzzzzzzf.cga -/
/-! two kinds of visits: from nets to lists, reversed and mirrored -/
theorem gaA_of {A : rn_L} {sg : Nat → Bool} {f : Nat → Nat} {T : ow_NT} {w : Nat → Bool} (h : isoV A sg f T) (hw : gaO T.1 T.2.2.1 w) : gaA A (fun p => w (gl f p)) := by
  refine ⟨fun L hL p hp => ?_, fun x hx => ?_⟩
  · show w (gl f (sc L p)) = !w (gl f p)
    rw [← (h.2 L hL p hp).1]
    exact (hw _ (gl_lt h (List.mem_flatten.mpr ⟨L, hL, hp⟩))).1
  · show w (gl f (x, 1)) = !w (gl f (x, 0))
    rw [← gl_mt.1]
    exact (hw _ (gl_lt h hx)).2
theorem sc_rv {L : List vT} {p : vT} (hn : L.Nodup) (hp : p ∈ L) : sc L (sc L.reverse p) = p := by
  have h1 : L.reverse.Nodup := List.pairwise_reverse.mpr (hn.imp (fun h9 e => h9 e.symm))
  have h2 := sc_rev h1 (List.mem_reverse.mpr hp)
  rw [List.reverse_reverse] at h2
  exact h2
end
section
/-! 99zzzzzzzzg.cgb -/
/-! two kinds of visits: components parted and joined -/
end
section
/-! 99zzzzzzzzh.cgs -/
/-! kept diagrams stay plane where the table stays -/
end
section
/-! 99zzzzzzzzi.pmap -/
/-! labels of darts: how many values; Euler's bound; two colours -/
def pm_dv (f : Nat → Nat) (X : List Nat) : Prop := (X.map f).Nodup
def pm_mg (f : Nat → Nat) (p q : Nat) : Nat → Nat := fun d => if f d = p then q else f d
def pm_sp (f : Nat → Nat) (P : Nat → Bool) (p : Nat) : Nat → Nat := fun d => 2 * f d + (if P d = true ∧ f d = p then 1 else 0)
theorem pm_mk {f : Nat → Nat} {X : List Nat} (hn : X.Nodup) (h : ∀ x y, x ∈ X → y ∈ X → f x = f y → x = y) : pm_dv f X := nodup_map hn h
theorem pm_inj {f : Nat → Nat} : ∀ {X : List Nat}, pm_dv f X → ∀ x y, x ∈ X → y ∈ X → f x = f y → x = y
  | [], _, x, _, hx, _, _ => by cases hx
  | a :: X, h, x, y, hx, hy, e => by
    unfold pm_dv at h
    rw [List.map_cons] at h
    obtain ⟨h1, h2⟩ := List.nodup_cons.mp h
    rcases List.mem_cons.mp hx with e1 | hx1
    · rcases List.mem_cons.mp hy with e2 | hy1
      · rw [e1, e2]
      · exact absurd (List.mem_map.mpr ⟨y, hy1, by rw [← e1]; exact e.symm⟩) h1
    · rcases List.mem_cons.mp hy with e2 | hy1
      · exact absurd (List.mem_map.mpr ⟨x, hx1, by rw [← e2]; exact e⟩) h1
      · exact pm_inj h2 x y hx1 hy1 e
theorem pm_nd {f : Nat → Nat} : ∀ {X : List Nat}, pm_dv f X → X.Nodup
  | [], _ => List.nodup_nil
  | a :: X, h => by
    unfold pm_dv at h
    rw [List.map_cons] at h
    obtain ⟨h1, h2⟩ := List.nodup_cons.mp h
    exact List.nodup_cons.mpr ⟨fun h9 => h1 (List.mem_map.mpr ⟨a, h9, rfl⟩), pm_nd h2⟩
theorem pm_fil {f : Nat → Nat} {X : List Nat} (q : Nat → Bool) (h : pm_dv f X) : pm_dv f (X.filter q) := pm_mk ((pm_nd h).filter _) (fun x y hx hy e => pm_inj h x y (List.mem_filter.mp hx).1 (List.mem_filter.mp hy).1 e)
theorem pm_one {f : Nat → Nat} {X : List Nat} (h : pm_dv f X) (p : Nat) : (X.filter (fun x => decide (f x = p))).length ≤ 1 := by
  have h1 : ((X.filter (fun x => decide (f x = p))).map f).Nodup := pm_fil _ h
  have := nodup_le _ [p] h1 (fun a ha => by
    obtain ⟨x, hx, e⟩ := List.mem_map.mp ha
    have := of_decide_eq_true (List.mem_filter.mp hx).2
    rw [← e, this]
    exact List.mem_singleton.mpr rfl)
  rw [List.length_map] at this
  exact this
theorem pm_rest {f : Nat → Nat} {X : List Nat} (h : pm_dv f X) (p : Nat) : X.length ≤ (X.filter (fun x => !decide (f x = p))).length + 1 := by
  have h1 := filt_sum (fun x => decide (f x = p)) X
  have h2 := pm_one h p
  omega
theorem pm_mg_dv {f : Nat → Nat} {X : List Nat} (h : pm_dv f X) (p q : Nat) : ∃ X', (∀ x, x ∈ X' → x ∈ X) ∧ X.length ≤ X'.length + 1 ∧ pm_dv (pm_mg f p q) X' := by
  refine ⟨X.filter (fun x => !decide (f x = p)), fun x hx => (List.mem_filter.mp hx).1, pm_rest h p, ?_⟩
  have key : ∀ x, x ∈ X.filter (fun x => !decide (f x = p)) → pm_mg f p q x = f x := fun x hx => by
    have := (List.mem_filter.mp hx).2
    have h2 : ¬ f x = p := fun e => by rw [decide_eq_true e] at this; cases this
    exact if_neg h2
  refine pm_mk ((pm_nd h).filter _) (fun x y hx hy e => ?_)
  rw [key x hx, key y hy] at e
  exact pm_inj h x y (List.mem_filter.mp hx).1 (List.mem_filter.mp hy).1 e
theorem pm_sp_dv {f : Nat → Nat} {X : List Nat} {P : Nat → Bool} {a b : Nat} (h : pm_dv f X) (ha : P a = true) (hb : P b = false) (e : f a = f b) : ∃ X', (∀ x, x ∈ X' → x = a ∨ x = b ∨ x ∈ X) ∧ X.length + 1 ≤ X'.length ∧ pm_dv (pm_sp f P (f a)) X' := by
  have hr := pm_rest h (f a)
  refine ⟨a :: b :: X.filter (fun x => !decide (f x = f a)), fun x hx => ?_, by rw [List.length_cons, List.length_cons]; omega, ?_⟩
  · rcases List.mem_cons.mp hx with h9 | hx
    · exact Or.inl h9
    · rcases List.mem_cons.mp hx with h9 | hx
      · exact Or.inr (Or.inl h9)
      · exact Or.inr (Or.inr (List.mem_filter.mp hx).1)
  have ka : pm_sp f P (f a) a = 2 * f a + 1 := by
    show 2 * f a + (if P a = true ∧ f a = f a then 1 else 0) = _
    rw [if_pos ⟨ha, rfl⟩]
  have kb : pm_sp f P (f a) b = 2 * f a := by
    show 2 * f b + (if P b = true ∧ f b = f a then 1 else 0) = _
    rw [if_neg (fun h9 => by rw [hb] at h9; cases h9.1), e]
    rfl
  have kx : ∀ x, x ∈ X.filter (fun x => !decide (f x = f a)) → pm_sp f P (f a) x = 2 * f x ∧ f x ≠ f a ∧ x ∈ X := fun x hx => by
    have := (List.mem_filter.mp hx).2
    have h2 : ¬ f x = f a := fun e => by rw [decide_eq_true e] at this; cases this
    refine ⟨?_, h2, (List.mem_filter.mp hx).1⟩
    show 2 * f x + (if P x = true ∧ f x = f a then 1 else 0) = _
    rw [if_neg (fun h9 => h2 h9.2)]
    rfl
  show (pm_sp f P (f a) a :: pm_sp f P (f a) b :: (X.filter (fun x => !decide (f x = f a))).map (pm_sp f P (f a))).Nodup
  rw [ka, kb]
  refine List.nodup_cons.mpr ⟨fun h9 => ?_, List.nodup_cons.mpr ⟨fun h9 => ?_, ?_⟩⟩
  · rcases List.mem_cons.mp h9 with h8 | h8
    · omega
    · obtain ⟨x, hx, e9⟩ := List.mem_map.mp h8
      rw [(kx x hx).1] at e9
      omega
  · obtain ⟨x, hx, e9⟩ := List.mem_map.mp h9
    obtain ⟨k1, k2, -⟩ := kx x hx
    rw [k1] at e9
    exact k2 (by omega)
  · refine pm_mk ((pm_nd h).filter _) (fun x y hx hy e9 => ?_)
    obtain ⟨k1, -, k3⟩ := kx x hx
    obtain ⟨l1, -, l3⟩ := kx y hy
    rw [k1, l1] at e9
    exact pm_inj h x y k3 l3 (by omega)
/-! pairs of darts joined -/
def pm_al : List (Nat × Nat) → Nat → Nat
  | [], d => d
  | (a, b) :: E, d => if d = a then b else if d = b then a else pm_al E d
def pm_cl (X0 : Nat → Nat) : List (Nat × Nat) → Nat → Nat
  | [] => X0
  | (a, b) :: E => pm_mg (pm_cl X0 E) (pm_cl X0 E a) (pm_cl X0 E b)
def pm_ok (n : Nat) : List (Nat × Nat) → Prop
  | [] => True
  | (a, b) :: E => a < n ∧ b < n ∧ a ≠ b ∧ (∀ p : Nat × Nat, p ∈ E → p.1 ≠ a ∧ p.2 ≠ a ∧ p.1 ≠ b ∧ p.2 ≠ b) ∧ pm_ok n E
theorem pm_al_fix {d : Nat} : ∀ {E : List (Nat × Nat)}, (∀ p : Nat × Nat, p ∈ E → p.1 ≠ d ∧ p.2 ≠ d) → pm_al E d = d
  | [], _ => rfl
  | (a, b) :: E, h => by
    have h1 := h (a, b) List.mem_cons_self
    show (if d = a then b else if d = b then a else pm_al E d) = d
    rw [if_neg (fun e => h1.1 e.symm), if_neg (fun e => h1.2 e.symm)]
    exact pm_al_fix (fun p hp => h p (List.mem_cons_of_mem _ hp))
theorem pm_al_lt {n d : Nat} : ∀ {E : List (Nat × Nat)}, pm_ok n E → d < n → pm_al E d < n
  | [], _, h => h
  | (a, b) :: E, hE, h => by
    show (if d = a then b else if d = b then a else pm_al E d) < n
    split
    · exact hE.2.1
    · split
      · exact hE.1
      · exact pm_al_lt hE.2.2.2.2 h
theorem pm_al_inv {n : Nat} : ∀ {E : List (Nat × Nat)}, pm_ok n E → ∀ d, pm_al E (pm_al E d) = d
  | [], _, _ => rfl
  | (a, b) :: E, hE, d => by
    have ih := pm_al_inv hE.2.2.2.2
    have fa : pm_al E a = a := pm_al_fix (fun p hp => ⟨(hE.2.2.2.1 p hp).1, (hE.2.2.2.1 p hp).2.1⟩)
    have fb : pm_al E b = b := pm_al_fix (fun p hp => ⟨(hE.2.2.2.1 p hp).2.2.1, (hE.2.2.2.1 p hp).2.2.2⟩)
    have u : ∀ d, pm_al ((a, b) :: E) d = if d = a then b else if d = b then a else pm_al E d := fun _ => rfl
    by_cases h1 : d = a
    · rw [u d, if_pos h1, u b, if_neg (fun e => hE.2.2.1 e.symm), if_pos rfl, h1]
    · by_cases h2 : d = b
      · rw [u d, if_neg h1, if_pos h2, u a, if_pos rfl, h2]
      · rw [u d, if_neg h1, if_neg h2, u _, if_neg (fun e => h1 ?_), if_neg (fun e => h2 ?_), ih d]
        · rw [← ih d, e, fb]
        · rw [← ih d, e, fa]
theorem pm_mg_e {f : Nat → Nat} {p q x y : Nat} (h : f x = f y) : pm_mg f p q x = pm_mg f p q y := by
  unfold pm_mg
  rw [h]
theorem pm_mg_m {f : Nat → Nat} {a b : Nat} : pm_mg f (f a) (f b) a = pm_mg f (f a) (f b) b := by
  unfold pm_mg
  rw [if_pos rfl]
  split <;> rfl
/-- a map of darts about crossings: at most K rounds, a label X0 with K values -/
def pm_rs (n K : Nat) (rot X0 : Nat → Nat) : Prop := (∀ d, d < n → rot d < n) ∧ (∀ d e, d < n → e < n → rot d = rot e → d = e) ∧ (∀ d, d < n → X0 (rot d) = X0 d) ∧ (∀ f : Nat → Nat, (∀ d, d < n → f (rot d) = f d) → ∀ X : List Nat, (∀ x, x ∈ X → x < n) → pm_dv f X → X.length ≤ K) ∧ ∃ Y : List Nat, (∀ x, x ∈ Y → x < n) ∧ pm_dv X0 Y ∧ K ≤ Y.length
section PME
variable {n K : Nat} {rot X0 : Nat → Nat}
theorem pm_cl_rot (hr : pm_rs n K rot X0) : ∀ {E : List (Nat × Nat)} {d : Nat}, d < n → pm_cl X0 E (rot d) = pm_cl X0 E d
  | [], d, h => hr.2.2.1 d h
  | (a, b) :: E, d, h => pm_mg_e (pm_cl_rot hr h)
theorem pm_cl_al : ∀ {E : List (Nat × Nat)} {d : Nat}, pm_cl X0 E (pm_al E d) = pm_cl X0 E d
  | [], d => rfl
  | (a, b) :: E, d => by
    show pm_mg (pm_cl X0 E) (pm_cl X0 E a) (pm_cl X0 E b) (if d = a then b else if d = b then a else pm_al E d) = pm_mg (pm_cl X0 E) (pm_cl X0 E a) (pm_cl X0 E b) d
    by_cases h1 : d = a
    · rw [if_pos h1, h1]
      exact pm_mg_m.symm
    · rw [if_neg h1]
      by_cases h2 : d = b
      · rw [if_pos h2, h2]
        exact pm_mg_m
      · rw [if_neg h2]
        exact pm_mg_e pm_cl_al
theorem pm_ph_lt (hr : pm_rs n K rot X0) {E : List (Nat × Nat)} (hE : pm_ok n E) {d : Nat} (h : d < n) : rot (pm_al E d) < n := hr.1 _ (pm_al_lt hE h)
theorem pm_ph_inj (hr : pm_rs n K rot X0) {E : List (Nat × Nat)} (hE : pm_ok n E) {d e : Nat} (h : d < n) (h2 : e < n) (q : rot (pm_al E d) = rot (pm_al E e)) : d = e := by
  have := hr.2.1 _ _ (pm_al_lt hE h) (pm_al_lt hE h2) q
  rw [← pm_al_inv hE d, this, pm_al_inv hE e]
theorem pm_eul (hr : pm_rs n K rot X0) : ∀ (E : List (Nat × Nat)), pm_ok n E → ∀ f : Nat → Nat, (∀ d, d < n → f (rot (pm_al E d)) = f d) → ∀ X : List Nat, (∀ x, x ∈ X → x < n) → pm_dv f X → ∃ Y : List Nat, (∀ x, x ∈ Y → x < n) ∧ pm_dv (pm_cl X0 E) Y ∧ X.length + K ≤ E.length + 2 * Y.length
  | [], _, f, hf, X, hX, hv => by
    obtain ⟨Y, y1, y2, y3⟩ := hr.2.2.2.2
    have := hr.2.2.2.1 f hf X hX hv
    refine ⟨Y, y1, y2, ?_⟩
    rw [List.length_nil]
    omega
  | (a, b) :: E, hE, f, hf, X, hX, hv => by
    obtain ⟨ha, hb, hab, hd, hE'⟩ := hE
    have fa : pm_al E a = a := pm_al_fix (fun p hp => ⟨(hd p hp).1, (hd p hp).2.1⟩)
    have fb : pm_al E b = b := pm_al_fix (fun p hp => ⟨(hd p hp).2.2.1, (hd p hp).2.2.2⟩)
    have qa : rot (pm_al ((a, b) :: E) a) = rot (pm_al E b) := by
      rw [fb]
      show rot (if a = a then b else _) = rot b
      rw [if_pos rfl]
    have qb : rot (pm_al ((a, b) :: E) b) = rot (pm_al E a) := by
      rw [fa]
      show rot (if b = a then b else if b = b then a else _) = rot a
      rw [if_neg (fun e => hab e.symm), if_pos rfl]
    have qo : ∀ s, s ≠ a → s ≠ b → rot (pm_al ((a, b) :: E) s) = rot (pm_al E s) := fun s h1 h2 => by
      show rot (if s = a then b else if s = b then a else pm_al E s) = _
      rw [if_neg h1, if_neg h2]
    by_cases hc : pm_cl X0 E a = pm_cl X0 E b
    · have hf3 : ∀ d, d < n → pm_mg f (f a) (f b) (rot (pm_al E d)) = pm_mg f (f a) (f b) d := fun d h => by
        by_cases h1 : d = a
        · rw [h1, ← qb, pm_mg_e (hf b hb)]
          exact pm_mg_m.symm
        · by_cases h2 : d = b
          · rw [h2, ← qa, pm_mg_e (hf a ha)]
            exact pm_mg_m
          · rw [← qo d h1 h2]
            exact pm_mg_e (hf d h)
      obtain ⟨X3, x1, x2, x3⟩ := pm_mg_dv hv (f a) (f b)
      obtain ⟨Y, y1, y2, y3⟩ := pm_eul hr E hE' _ hf3 X3 (fun x hx => hX x (x1 x hx)) x3
      refine ⟨Y, y1, pm_mk (pm_nd y2) (fun x y hx hy e => pm_inj y2 x y hx hy ?_), by rw [List.length_cons]; omega⟩
      have ec : ∀ d, pm_cl X0 ((a, b) :: E) d = pm_cl X0 E d := fun d => by
        show (if pm_cl X0 E d = pm_cl X0 E a then pm_cl X0 E b else pm_cl X0 E d) = _
        split
        · rename_i h9
          rw [h9, hc]
        · rfl
      rw [ec, ec] at e
      exact e
    · obtain ⟨u1, u2⟩ := untw (D := fun s => s < n) (N := n) (a := a) (b := b) (p := fun s => rot (pm_al E s)) (q := fun s => rot (pm_al ((a, b) :: E) s)) (L := f) (C := pm_cl X0 E) (fun s hs => hs) (fun s hs => pm_ph_lt hr hE' hs) (fun s t hs ht e => pm_ph_inj hr hE' hs ht e) ha hb qo qa qb (fun s hs => (pm_cl_rot hr (pm_al_lt hE' hs)).trans pm_cl_al) hc hf
      obtain ⟨X2, x1, x2, x3⟩ := pm_sp_dv (P := fun d => decide (pm_cl X0 E d = pm_cl X0 E a)) (a := a) (b := b) hv (decide_eq_true rfl) (decide_eq_false (fun e => hc e.symm)) u1
      have hf2 : ∀ d, d < n → pm_sp f (fun d => decide (pm_cl X0 E d = pm_cl X0 E a)) (f a) (rot (pm_al E d)) = pm_sp f (fun d => decide (pm_cl X0 E d = pm_cl X0 E a)) (f a) d := fun d h => by
        have e1 : pm_cl X0 E (rot (pm_al E d)) = pm_cl X0 E d := (pm_cl_rot hr (pm_al_lt hE' h)).trans pm_cl_al
        have e2 := u2 d h
        unfold pm_sp
        dsimp only at e2 ⊢
        simp only [e1, e2]
      obtain ⟨Y, y1, y2, y3⟩ := pm_eul hr E hE' _ hf2 X2 (fun x hx => by
        rcases x1 x hx with rfl | rfl | h9
        · exact ha
        · exact hb
        · exact hX x h9) x3
      obtain ⟨Y2, z1, z2, z3⟩ := pm_mg_dv y2 (pm_cl X0 E a) (pm_cl X0 E b)
      exact ⟨Y2, fun x hx => y1 x (z1 x hx), z3, by rw [List.length_cons]; omega⟩
end PME
/-! parts -/
def pm_cn (n : Nat) (rot al : Nat → Nat) (a d : Nat) : Prop := ∀ P : Nat → Prop, P a → (∀ e, e < n → P e → P (rot e)) → (∀ e, e < n → P e → P (al e)) → P d
section PMC
variable {n K : Nat} {rot X0 al : Nat → Nat}
theorem cn_rf (a : Nat) : pm_cn n rot al a a := fun _ h _ _ => h
theorem cn_tr {a b d : Nat} (h : pm_cn n rot al a b) (h2 : pm_cn n rot al b d) : pm_cn n rot al a d := fun P h0 h3 h4 => h2 P (h P h0 h3 h4) h3 h4
theorem cn_r {a d : Nat} (hd : d < n) (h : pm_cn n rot al a d) : pm_cn n rot al a (rot d) := fun P h0 h3 h4 => h3 d hd (h P h0 h3 h4)
theorem cn_a {a d : Nat} (hd : d < n) (h : pm_cn n rot al a d) : pm_cn n rot al a (al d) := fun P h0 h3 h4 => h4 d hd (h P h0 h3 h4)
theorem cn_lab {g : Nat → Nat} (h1 : ∀ d, d < n → g (rot d) = g d) (h2 : ∀ d, d < n → g (al d) = g d) {a d : Nat} (h : pm_cn n rot al a d) : g d = g a := h (fun e => g e = g a) rfl (fun e he hp => (h1 e he).trans hp) (fun e he hp => (h2 e he).trans hp)
theorem cn_sy (hr : ∀ d, d < n → rot d < n) (hi : ∀ d e, d < n → e < n → rot d = rot e → d = e) (ha : ∀ d, d < n → al d < n) (hai : ∀ d, al (al d) = d) {a d : Nat} (h0 : a < n) (h : pm_cn n rot al a d) : pm_cn n rot al d a := by
  have key := h (fun e => e < n ∧ pm_cn n rot al e a) ⟨h0, cn_rf a⟩ (fun e he hp => ⟨hr e he, cn_tr ?_ hp.2⟩) (fun e he hp => ⟨ha e he, cn_tr ?_ hp.2⟩)
  · exact key.2
  · obtain ⟨k, hk⟩ := itf_back (f := rot) (D := fun s => s < n) (N := n) (fun s hs => hs) hr (fun s t hs ht => hi s t hs ht) he
    have up : ∀ j, pm_cn n rot al (rot e) (itf rot (j + 1) e) := by
      intro j
      induction j with
      | zero => exact cn_rf _
      | succ j ih => exact cn_r (itf_in (D := fun s => s < n) hr he (j + 1)) ih
    have := up k
    rw [hk] at this
    exact this
  · have := cn_a (rot := rot) (al := al) (ha e he) (cn_rf (n := n) (al e))
    rw [hai e] at this
    exact this
/-- every dart is joined to one of R -/
def pm_cv (n : Nat) (rot al : Nat → Nat) (R : List Nat) : Prop := ∀ d, d < n → ∃ r, r ∈ R ∧ r < n ∧ pm_cn n rot al r d
theorem pm_cv_le {R : List Nat} {g : Nat → Nat} (hR : pm_cv n rot al R) (h1 : ∀ d, d < n → g (rot d) = g d) (h2 : ∀ d, d < n → g (al d) = g d) {Y : List Nat} (hY : ∀ x, x ∈ Y → x < n) (hv : pm_dv g Y) : Y.length ≤ R.length := by
  have := nodup_le (Y.map g) (R.map g) hv (fun a ha => by
    obtain ⟨y, hy, e⟩ := List.mem_map.mp ha
    obtain ⟨r, r1, -, r2⟩ := hR y (hY y hy)
    rw [← e, cn_lab h1 h2 r2]
    exact List.mem_map.mpr ⟨r, r1, rfl⟩)
  rw [List.length_map, List.length_map] at this
  exact this
theorem pm_euler (hr : pm_rs n K rot X0) {E : List (Nat × Nat)} (hE : pm_ok n E) {R : List Nat} (hR : pm_cv n rot (pm_al E) R) {f : Nat → Nat} (hf : ∀ d, d < n → f (rot (pm_al E d)) = f d) {X : List Nat} (hX : ∀ x, x ∈ X → x < n) (hv : pm_dv f X) : X.length + K ≤ E.length + 2 * R.length := by
  obtain ⟨Y, y1, y2, y3⟩ := pm_eul hr E hE f hf X hX hv
  have := pm_cv_le hR (fun d hd => pm_cl_rot hr hd) (fun d hd => pm_cl_al) y1 y2
  omega
end PMC
end
section
/-! 99zzzzzzzzj.pdbl -/
/-! two colours: the map of darts twice over -/
def pm_e2 : List (Nat × Nat) → List (Nat × Nat)
  | [] => []
  | (a, b) :: E => (2 * a, 2 * b + 1) :: (2 * a + 1, 2 * b) :: pm_e2 E
def pm_r2 (rot : Nat → Nat) (s : Nat) : Nat := 2 * rot (s / 2) + (1 - s % 2)
theorem pm_e2_len : ∀ E : List (Nat × Nat), (pm_e2 E).length = 2 * E.length
  | [] => rfl
  | (a, b) :: E => by
    show (pm_e2 E).length + 1 + 1 = 2 * (E.length + 1)
    have := pm_e2_len E
    omega
theorem pm_e2_in {p : Nat × Nat} : ∀ {E : List (Nat × Nat)}, p ∈ pm_e2 E → ∃ q, q ∈ E ∧ p.1 / 2 = q.1 ∧ p.2 / 2 = q.2
  | [], h => by cases h
  | (a, b) :: E, h => by
    rcases List.mem_cons.mp h with h9 | h9
    · exact ⟨(a, b), List.mem_cons_self, by rw [h9]; show 2 * a / 2 = a; omega, by rw [h9]; show (2 * b + 1) / 2 = b; omega⟩
    · rcases List.mem_cons.mp h9 with h8 | h8
      · exact ⟨(a, b), List.mem_cons_self, by rw [h8]; show (2 * a + 1) / 2 = a; omega, by rw [h8]; show 2 * b / 2 = b; omega⟩
      · obtain ⟨q, q1, q2⟩ := pm_e2_in h8
        exact ⟨q, List.mem_cons_of_mem _ q1, q2⟩
theorem pm_ok2 {n : Nat} : ∀ {E : List (Nat × Nat)}, pm_ok n E → pm_ok (2 * n) (pm_e2 E)
  | [], _ => trivial
  | (a, b) :: E, ⟨h1, h2, h3, h4, h5⟩ => by
    have far : ∀ p : Nat × Nat, p ∈ pm_e2 E → p.1 / 2 ≠ a ∧ p.2 / 2 ≠ a ∧ p.1 / 2 ≠ b ∧ p.2 / 2 ≠ b := fun p hp => by
      obtain ⟨q, q1, q2, q3⟩ := pm_e2_in hp
      have := h4 q q1
      rw [q2, q3]
      exact this
    refine ⟨by omega, by omega, by omega, fun p hp => ?_, by omega, by omega, by omega, fun p hp => ?_, pm_ok2 h5⟩
    · rcases List.mem_cons.mp hp with h9 | h9
      · rw [h9]
        show 2 * a + 1 ≠ 2 * a ∧ 2 * b ≠ 2 * a ∧ 2 * a + 1 ≠ 2 * b + 1 ∧ 2 * b ≠ 2 * b + 1
        omega
      · have := far p h9
        omega
    · have := far p hp
      omega
theorem pm_al2 {n : Nat} : ∀ {E : List (Nat × Nat)}, pm_ok n E → ∀ s, pm_al E (s / 2) ≠ s / 2 → pm_al (pm_e2 E) s = 2 * pm_al E (s / 2) + (1 - s % 2)
  | [], _, s, h => absurd rfl h
  | (a, b) :: E, ⟨h1, h2, h3, h4, h5⟩, s, h => by
    have u : pm_al ((a, b) :: E) (s / 2) = if s / 2 = a then b else if s / 2 = b then a else pm_al E (s / 2) := rfl
    show (if s = 2 * a then 2 * b + 1 else if s = 2 * b + 1 then 2 * a else if s = 2 * a + 1 then 2 * b else if s = 2 * b then 2 * a + 1 else pm_al (pm_e2 E) s) = _
    rw [u] at h ⊢
    by_cases ea : s / 2 = a
    · rw [if_pos ea]
      by_cases e0 : s % 2 = 0
      · rw [if_pos (by omega)]
        omega
      · rw [if_neg (by omega), if_neg (by omega), if_pos (by omega)]
        omega
    · rw [if_neg ea] at h ⊢
      by_cases eb : s / 2 = b
      · rw [if_pos eb]
        by_cases e0 : s % 2 = 0
        · rw [if_neg (by omega), if_neg (by omega), if_neg (by omega), if_pos (by omega)]
          omega
        · rw [if_neg (by omega), if_pos (by omega)]
          omega
      · rw [if_neg eb] at h ⊢
        rw [if_neg (by omega), if_neg (by omega), if_neg (by omega), if_neg (by omega)]
        exact pm_al2 h5 s h
/-- each element twice -/
def pm_tw (X : List Nat) : List Nat := X.map (fun x => 2 * x) ++ X.map (fun x => 2 * x + 1)
theorem pm_tw_len (X : List Nat) : (pm_tw X).length = 2 * X.length := by
  unfold pm_tw
  rw [List.length_append, List.length_map, List.length_map]
  omega
theorem pm_tw_in {X : List Nat} {s : Nat} : s ∈ pm_tw X ↔ s / 2 ∈ X := by
  unfold pm_tw
  rw [List.mem_append, List.mem_map, List.mem_map]
  constructor
  · rintro (⟨x, hx, e⟩ | ⟨x, hx, e⟩)
    · rw [show s / 2 = x by omega]; exact hx
    · rw [show s / 2 = x by omega]; exact hx
  · intro h
    by_cases e : s % 2 = 0
    · exact Or.inl ⟨_, h, by omega⟩
    · exact Or.inr ⟨_, h, by omega⟩
theorem pm_tw_nd {X : List Nat} (h : X.Nodup) : (pm_tw X).Nodup := by
  unfold pm_tw
  refine List.nodup_append.mpr ⟨nodup_map h (fun a b _ _ e => by omega), nodup_map h (fun a b _ _ e => by omega), fun a ha b hb e => ?_⟩
  obtain ⟨x, -, e1⟩ := List.mem_map.mp ha
  obtain ⟨y, -, e2⟩ := List.mem_map.mp hb
  omega
section PD
variable {n K : Nat} {rot X0 k0 : Nat → Nat}
theorem pm_rs2 (hr : pm_rs n K rot X0) (hk : ∀ d, d < n → k0 d < 2 ∧ k0 (rot d) = 1 - k0 d) : pm_rs (2 * n) (2 * K) (pm_r2 rot) (fun s => 2 * X0 (s / 2) + (if s % 2 = k0 (s / 2) then 0 else 1)) := by
  have q2 : ∀ s, pm_r2 rot s / 2 = rot (s / 2) := fun s => by unfold pm_r2; omega
  have m2 : ∀ s, pm_r2 rot s % 2 = 1 - s % 2 := fun s => by unfold pm_r2; omega
  refine ⟨fun s hs => ?_, fun s t hs ht e => ?_, fun s hs => ?_, fun g hg X hX hv => ?_, ?_⟩
  · have := hr.1 (s / 2) (by omega)
    unfold pm_r2
    omega
  · have e1 : pm_r2 rot s / 2 = pm_r2 rot t / 2 := by rw [e]
    have e2 : pm_r2 rot s % 2 = pm_r2 rot t % 2 := by rw [e]
    rw [q2, q2] at e1
    rw [m2, m2] at e2
    have := hr.2.1 _ _ (by omega) (by omega) e1
    omega
  · dsimp only
    have h1 := hk (s / 2) (by omega)
    rw [q2, m2, hr.2.2.1 _ (by omega), h1.2]
    by_cases e : s % 2 = k0 (s / 2)
    · rw [if_pos e, if_pos (by omega)]
    · rw [if_neg e, if_neg (by omega)]
  · have inv : ∀ d e, d < n → e < 2 → g (2 * rot d + (1 - e)) = g (2 * d + e) := fun d e hd he => by
      have := hg (2 * d + e) (by omega)
      unfold pm_r2 at this
      rw [show (2 * d + e) / 2 = d by omega, show (2 * d + e) % 2 = e by omega] at this
      exact this
    have b0 := hr.2.2.2.1 (fun d => g (2 * d + k0 d)) (fun d hd => by
      rw [(hk d hd).2]
      exact inv d _ hd (hk d hd).1) ((X.filter (fun s => decide (s % 2 = k0 (s / 2)))).map (fun s => s / 2)) (fun x hx => by
      obtain ⟨s, hs, e⟩ := List.mem_map.mp hx
      have := hX s (List.mem_filter.mp hs).1
      omega) (by
      have e1 : ((X.filter (fun s => decide (s % 2 = k0 (s / 2)))).map (fun s => s / 2)).map (fun d => g (2 * d + k0 d)) = (X.filter (fun s => decide (s % 2 = k0 (s / 2)))).map g := by
        rw [List.map_map]
        refine List.map_congr_left (fun s hs => ?_)
        have := of_decide_eq_true (List.mem_filter.mp hs).2
        show g (2 * (s / 2) + k0 (s / 2)) = g s
        rw [← this]
        congr 1
        omega
      unfold pm_dv
      rw [e1]
      exact pm_fil _ hv)
    have b1 := hr.2.2.2.1 (fun d => g (2 * d + (1 - k0 d))) (fun d hd => by
      rw [(hk d hd).2]
      exact inv d _ hd (by omega)) ((X.filter (fun s => !decide (s % 2 = k0 (s / 2)))).map (fun s => s / 2)) (fun x hx => by
      obtain ⟨s, hs, e⟩ := List.mem_map.mp hx
      have := hX s (List.mem_filter.mp hs).1
      omega) (by
      have e1 : ((X.filter (fun s => !decide (s % 2 = k0 (s / 2)))).map (fun s => s / 2)).map (fun d => g (2 * d + (1 - k0 d))) = (X.filter (fun s => !decide (s % 2 = k0 (s / 2)))).map g := by
        rw [List.map_map]
        refine List.map_congr_left (fun s hs => ?_)
        have h1 := (List.mem_filter.mp hs).2
        have h2 : ¬ s % 2 = k0 (s / 2) := fun e => by rw [decide_eq_true e] at h1; cases h1
        have h3 := hX s (List.mem_filter.mp hs).1
        have h4 := (hk (s / 2) (by omega)).1
        show g (2 * (s / 2) + (1 - k0 (s / 2))) = g s
        congr 1
        omega
      unfold pm_dv
      rw [e1]
      exact pm_fil _ hv)
    have h3 := filt_sum (fun s => decide (s % 2 = k0 (s / 2))) X
    rw [List.length_map] at b0 b1
    omega
  · obtain ⟨Y, y1, y2, y3⟩ := hr.2.2.2.2
    refine ⟨pm_tw Y, fun x hx => ?_, pm_mk (pm_tw_nd (pm_nd y2)) (fun s t hs ht e => ?_), by rw [pm_tw_len]; omega⟩
    · have := y1 _ (pm_tw_in.mp hx)
      omega
    · have hs := pm_tw_in.mp hs
      have ht := pm_tw_in.mp ht
      have k1 := (hk _ (y1 _ hs)).1
      have k2 := (hk _ (y1 _ ht)).1
      have e1 : X0 (s / 2) = X0 (t / 2) := by
        split at e <;> split at e <;> omega
      have e2 := pm_inj y2 _ _ hs ht e1
      rw [e1, e2] at e
      rw [e2] at k1
      by_cases c1 : s % 2 = k0 (t / 2)
      · by_cases c2 : t % 2 = k0 (t / 2)
        · omega
        · rw [if_pos c1, if_neg c2] at e
          omega
      · by_cases c2 : t % 2 = k0 (t / 2)
        · rw [if_neg c1, if_pos c2] at e
          omega
        · omega
variable {E : List (Nat × Nat)} {R : List Nat}
theorem pm_r2_at {d e : Nat} (he : e < 2) : pm_r2 rot (2 * d + e) = 2 * rot d + (1 - e) := by
  unfold pm_r2
  rw [show (2 * d + e) / 2 = d by omega, show (2 * d + e) % 2 = e by omega]
theorem pm_al2_at (hE : pm_ok n E) {d e : Nat} (he : e < 2) (hd : pm_al E d ≠ d) : pm_al (pm_e2 E) (2 * d + e) = 2 * pm_al E d + (1 - e) := by
  have := pm_al2 hE (2 * d + e) (by rw [show (2 * d + e) / 2 = d by omega]; exact hd)
  rw [show (2 * d + e) / 2 = d by omega, show (2 * d + e) % 2 = e by omega] at this
  exact this
/-- a way of darts is a way of either copy -/
theorem cn_lift (hr : pm_rs n K rot X0) (hE : pm_ok n E) (hc : ∀ d, d < n → pm_al E d ≠ d) {r d : Nat} (h0 : r < n) (h : pm_cn n rot (pm_al E) r d) : ∃ e, e < 2 ∧ pm_cn (2 * n) (pm_r2 rot) (pm_al (pm_e2 E)) (2 * r) (2 * d + e) ∧ pm_cn (2 * n) (pm_r2 rot) (pm_al (pm_e2 E)) (2 * r + 1) (2 * d + (1 - e)) := by
  refine (h (fun d => d < n ∧ ∃ e, e < 2 ∧ pm_cn (2 * n) (pm_r2 rot) (pm_al (pm_e2 E)) (2 * r) (2 * d + e) ∧ pm_cn (2 * n) (pm_r2 rot) (pm_al (pm_e2 E)) (2 * r + 1) (2 * d + (1 - e))) ⟨h0, 0, by omega, cn_rf _, cn_rf _⟩ (fun d hd hp => ?_) (fun d hd hp => ?_)).2
  · obtain ⟨-, e, e1, e2, e3⟩ := hp
    refine ⟨hr.1 d hd, 1 - e, by omega, ?_, ?_⟩
    · have := cn_r (by omega) e2
      rw [pm_r2_at e1] at this
      exact this
    · have := cn_r (by omega) e3
      rw [pm_r2_at (by omega)] at this
      exact this
  · obtain ⟨-, e, e1, e2, e3⟩ := hp
    refine ⟨pm_al_lt hE hd, 1 - e, by omega, ?_, ?_⟩
    · have := cn_a (by omega) e2
      rw [pm_al2_at hE e1 (hc d hd)] at this
      exact this
    · have := cn_a (by omega) e3
      rw [pm_al2_at hE (by omega) (hc d hd)] at this
      exact this
/-- no dart is joined to its copy, where the faces are as many as can be -/
theorem pm_nocp (hr : pm_rs n K rot X0) (hk : ∀ d, d < n → k0 d < 2 ∧ k0 (rot d) = 1 - k0 d) (hE : pm_ok n E) (hc : ∀ d, d < n → pm_al E d ≠ d) (hR : pm_cv n rot (pm_al E) R) {f : Nat → Nat} (hf : ∀ d, d < n → f (rot (pm_al E d)) = f d) {X : List Nat} (hX : ∀ x, x ∈ X → x < n) (hv : pm_dv f X) (hpl : E.length + 2 * R.length ≤ X.length + K) {d : Nat} (hd : d < n) : ¬ pm_cn (2 * n) (pm_r2 rot) (pm_al (pm_e2 E)) (2 * d) (2 * d + 1) := by
  intro hcn
  have hr2 := pm_rs2 hr hk
  have hE2 := pm_ok2 hE
  have sy : ∀ {a b : Nat}, a < 2 * n → pm_cn (2 * n) (pm_r2 rot) (pm_al (pm_e2 E)) a b → pm_cn (2 * n) (pm_r2 rot) (pm_al (pm_e2 E)) b a := fun h1 h2 => cn_sy hr2.1 hr2.2.1 (fun s hs => pm_al_lt hE2 hs) (pm_al_inv hE2) h1 h2
  obtain ⟨r, r1, r2, r3⟩ := hR d hd
  have hrr : pm_cn (2 * n) (pm_r2 rot) (pm_al (pm_e2 E)) (2 * r) (2 * r + 1) := by
    obtain ⟨e, e1, e2, e3⟩ := cn_lift hr hE hc r2 r3
    have e4 := sy (by omega) e3
    rcases (show e = 0 ∨ e = 1 by omega) with rfl | rfl
    · exact cn_tr e2 (cn_tr hcn e4)
    · exact cn_tr e2 (cn_tr (sy (by omega) hcn) e4)
  have hR2 : pm_cv (2 * n) (pm_r2 rot) (pm_al (pm_e2 E)) (R.map (fun x => 2 * x) ++ (R.erase r).map (fun x => 2 * x + 1)) := by
    intro s hs
    obtain ⟨q, q1, q2, q3⟩ := hR (s / 2) (by omega)
    obtain ⟨e, e1, e2, e3⟩ := cn_lift hr hE hc q2 q3
    have m0 : 2 * q ∈ R.map (fun x => 2 * x) ++ (R.erase r).map (fun x => 2 * x + 1) := List.mem_append_left _ (List.mem_map.mpr ⟨q, q1, rfl⟩)
    by_cases es : s % 2 = e
    · refine ⟨2 * q, m0, by omega, ?_⟩
      rw [show s = 2 * (s / 2) + e by omega]
      exact e2
    · have e5 : s = 2 * (s / 2) + (1 - e) := by omega
      by_cases eq : q = r
      · refine ⟨2 * q, m0, by omega, ?_⟩
        rw [e5, eq]
        rw [eq] at e3
        exact cn_tr hrr e3
      · refine ⟨2 * q + 1, List.mem_append_right _ (List.mem_map.mpr ⟨q, (List.mem_erase_of_ne eq).mpr q1, rfl⟩), by omega, ?_⟩
        rw [e5]
        exact e3
  have hl := List.length_erase_of_mem r1
  have hpos : 0 < R.length := List.length_pos_of_mem r1
  have := pm_euler hr2 hE2 hR2 (f := fun s => 2 * f (s / 2) + s % 2) (fun s hs => by
    have c1 := hc (s / 2) (by omega)
    rw [pm_al2 hE s c1, pm_r2_at (by omega), show (2 * rot (pm_al E (s / 2)) + (1 - (1 - s % 2))) / 2 = rot (pm_al E (s / 2)) by omega, show (2 * rot (pm_al E (s / 2)) + (1 - (1 - s % 2))) % 2 = s % 2 by omega, hf _ (by omega)]) (X := pm_tw X) (fun x hx => by
    have := hX _ (pm_tw_in.mp hx)
    omega) (pm_mk (pm_tw_nd (pm_nd hv)) (fun s t hs ht e => by
    have := pm_inj hv _ _ (pm_tw_in.mp hs) (pm_tw_in.mp ht) (by omega)
    omega))
  rw [pm_tw_len, pm_e2_len, List.length_append, List.length_map, List.length_map, hl] at this
  omega
noncomputable def pm_rep (n : Nat) (rot al : Nat → Nat) (R : List Nat) (d : Nat) : Nat := (R.filter (fun r => @decide (r < n ∧ pm_cn n rot al r d) (Classical.propDecidable _))).headD 0
theorem pm_rep_in {al : Nat → Nat} {d : Nat} (h : ∃ r, r ∈ R ∧ r < n ∧ pm_cn n rot al r d) : pm_rep n rot al R d < n ∧ pm_cn n rot al (pm_rep n rot al R d) d := by
  obtain ⟨r, h1, h2⟩ := h
  have hm : r ∈ R.filter (fun r => @decide (r < n ∧ pm_cn n rot al r d) (Classical.propDecidable _)) := List.mem_filter.mpr ⟨h1, @decide_eq_true _ (Classical.propDecidable _) h2⟩
  unfold pm_rep
  generalize hL : R.filter (fun r => @decide (r < n ∧ pm_cn n rot al r d) (Classical.propDecidable _)) = L at *
  match L, hm with
  | q :: L, _ =>
    have : q ∈ R.filter (fun r => @decide (r < n ∧ pm_cn n rot al r d) (Classical.propDecidable _)) := by rw [hL]; exact List.mem_cons_self
    exact @of_decide_eq_true _ (Classical.propDecidable _) (List.mem_filter.mp this).2
theorem pm_rep_eq {al : Nat → Nat} {d d' : Nat} (h : ∀ r, r < n → (pm_cn n rot al r d ↔ pm_cn n rot al r d')) : pm_rep n rot al R d = pm_rep n rot al R d' := by
  unfold pm_rep
  congr 2
  funext r
  by_cases h1 : r < n ∧ pm_cn n rot al r d
  · rw [@decide_eq_true _ (Classical.propDecidable _) h1, @decide_eq_true _ (Classical.propDecidable _) ⟨h1.1, (h r h1.1).mp h1.2⟩]
  · rw [@decide_eq_false _ (Classical.propDecidable _) h1, @decide_eq_false _ (Classical.propDecidable _) (fun h9 => h1 ⟨h9.1, (h r h9.1).mpr h9.2⟩)]
/-- where the faces are as many as can be they have two colours -/
theorem pm_two (hr : pm_rs n K rot X0) (hk : ∀ d, d < n → k0 d < 2 ∧ k0 (rot d) = 1 - k0 d) (hE : pm_ok n E) (hc : ∀ d, d < n → pm_al E d ≠ d) (hR : pm_cv n rot (pm_al E) R) {f : Nat → Nat} (hf : ∀ d, d < n → f (rot (pm_al E d)) = f d) {X : List Nat} (hX : ∀ x, x ∈ X → x < n) (hv : pm_dv f X) (hpl : E.length + 2 * R.length ≤ X.length + K) : ∃ κ : Nat → Bool, ∀ d, d < n → κ (rot d) = !κ d ∧ κ (pm_al E d) = !κ d := by
  have hr2 := pm_rs2 hr hk
  have hE2 := pm_ok2 hE
  have sy2 : ∀ {a b : Nat}, a < 2 * n → pm_cn (2 * n) (pm_r2 rot) (pm_al (pm_e2 E)) a b → pm_cn (2 * n) (pm_r2 rot) (pm_al (pm_e2 E)) b a := fun h1 h2 => cn_sy hr2.1 hr2.2.1 (fun s hs => pm_al_lt hE2 hs) (pm_al_inv hE2) h1 h2
  have sy : ∀ {a b : Nat}, a < n → pm_cn n rot (pm_al E) a b → pm_cn n rot (pm_al E) b a := fun h1 h2 => cn_sy hr.1 hr.2.1 (fun s hs => pm_al_lt hE hs) (pm_al_inv hE) h1 h2
  have hno := fun {d : Nat} (hd : d < n) => pm_nocp hr hk hE hc hR hf hX hv hpl hd
  let rp := pm_rep n rot (pm_al E) R
  let C := pm_cn (2 * n) (pm_r2 rot) (pm_al (pm_e2 E))
  -- d and d' joined by one step
  have step : ∀ d d', d < n → d' < n → rp d' = rp d → (∀ e, e < 2 → C (2 * d + e) (2 * d' + (1 - e))) → (C (2 * rp d') (2 * d') ↔ ¬ C (2 * rp d) (2 * d)) := by
    intro d d' hd hd' er hs
    rw [er]
    obtain ⟨p1, p2⟩ := pm_rep_in (hR d hd)
    obtain ⟨e, e1, e2, -⟩ := cn_lift hr hE hc p1 p2
    constructor
    · intro h1 h2
      have h3 := cn_tr h2 (hs 0 (by omega))
      exact hno hd' (cn_tr (sy2 (by show 2 * rp d < 2 * n; have : rp d < n := p1; omega) h1) h3)
    · intro h1
      have e9 : e = 1 := by
        rcases (show e = 0 ∨ e = 1 by omega) with rfl | rfl
        · exact absurd e2 h1
        · rfl
      subst e9
      exact cn_tr e2 (hs 1 (by omega))
  refine ⟨fun d => @decide (C (2 * rp d) (2 * d)) (Classical.propDecidable _), fun d hd => ?_⟩
  have fin : ∀ d', (C (2 * rp d') (2 * d') ↔ ¬ C (2 * rp d) (2 * d)) → @decide (C (2 * rp d') (2 * d')) (Classical.propDecidable _) = !@decide (C (2 * rp d) (2 * d)) (Classical.propDecidable _) := by
    intro d' h
    by_cases h1 : C (2 * rp d) (2 * d)
    · rw [@decide_eq_true _ (Classical.propDecidable _) h1, @decide_eq_false _ (Classical.propDecidable _) (fun h9 => h.mp h9 h1)]
      rfl
    · rw [@decide_eq_false _ (Classical.propDecidable _) h1, @decide_eq_true _ (Classical.propDecidable _) (h.mpr h1)]
      rfl
  have back : ∀ {d'}, pm_cn n rot (pm_al E) d d' → rp d' = rp d := fun {d'} h => pm_rep_eq (fun r hr9 => ⟨fun h1 => cn_tr h1 (sy hd h), fun h1 => cn_tr h1 h⟩)
  refine ⟨fin _ (step d _ hd (hr.1 d hd) (back (cn_r hd (cn_rf d))) (fun e he => ?_)), fin _ (step d _ hd (pm_al_lt hE hd) (back (cn_a hd (cn_rf d))) (fun e he => ?_))⟩
  · have := cn_r (n := 2 * n) (rot := pm_r2 rot) (al := pm_al (pm_e2 E)) (show 2 * d + e < 2 * n by omega) (cn_rf _)
    rw [pm_r2_at he] at this
    exact this
  · have := cn_a (n := 2 * n) (rot := pm_r2 rot) (al := pm_al (pm_e2 E)) (show 2 * d + e < 2 * n by omega) (cn_rf _)
    rw [pm_al2_at hE he (hc d hd)] at this
    exact this
end PD
end
