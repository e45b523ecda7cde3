/-! chain: a kink whose loop is apart before it is turned -/
def off9 (s : Nat → Bool) (x : Nat) : Nat → Bool := fun y => if y = x then false else s y
def clr9 (m : Nat → Bool) (o : Nat) : Nat → Bool := fun g => if g = o then false else m g
def rh9 (n o : Nat) (γ : gn9) : gn9 := (off9 γ.1 n, clr9 γ.2 o)
def vl9 (rel : (Nat → Bool) → Nat → Nat → Prop) (γ : gn9) : Prop := ∀ g h, rel γ.1 g h → γ.2 g = γ.2 h
/-- the kink at crossing n, o its gap -/
def knA (n o : Nat) (P1 P2 P3 : Nat → Nat) (rel : (Nat → Bool) → Nat → Nat → Prop) : Prop := (∀ s, s n = false → ∀ g, rel s o g → g = o) ∧ P1 n = o ∧ P3 n ≠ o ∧ ∀ y, y < n → P1 y ≠ o ∧ P2 y ≠ o ∧ P3 y ≠ o
noncomputable def FA9 (n o : Nat) (γ : gn9) : fc9 := if γ.1 n = false ∧ γ.2 o = true then [(1, rh9 n o γ)] else []
noncomputable def hAk9 (n o : Nat) (γ : gn9) : fc9 := if γ.1 n = true then [(par9 γ.1 n, rh9 n o γ)] else []
section XCHD
variable {n o : Nat} {P1 P2 P3 : Nat → Nat} {rel : (Nat → Bool) → Nat → Nat → Prop} {f : gn9 → fc9} {κ : gn9 → gn9} {l : fc9} {c : Int} {γ : gn9}
theorem off_f {s : Nat → Bool} {x : Nat} (h : s x = false) : off9 s x = s := funext (fun y => by
  unfold off9
  by_cases e : y = x
  · rw [if_pos e, e, h]
  · rw [if_neg e])
theorem off_x {s : Nat → Bool} {x : Nat} : off9 s x x = false := if_pos rfl
theorem off_o {s : Nat → Bool} {x y : Nat} (h : y ≠ x) : off9 s x y = s y := if_neg h
theorem on_off {s : Nat → Bool} {x : Nat} (h : s x = true) : on9 (off9 s x) x = s := funext (fun y => by
  unfold on9 off9
  by_cases e : y = x
  · rw [if_pos e, e, h]
  · rw [if_neg e, if_neg e])
theorem off_on {s : Nat → Bool} {x y : Nat} (h : y ≠ x) : off9 (on9 s y) x = on9 (off9 s x) y := funext (fun z => by
  unfold on9 off9
  by_cases e : z = x
  · rw [if_pos e, if_pos e, if_neg (fun h9 => h (h9.symm.trans e))]
  · rw [if_neg e, if_neg e])
theorem off_on2 {s : Nat → Bool} {x : Nat} (h : s x = false) : off9 (on9 s x) x = s := funext (fun z => by
  by_cases e : z = x
  · rw [e, off_x, h]
  · rw [off_o e, on_o e])
theorem clr_o (m : Nat → Bool) (o : Nat) : clr9 m o o = false := if_pos rfl
theorem clr_n {m : Nat → Bool} {o g : Nat} (h : g ≠ o) : clr9 m o g = m g := if_neg h
theorem clr_f {m : Nat → Bool} (h : m o = false) : clr9 m o = m := funext (fun g => by
  by_cases e : g = o
  · rw [e, clr_o, h]
  · rw [clr_n e])
theorem par_off {s : Nat → Bool} {x : Nat} : ∀ {y : Nat}, y ≤ x → par9 (off9 s x) y = par9 s y
  | 0, _ => rfl
  | y + 1, h => by
    show (if off9 s x y = true then -par9 (off9 s x) y else par9 (off9 s x) y) = if s y = true then -par9 s y else par9 s y
    rw [off_o (by omega), par_off (by omega)]
theorem par_2 (s : Nat → Bool) : ∀ x, par9 s x * par9 s x = 1
  | 0 => rfl
  | x + 1 => by
    show (if s x = true then -par9 s x else par9 s x) * (if s x = true then -par9 s x else par9 s x) = 1
    split
    · rw [Int.neg_mul_neg]
      exact par_2 s x
    · exact par_2 s x
theorem bd_map (h : ∀ q, q ∈ l → f q.2 = [(c, κ q.2)]) : eq9 (bd9 f l) (scf9 c (l.map (fun q => (q.1, κ q.2)))) := fun γ => by
  rw [cf_bd, cf_sc]
  induction l with
  | nil => exact (Int.mul_zero c).symm
  | cons q l ih =>
    show q.1 * cf9 (f q.2) γ + smf9 (fun δ => cf9 (f δ) γ) l = c * (q.1 * id9 γ (κ q.2) + cf9 (l.map (fun q => (q.1, κ q.2))) γ)
    rw [ih (fun t ht => h t (List.mem_cons_of_mem _ ht)), h q List.mem_cons_self]
    show q.1 * (c * id9 γ (κ q.2) + 0) + _ = _
    rw [Int.add_zero, Int.mul_add, ← Int.mul_assoc, ← Int.mul_assoc, Int.mul_comm q.1 c]
theorem bd_nil (h : ∀ q, q ∈ l → f q.2 = []) : eq9 (bd9 f l) [] := fun γ => by
  rw [cf_bd]
  induction l with
  | nil => rfl
  | cons q l ih =>
    show q.1 * cf9 (f q.2) γ + smf9 (fun δ => cf9 (f δ) γ) l = 0
    rw [ih (fun t ht => h t (List.mem_cons_of_mem _ ht)), h q List.mem_cons_self]
    show q.1 * 0 + 0 = 0
    rw [Int.mul_zero]
    rfl
/-- what D's terms look like -/
theorem Dx_st {x : Nat} {q : Int × gn9} (h : q ∈ Dx9 P1 P2 P3 rel x γ) : q.2.1 = on9 γ.1 x := by
  unfold Dx9 at h
  split at h
  · split at h
    · rw [List.mem_singleton.mp h]
    · rcases List.mem_cons.mp h with e | e
      · rw [e]
      · rw [List.mem_singleton.mp e]
  · split at h
    · exact absurd h List.not_mem_nil
    · rw [List.mem_singleton.mp h]
theorem D_st {q : Int × gn9} : ∀ {k : Nat}, q ∈ D9 P1 P2 P3 rel k γ → ∃ y, y < k ∧ γ.1 y = false ∧ q.2.1 = on9 γ.1 y ∧ ∃ c, (c, q.2) ∈ Dx9 P1 P2 P3 rel y γ
  | 0, h => absurd h List.not_mem_nil
  | k + 1, h => by
    rcases List.mem_append.mp h with h1 | h1
    · obtain ⟨y, a, b⟩ := D_st h1
      exact ⟨y, by omega, b⟩
    · by_cases c : γ.1 k = true
      · rw [if_pos c] at h1
        exact absurd h1 List.not_mem_nil
      · rw [if_neg c] at h1
        obtain ⟨r, h2, rfl⟩ := List.mem_map.mp h1
        exact ⟨k, by omega, by cases h : γ.1 k <;> simp_all, show r.2.1 = on9 γ.1 k from Dx_st h2, r.1, h2⟩
/-- gaps apart from o don't see crossing n -/
theorem kn_r (hC : cub9 (n + 1) P1 P2 P3 rel) (hk : knA n o P1 P2 P3 rel) (u : Nat → Bool) {g h : Nat} (hg : g ≠ o) (hh : h ≠ o) : rel (off9 u n) g h ↔ rel u g h := by
  obtain ⟨k1, k2, k3, k4⟩ := hk
  by_cases c : u n = true
  · have e := on_off c
    rcases hC.2 (off9 u n) n (by omega) off_x with ⟨h1, h2⟩ | ⟨h1, -⟩
    · rw [e] at h2
      rw [h2]
      constructor
      · exact Or.inl
      · rintro (h9 | ⟨h9, h8⟩ | ⟨h9, h8⟩)
        · exact h9
        · rw [k2] at h9
          exact absurd (k1 _ off_x _ ((hC.1 _).2.1 _ _ h9)) hg
        · rw [k2] at h8
          exact absurd (k1 _ off_x _ ((hC.1 _).2.1 _ _ h8)) hh
    · rw [k2] at h1
      exact absurd (k1 _ off_x _ h1) k3
  · rw [off_f (by cases h : u n <;> simp_all)]
theorem Dx_rh (hC : cub9 (n + 1) P1 P2 P3 rel) (hk : knA n o P1 P2 P3 rel) {y : Nat} (hy : y < n) : Dx9 P1 P2 P3 rel y (rh9 n o γ) = (Dx9 P1 P2 P3 rel y γ).map (fun q => (q.1, rh9 n o q.2)) := by
  obtain ⟨p1, p2, p3⟩ := hk.2.2.2 y hy
  have a1 : (rh9 n o γ).2 (P1 y) = γ.2 (P1 y) := clr_n p1
  have a3 : (rh9 n o γ).2 (P3 y) = γ.2 (P3 y) := clr_n p3
  have st : on9 (rh9 n o γ).1 y = off9 (on9 γ.1 y) n := (off_on (by omega)).symm
  have r1 : dcb (rel (rh9 n o γ).1 (P1 y) (P3 y)) = dcb (rel γ.1 (P1 y) (P3 y)) := dcb_c (kn_r hC hk γ.1 p1 p3)
  have nb : (off9 (on9 γ.1 y) n) n = false := off_x
  -- the bits
  have bt : ∀ (b : Bool) (a : Nat), a ≠ o → (fun g => (rh9 n o γ).2 g || (b && dcb (rel (on9 (rh9 n o γ).1 y) g a))) = clr9 (fun g => γ.2 g || (b && dcb (rel (on9 γ.1 y) g a))) o := fun b a ha => funext (fun g => by
    rw [st]
    by_cases e : g = o
    · rw [e, clr_o]
      show (clr9 γ.2 o o || (b && dcb (rel (off9 (on9 γ.1 y) n) o a))) = false
      rw [clr_o, dcb_f.mpr (fun h9 => ha (hk.1 _ nb _ h9)), Bool.and_false]
      rfl
    · rw [clr_n e]
      show (clr9 γ.2 o g || (b && dcb (rel (off9 (on9 γ.1 y) n) g a))) = _
      rw [clr_n e, dcb_c (kn_r hC hk (on9 γ.1 y) e ha)])
  have bt1 : ∀ a : Nat, a ≠ o → (fun g => (rh9 n o γ).2 g || dcb (rel (on9 (rh9 n o γ).1 y) g a)) = clr9 (fun g => γ.2 g || dcb (rel (on9 γ.1 y) g a)) o := fun a ha => by
    have := bt true a ha
    simp only [Bool.true_and] at this
    exact this
  unfold Dx9
  rw [r1, a1, a3]
  by_cases c : dcb (rel γ.1 (P1 y) (P3 y)) = true
  · rw [if_pos c, if_pos c]
    by_cases c2 : γ.2 (P1 y) = true
    · rw [if_pos c2, if_pos c2, st]
      rfl
    · rw [if_neg c2, if_neg c2, bt1 _ p1, bt1 _ p2, st]
      rfl
  · rw [if_neg c, if_neg c]
    by_cases c2 : γ.2 (P1 y) = true ∧ γ.2 (P3 y) = true
    · rw [if_pos c2, if_pos c2]
      rfl
    · rw [if_neg c2, if_neg c2, bt _ _ p1, st]
      rfl
theorem D_rh (hC : cub9 (n + 1) P1 P2 P3 rel) (hk : knA n o P1 P2 P3 rel) : ∀ {k : Nat}, k ≤ n → D9 P1 P2 P3 rel k (rh9 n o γ) = (D9 P1 P2 P3 rel k γ).map (fun q => (q.1, rh9 n o q.2))
  | 0, _ => rfl
  | k + 1, h => by
    show D9 P1 P2 P3 rel k (rh9 n o γ) ++ (if (rh9 n o γ).1 k = true then [] else scf9 (par9 (rh9 n o γ).1 k) (Dx9 P1 P2 P3 rel k (rh9 n o γ))) = (D9 P1 P2 P3 rel k γ ++ (if γ.1 k = true then [] else scf9 (par9 γ.1 k) (Dx9 P1 P2 P3 rel k γ))).map _
    have e1 : (rh9 n o γ).1 k = γ.1 k := off_o (by omega)
    have e2 : par9 (rh9 n o γ).1 k = par9 γ.1 k := par_off (by omega)
    rw [List.map_append, D_rh hC hk (by omega), e1, e2, Dx_rh hC hk (by omega)]
    refine congrArg _ ?_
    split
    · rfl
    · unfold scf9
      rw [List.map_map, List.map_map]
      rfl
/-- before the turn nothing happens at o -/
theorem Dx_o (hk : knA n o P1 P2 P3 rel) {y : Nat} (hy : y < n) (hn : γ.1 n = false) {q : Int × gn9} (h : q ∈ Dx9 P1 P2 P3 rel y γ) : q.2.2 o = γ.2 o := by
  obtain ⟨p1, p2, p3⟩ := hk.2.2.2 y hy
  have nb : (on9 γ.1 y) n = false := by
    rw [on_o (by omega)]
    exact hn
  have z : ∀ a, a ≠ o → dcb (rel (on9 γ.1 y) o a) = false := fun a ha => dcb_f.mpr (fun h9 => ha (hk.1 _ nb _ h9))
  unfold Dx9 at h
  split at h
  · split at h
    · rw [List.mem_singleton.mp h]
    · rcases List.mem_cons.mp h with e | e
      · rw [e]
        show (γ.2 o || dcb (rel (on9 γ.1 y) o (P1 y))) = γ.2 o
        rw [z _ p1, Bool.or_false]
      · rw [List.mem_singleton.mp e]
        show (γ.2 o || dcb (rel (on9 γ.1 y) o (P2 y))) = γ.2 o
        rw [z _ p2, Bool.or_false]
  · split at h
    · exact absurd h List.not_mem_nil
    · rw [List.mem_singleton.mp h]
      show (γ.2 o || ((γ.2 (P1 y) || γ.2 (P3 y)) && dcb (rel (on9 γ.1 y) o (P1 y)))) = γ.2 o
      rw [z _ p1, Bool.and_false, Bool.or_false]
/-- F goes along with D -/
theorem FA_c (hC : cub9 (n + 1) P1 P2 P3 rel) (hk : knA n o P1 P2 P3 rel) : eq9 (bd9 (FA9 n o) (D9 P1 P2 P3 rel (n + 1) γ)) (bd9 (D9 P1 P2 P3 rel n) (FA9 n o γ)) := by
  have e0 : D9 P1 P2 P3 rel (n + 1) γ = D9 P1 P2 P3 rel n γ ++ (if γ.1 n = true then [] else scf9 (par9 γ.1 n) (Dx9 P1 P2 P3 rel n γ)) := rfl
  rw [e0]
  refine eq_t (bd_a rfl) ?_
  have e1 : eq9 (bd9 (FA9 n o) (if γ.1 n = true then [] else scf9 (par9 γ.1 n) (Dx9 P1 P2 P3 rel n γ))) [] := bd_nil (fun q hq => by
    split at hq
    · exact absurd hq List.not_mem_nil
    · obtain ⟨r, h2, rfl⟩ := List.mem_map.mp hq
      refine if_neg (fun h9 => ?_)
      have h9 : r.2.1 n = false := h9.1
      rw [Dx_st h2, on_x] at h9
      cases h9)
  have stn : ∀ q, q ∈ D9 P1 P2 P3 rel n γ → q.2.1 n = γ.1 n := fun q hq => by
    obtain ⟨y, h1, -, h2, -⟩ := D_st hq
    rw [h2, on_o (by omega)]
  refine eq_t (eq_a eq_r e1) ?_
  rw [List.append_nil]
  by_cases c : γ.1 n = false ∧ γ.2 o = true
  · have e2 : FA9 n o γ = [(1, rh9 n o γ)] := if_pos c
    rw [e2]
    refine eq_t (bd_map (c := 1) (κ := rh9 n o) (fun q hq => ?_)) (eq_t ?_ (eq_s (bd_1 _)))
    · obtain ⟨y, h1, -, -, c9, h3⟩ := D_st hq
      refine if_pos ⟨(stn q hq).trans c.1, ?_⟩
      have := Dx_o hk h1 c.1 h3
      exact this.trans c.2
    · rw [D_rh hC hk (Nat.le_refl n)]
      intro δ
      rw [cf_sc, Int.one_mul]
  · have e2 : FA9 n o γ = [] := if_neg c
    rw [e2]
    refine bd_nil (fun q hq => if_neg (fun h9 => c ?_))
    obtain ⟨y, h1, -, -, c9, h3⟩ := D_st hq
    have hn : γ.1 n = false := (stn q hq).symm.trans h9.1
    exact ⟨hn, (Dx_o hk h1 hn h3).symm.trans h9.2⟩
theorem FA_h (γ : gn9) : eq9 (bd9 (FA9 n o) (hAk9 n o γ)) [] := bd_nil (fun q hq => by
  unfold hAk9 at hq
  split at hq
  · rw [List.mem_singleton.mp hq]
    refine if_neg (fun h9 => ?_)
    have h9 : clr9 γ.2 o o = true := h9.2
    rw [clr_o] at h9
    cases h9
  · exact absurd hq List.not_mem_nil)
/-- turned at the kink, with plus at o -/
theorem Dn_A (hC : cub9 (n + 1) P1 P2 P3 rel) (hk : knA n o P1 P2 P3 rel) (hv : vl9 rel γ) (hn : γ.1 n = true) : Dx9 P1 P2 P3 rel n (rh9 n o γ) = [(1, γ)] := by
  have e := on_off hn
  rcases hC.2 (off9 γ.1 n) n (by omega) off_x with ⟨h1, h2⟩ | ⟨h1, -⟩
  · rw [e] at h2
    have q : Dx9 P1 P2 P3 rel n (rh9 n o γ) = (if clr9 γ.2 o (P1 n) = true ∧ clr9 γ.2 o (P3 n) = true then [] else [(1, (on9 (off9 γ.1 n) n, fun g => clr9 γ.2 o g || ((clr9 γ.2 o (P1 n) || clr9 γ.2 o (P3 n)) && dcb (rel (on9 (off9 γ.1 n) n) g (P1 n)))))]) := if_neg (fun h9 => h1 (dcb_t.mp h9))
    rw [q, e, hk.2.1, clr_o, clr_n hk.2.2.1]
    rw [if_neg (fun h9 => by cases h9.1)]
    have r : (fun g => clr9 γ.2 o g || ((false || γ.2 (P3 n)) && dcb (rel γ.1 g o))) = γ.2 := funext (fun g => by
      have op : rel γ.1 o (P3 n) := by
        rw [h2, hk.2.1]
        exact adr_ab (hC.1 _)
      rw [Bool.false_or]
      by_cases eg : g = o
      · rw [eg, clr_o, dcb_t.mpr ((hC.1 _).1 o), Bool.and_true, Bool.false_or]
        exact (hv _ _ op).symm
      · rw [clr_n eg]
        by_cases c : rel γ.1 g o
        · rw [dcb_t.mpr c, Bool.and_true, hv _ _ ((hC.1 _).2.2 _ _ _ c op)]
          cases γ.2 (P3 n) <;> rfl
        · rw [dcb_f.mpr c, Bool.and_false, Bool.or_false])
    rw [r]
  · rw [hk.2.1] at h1
    exact absurd (hk.1 _ off_x _ h1) hk.2.2.1
/-- D h + h D = 1 on the kernel of F -/
theorem hA_1 (hC : cub9 (n + 1) P1 P2 P3 rel) (hk : knA n o P1 P2 P3 rel) (hv : vl9 rel γ) (hK : γ.1 n = true ∨ γ.2 o = false) : eq9 (bd9 (D9 P1 P2 P3 rel (n + 1)) (hAk9 n o γ) ++ bd9 (hAk9 n o) (D9 P1 P2 P3 rel (n + 1) γ)) [(1, γ)] := by
  have stn : ∀ q, q ∈ D9 P1 P2 P3 rel n γ → q.2.1 n = γ.1 n := fun q hq => by
    obtain ⟨y, h1, -, h2, -⟩ := D_st hq
    rw [h2, on_o (by omega)]
  have e0 : ∀ δ, D9 P1 P2 P3 rel (n + 1) δ = D9 P1 P2 P3 rel n δ ++ (if δ.1 n = true then [] else scf9 (par9 δ.1 n) (Dx9 P1 P2 P3 rel n δ)) := fun _ => rfl
  by_cases c : γ.1 n = true
  · have e1 : hAk9 n o γ = [(par9 γ.1 n, rh9 n o γ)] := if_pos c
    have off0 : (rh9 n o γ).1 n = false := off_x
    have e2 : bd9 (D9 P1 P2 P3 rel (n + 1)) [(par9 γ.1 n, rh9 n o γ)] = scf9 (par9 γ.1 n) (D9 P1 P2 P3 rel (n + 1) (rh9 n o γ)) ++ [] := rfl
    have e4 : D9 P1 P2 P3 rel (n + 1) γ = D9 P1 P2 P3 rel n γ := by
      rw [e0, if_pos c, List.append_nil]
    -- h D
    have e3 : eq9 (bd9 (hAk9 n o) (D9 P1 P2 P3 rel n γ)) (scf9 (-par9 γ.1 n) (D9 P1 P2 P3 rel n (rh9 n o γ))) := by
      rw [D_rh hC hk (Nat.le_refl n)]
      refine bd_map (c := -par9 γ.1 n) (κ := rh9 n o) (fun q hq => ?_)
      have h1 : hAk9 n o q.2 = [(par9 q.2.1 n, rh9 n o q.2)] := if_pos ((stn q hq).trans c)
      rw [h1]
      obtain ⟨y, h2, h3, h4, -⟩ := D_st hq
      rw [h4, par_hi h3 h2]
    rw [e1, e2, e4, List.append_nil]
    refine eq_t (eq_a eq_r e3) (fun δ => ?_)
    rw [cf_a, cf_sc, cf_sc, e0, cf_a, if_neg (by rw [off0]; decide), cf_sc, Dn_A hC hk hv c]
    have pe : par9 (rh9 n o γ).1 n = par9 γ.1 n := par_off (Nat.le_refl n)
    rw [pe, Int.mul_add, ← Int.mul_assoc, par_2, Int.neg_mul, Int.one_mul]
    omega
  · have cf : γ.1 n = false := by cases h : γ.1 n <;> simp_all
    have ko : γ.2 o = false := hK.resolve_left c
    have e1 : hAk9 n o γ = [] := if_neg c
    have e2 : bd9 (D9 P1 P2 P3 rel (n + 1)) [] = [] := rfl
    rw [e1, e2, List.nil_append, e0, if_neg c]
    refine eq_t (bd_a rfl) ?_
    have z1 : eq9 (bd9 (hAk9 n o) (D9 P1 P2 P3 rel n γ)) [] := bd_nil (fun q hq => if_neg (by rw [stn q hq]; exact c))
    refine eq_t (eq_a z1 eq_r) ?_
    rw [List.nil_append]
    -- the turned one
    rcases hC.2 γ.1 n (by omega) cf with ⟨h1, h2⟩ | ⟨h1, -⟩
    · have q : Dx9 P1 P2 P3 rel n γ = (if γ.2 (P1 n) = true ∧ γ.2 (P3 n) = true then [] else [(1, (on9 γ.1 n, fun g => γ.2 g || ((γ.2 (P1 n) || γ.2 (P3 n)) && dcb (rel (on9 γ.1 n) g (P1 n)))))]) := if_neg (fun h9 => h1 (dcb_t.mp h9))
      rw [q, hk.2.1, ko, if_neg (fun h9 => by cases h9.1), Bool.false_or]
      show eq9 (bd9 (hAk9 n o) [(par9 γ.1 n * 1, (on9 γ.1 n, fun g => γ.2 g || (γ.2 (P3 n) && dcb (rel (on9 γ.1 n) g o))))]) [(1, γ)]
      have r : rh9 n o (on9 γ.1 n, fun g => γ.2 g || (γ.2 (P3 n) && dcb (rel (on9 γ.1 n) g o))) = γ := by
        refine Prod.ext (off_on2 cf) (funext (fun g => ?_))
        show clr9 (fun g => γ.2 g || (γ.2 (P3 n) && dcb (rel (on9 γ.1 n) g o))) o g = γ.2 g
        by_cases eg : g = o
        · rw [eg, clr_o, ko]
        · rw [clr_n eg]
          by_cases c2 : rel (on9 γ.1 n) g o
          · have g3 : rel γ.1 g (P3 n) := by
              rcases (h2 g o).mp c2 with h9 | ⟨h9, h8⟩ | ⟨h9, h8⟩
              · exact absurd (hk.1 _ cf _ ((hC.1 _).2.1 _ _ h9)) eg
              · rw [hk.2.1] at h9
                exact absurd (hk.1 _ cf _ ((hC.1 _).2.1 _ _ h9)) eg
              · exact h9
            rw [dcb_t.mpr c2, Bool.and_true, hv _ _ g3]
            cases γ.2 (P3 n) <;> rfl
          · rw [dcb_f.mpr c2, Bool.and_false, Bool.or_false]
      intro δ
      have hh : hAk9 n o (on9 γ.1 n, fun g => γ.2 g || (γ.2 (P3 n) && dcb (rel (on9 γ.1 n) g o))) = [(par9 (on9 γ.1 n) n, γ)] := by
        refine (if_pos on_x).trans ?_
        rw [r]
      rw [cf_bd]
      show par9 γ.1 n * 1 * cf9 (hAk9 n o (on9 γ.1 n, fun g => γ.2 g || (γ.2 (P3 n) && dcb (rel (on9 γ.1 n) g o)))) δ + 0 = 1 * id9 δ γ + 0
      rw [hh, par_lo (Nat.le_refl n)]
      show par9 γ.1 n * 1 * (par9 γ.1 n * id9 δ γ + 0) + 0 = 1 * id9 δ γ + 0
      rw [Int.mul_one, Int.add_zero, Int.add_zero, ← Int.mul_assoc, par_2]
      omega
    · rw [hk.2.1] at h1
      exact absurd (hk.1 _ cf _ h1) hk.2.2.1
end XCHD
