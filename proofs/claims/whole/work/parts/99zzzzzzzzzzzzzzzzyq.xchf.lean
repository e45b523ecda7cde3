-- CHAIN: a loop that goes (type A), in some states only
def knW (n o : Nat) (W : (Nat → Bool) → Prop) (P1 P2 P3 : Nat → Nat) (rel : (Nat → Bool) → Nat → Nat → Prop) : Prop := (∀ s, W s → s n = false → ∀ g, rel s o g → g = o) ∧ P1 n = o ∧ P3 n ≠ o ∧ (∀ y s, y < n → W s → s y = false → P1 y ≠ o ∧ P2 y ≠ o ∧ P3 y ≠ o) ∧ (∀ s y, W s → W (on9 s y)) ∧ ∀ s, W s → W (off9 s n)
noncomputable def hAW (n o : Nat) (W : (Nat → Bool) → Prop) (γ : gn9) : fc9 := if dcb (W γ.1) = true ∧ γ.1 n = true then [(par9 γ.1 n, rh9 n o γ)] else []
section XCHN
variable {n o V k : Nat} {W : (Nat → Bool) → Prop} {G : Nat → Prop} {P1 P2 P3 : Nat → Nat} {rel : (Nat → Bool) → Nat → Nat → Prop} {γ : gn9} {d p b : Int}
theorem knW_r (hC : cub9 (n + 1) P1 P2 P3 rel) (hk : knW n o W P1 P2 P3 rel) {u : Nat → Bool} (hw : W u) {g h : Nat} (hg : g ≠ o) (hh : h ≠ o) : rel (off9 u n) g h ↔ rel u g h := by
  obtain ⟨k1, k2, k3, k4, k5, k6⟩ := hk
  have k1 := k1 (off9 u n) (k6 u hw) off_x
  by_cases c : u n = true
  · have e := on_off c
    rcases hC.2 (off9 u n) n (by omega) off_x with ⟨h1, h2⟩ | ⟨h1, -⟩
    · rw [e] at h2
      rw [h2]
      constructor
      · exact Or.inl
      · rintro (h9 | ⟨h9, h8⟩ | ⟨h9, h8⟩)
        · exact h9
        · rw [k2] at h9
          exact absurd (k1 _ ((hC.1 _).2.1 _ _ h9)) hg
        · rw [k2] at h8
          exact absurd (k1 _ ((hC.1 _).2.1 _ _ h8)) hh
    · rw [k2] at h1
      exact absurd (k1 _ h1) k3
  · rw [off_f (by cases h : u n <;> simp_all)]
theorem DxW_rh (hC : cub9 (n + 1) P1 P2 P3 rel) (hk : knW n o W P1 P2 P3 rel) (hw : W γ.1) {y : Nat} (hy : y < n) (sy : γ.1 y = false) : Dx9 P1 P2 P3 rel y (rh9 n o γ) = (Dx9 P1 P2 P3 rel y γ).map (fun q => (q.1, rh9 n o q.2)) := by
  obtain ⟨p1, p2, p3⟩ := hk.2.2.2.1 y γ.1 hy hw sy
  have w2 := hk.2.2.2.2.1 γ.1 y hw
  have a1 : (rh9 n o γ).2 (P1 y) = γ.2 (P1 y) := clr_n p1
  have a3 : (rh9 n o γ).2 (P3 y) = γ.2 (P3 y) := clr_n p3
  have st : on9 (rh9 n o γ).1 y = off9 (on9 γ.1 y) n := (off_on (by omega)).symm
  have r1 : dcb (rel (rh9 n o γ).1 (P1 y) (P3 y)) = dcb (rel γ.1 (P1 y) (P3 y)) := dcb_c (knW_r hC hk hw p1 p3)
  have nb : (off9 (on9 γ.1 y) n) n = false := off_x
  have bt : ∀ (b : Bool) (a : Nat), a ≠ o → (fun g => (rh9 n o γ).2 g || (b && dcb (rel (on9 (rh9 n o γ).1 y) g a))) = clr9 (fun g => γ.2 g || (b && dcb (rel (on9 γ.1 y) g a))) o := fun b a ha => funext (fun g => by
    rw [st]
    by_cases e : g = o
    · rw [e, clr_o]
      show (clr9 γ.2 o o || (b && dcb (rel (off9 (on9 γ.1 y) n) o a))) = false
      rw [clr_o, dcb_f.mpr (fun h9 => ha (hk.1 _ (hk.2.2.2.2.2 _ w2) nb _ h9)), Bool.and_false]
      rfl
    · rw [clr_n e]
      show (clr9 γ.2 o g || (b && dcb (rel (off9 (on9 γ.1 y) n) g a))) = _
      rw [clr_n e, dcb_c (knW_r hC hk w2 e ha)])
  have bt1 : ∀ a : Nat, a ≠ o → (fun g => (rh9 n o γ).2 g || dcb (rel (on9 (rh9 n o γ).1 y) g a)) = clr9 (fun g => γ.2 g || dcb (rel (on9 γ.1 y) g a)) o := fun a ha => by
    have := bt true a ha
    simp only [Bool.true_and] at this
    exact this
  unfold Dx9
  rw [r1, a1, a3]
  by_cases c : dcb (rel γ.1 (P1 y) (P3 y)) = true
  · rw [if_pos c, if_pos c]
    by_cases c2 : γ.2 (P1 y) = true
    · rw [if_pos c2, if_pos c2, st]
      rfl
    · rw [if_neg c2, if_neg c2, bt1 _ p1, bt1 _ p2, st]
      rfl
  · rw [if_neg c, if_neg c]
    by_cases c2 : γ.2 (P1 y) = true ∧ γ.2 (P3 y) = true
    · rw [if_pos c2, if_pos c2]
      rfl
    · rw [if_neg c2, if_neg c2, bt _ _ p1, st]
      rfl
theorem DW_rh (hC : cub9 (n + 1) P1 P2 P3 rel) (hk : knW n o W P1 P2 P3 rel) (hw : W γ.1) : ∀ {k : Nat}, k ≤ n → D9 P1 P2 P3 rel k (rh9 n o γ) = (D9 P1 P2 P3 rel k γ).map (fun q => (q.1, rh9 n o q.2))
  | 0, _ => rfl
  | k + 1, h => by
    show D9 P1 P2 P3 rel k (rh9 n o γ) ++ (if (rh9 n o γ).1 k = true then [] else scf9 (par9 (rh9 n o γ).1 k) (Dx9 P1 P2 P3 rel k (rh9 n o γ))) = (D9 P1 P2 P3 rel k γ ++ (if γ.1 k = true then [] else scf9 (par9 γ.1 k) (Dx9 P1 P2 P3 rel k γ))).map _
    have e1 : (rh9 n o γ).1 k = γ.1 k := off_o (by omega)
    have e2 : par9 (rh9 n o γ).1 k = par9 γ.1 k := par_off (by omega)
    rw [List.map_append, DW_rh hC hk hw (by omega), e1, e2]
    refine congrArg _ ?_
    by_cases c : γ.1 k = true
    · rw [if_pos c, if_pos c]
      rfl
    · rw [if_neg c, if_neg c, DxW_rh hC hk hw (by omega) (by cases h9 : γ.1 k <;> simp_all)]
      unfold scf9
      rw [List.map_map, List.map_map]
      rfl
theorem DxW_o (hk : knW n o W P1 P2 P3 rel) (hw : W γ.1) {y : Nat} (hy : y < n) (sy : γ.1 y = false) (hn : γ.1 n = false) {q : Int × gn9} (h : q ∈ Dx9 P1 P2 P3 rel y γ) : q.2.2 o = γ.2 o := by
  obtain ⟨p1, p2, p3⟩ := hk.2.2.2.1 y γ.1 hy hw sy
  have w2 := hk.2.2.2.2.1 γ.1 y hw
  have nb : (on9 γ.1 y) n = false := by
    rw [on_o (by omega)]
    exact hn
  have no : ∀ a, a ≠ o → dcb (rel (on9 γ.1 y) o a) = false := fun a ha => dcb_f.mpr (fun h9 => ha (hk.1 _ w2 nb a h9))
  unfold Dx9 at h
  split at h
  · split at h
    · rw [List.mem_singleton.mp h]
    · rcases List.mem_cons.mp h with e | e
      · rw [e]
        show (γ.2 o || dcb (rel (on9 γ.1 y) o (P1 y))) = γ.2 o
        rw [no _ p1, Bool.or_false]
      · rw [List.mem_singleton.mp e]
        show (γ.2 o || dcb (rel (on9 γ.1 y) o (P2 y))) = γ.2 o
        rw [no _ p2, Bool.or_false]
  · split at h
    · exact absurd h List.not_mem_nil
    · rw [List.mem_singleton.mp h]
      show (γ.2 o || ((γ.2 (P1 y) || γ.2 (P3 y)) && dcb (rel (on9 γ.1 y) o (P1 y)))) = γ.2 o
      rw [no _ p1, Bool.and_false, Bool.or_false]
theorem DnW_A (hC : cub9 (n + 1) P1 P2 P3 rel) (hk : knW n o W P1 P2 P3 rel) (hw : W γ.1) (hv : vl9 rel γ) (hn : γ.1 n = true) : Dx9 P1 P2 P3 rel n (rh9 n o γ) = [(1, γ)] := by
  have e := on_off hn
  rcases hC.2 (off9 γ.1 n) n (by omega) off_x with ⟨h1, h2⟩ | ⟨h1, -⟩
  · rw [e] at h2
    have q : Dx9 P1 P2 P3 rel n (rh9 n o γ) = (if clr9 γ.2 o (P1 n) = true ∧ clr9 γ.2 o (P3 n) = true then [] else [(1, (on9 (off9 γ.1 n) n, fun g => clr9 γ.2 o g || ((clr9 γ.2 o (P1 n) || clr9 γ.2 o (P3 n)) && dcb (rel (on9 (off9 γ.1 n) n) g (P1 n)))))]) := if_neg (fun h9 => h1 (dcb_t.mp h9))
    rw [q, e, hk.2.1, clr_o, clr_n hk.2.2.1]
    rw [if_neg (fun h9 => by cases h9.1)]
    have r : (fun g => clr9 γ.2 o g || ((false || γ.2 (P3 n)) && dcb (rel γ.1 g o))) = γ.2 := funext (fun g => by
      have op : rel γ.1 o (P3 n) := by
        rw [h2, hk.2.1]
        exact adr_ab (hC.1 _)
      rw [Bool.false_or]
      by_cases eg : g = o
      · rw [eg, clr_o, dcb_t.mpr ((hC.1 _).1 o), Bool.and_true, Bool.false_or]
        exact (hv _ _ op).symm
      · rw [clr_n eg]
        by_cases c : rel γ.1 g o
        · rw [dcb_t.mpr c, Bool.and_true, hv _ _ ((hC.1 _).2.2 _ _ _ c op)]
          cases γ.2 (P3 n) <;> rfl
        · rw [dcb_f.mpr c, Bool.and_false, Bool.or_false])
    rw [r]
  · rw [hk.2.1] at h1
    exact absurd (hk.1 _ (hk.2.2.2.2.2 _ hw) off_x _ h1) hk.2.2.1
theorem hW_1 (hC : cub9 (n + 1) P1 P2 P3 rel) (hk : knW n o W P1 P2 P3 rel) (hw : W γ.1) (hv : vl9 rel γ) (hK : γ.1 n = true ∨ γ.2 o = false) : eq9 (bd9 (D9 P1 P2 P3 rel (n + 1)) (hAW n o W γ) ++ bd9 (hAW n o W) (D9 P1 P2 P3 rel (n + 1) γ)) [(1, γ)] := by
  have stn : ∀ q, q ∈ D9 P1 P2 P3 rel n γ → q.2.1 n = γ.1 n ∧ W q.2.1 := fun q hq => by
    obtain ⟨y, h1, -, h2, -⟩ := D_st hq
    rw [h2]
    exact ⟨on_o (by omega), hk.2.2.2.2.1 _ _ hw⟩
  have e0 : ∀ δ, D9 P1 P2 P3 rel (n + 1) δ = D9 P1 P2 P3 rel n δ ++ (if δ.1 n = true then [] else scf9 (par9 δ.1 n) (Dx9 P1 P2 P3 rel n δ)) := fun _ => rfl
  by_cases c : γ.1 n = true
  · have e1 : hAW n o W γ = [(par9 γ.1 n, rh9 n o γ)] := if_pos ⟨dcb_t.mpr hw, c⟩
    have of0 : (rh9 n o γ).1 n = false := off_x
    have e2 : bd9 (D9 P1 P2 P3 rel (n + 1)) [(par9 γ.1 n, rh9 n o γ)] = scf9 (par9 γ.1 n) (D9 P1 P2 P3 rel (n + 1) (rh9 n o γ)) ++ [] := rfl
    have e4 : D9 P1 P2 P3 rel (n + 1) γ = D9 P1 P2 P3 rel n γ := by
      rw [e0, if_pos c, List.append_nil]
    have e3 : eq9 (bd9 (hAW n o W) (D9 P1 P2 P3 rel n γ)) (scf9 (-par9 γ.1 n) (D9 P1 P2 P3 rel n (rh9 n o γ))) := by
      rw [DW_rh hC hk hw (Nat.le_refl n)]
      refine bd_map (c := -par9 γ.1 n) (κ := rh9 n o) (fun q hq => ?_)
      have h1 : hAW n o W q.2 = [(par9 q.2.1 n, rh9 n o q.2)] := if_pos ⟨dcb_t.mpr (stn q hq).2, (stn q hq).1.trans c⟩
      rw [h1]
      obtain ⟨y, h2, h3, h4, -⟩ := D_st hq
      rw [h4, par_hi h3 h2]
    rw [e1, e2, e4, List.append_nil]
    refine eq_t (eq_a eq_r e3) (fun δ => ?_)
    rw [cf_a, cf_sc, cf_sc, e0, cf_a, if_neg (by rw [of0]; decide), cf_sc, DnW_A hC hk hw hv c]
    have pe : par9 (rh9 n o γ).1 n = par9 γ.1 n := par_off (Nat.le_refl n)
    rw [pe, Int.mul_add, ← Int.mul_assoc, par_2, Int.neg_mul, Int.one_mul]
    omega
  · have cf : γ.1 n = false := by cases h : γ.1 n <;> simp_all
    have ko : γ.2 o = false := hK.resolve_left c
    have e1 : hAW n o W γ = [] := if_neg (fun h9 => c h9.2)
    have e2 : bd9 (D9 P1 P2 P3 rel (n + 1)) [] = [] := rfl
    rw [e1, e2, List.nil_append, e0, if_neg c]
    refine eq_t (bd_a rfl) ?_
    have z1 : eq9 (bd9 (hAW n o W) (D9 P1 P2 P3 rel n γ)) [] := bd_nil (fun q hq => if_neg (fun h9 => c ((stn q hq).1.symm.trans h9.2)))
    refine eq_t (eq_a z1 eq_r) ?_
    rw [List.nil_append]
    rcases hC.2 γ.1 n (by omega) cf with ⟨h1, h2⟩ | ⟨h1, -⟩
    · have q : Dx9 P1 P2 P3 rel n γ = (if γ.2 (P1 n) = true ∧ γ.2 (P3 n) = true then [] else [(1, (on9 γ.1 n, fun g => γ.2 g || ((γ.2 (P1 n) || γ.2 (P3 n)) && dcb (rel (on9 γ.1 n) g (P1 n)))))]) := if_neg (fun h9 => h1 (dcb_t.mp h9))
      rw [q, hk.2.1, ko, if_neg (fun h9 => by cases h9.1), Bool.false_or]
      show eq9 (bd9 (hAW n o W) [(par9 γ.1 n * 1, (on9 γ.1 n, fun g => γ.2 g || (γ.2 (P3 n) && dcb (rel (on9 γ.1 n) g o))))]) [(1, γ)]
      have r : rh9 n o (on9 γ.1 n, fun g => γ.2 g || (γ.2 (P3 n) && dcb (rel (on9 γ.1 n) g o))) = γ := by
        refine Prod.ext (off_on2 cf) (funext (fun g => ?_))
        show clr9 (fun g => γ.2 g || (γ.2 (P3 n) && dcb (rel (on9 γ.1 n) g o))) o g = γ.2 g
        by_cases eg : g = o
        · rw [eg, clr_o, ko]
        · rw [clr_n eg]
          by_cases c2 : rel (on9 γ.1 n) g o
          · have g3 : rel γ.1 g (P3 n) := by
              rcases (h2 g o).mp c2 with h9 | ⟨h9, h8⟩ | ⟨h9, h8⟩
              · exact absurd (hk.1 _ hw cf _ ((hC.1 _).2.1 _ _ h9)) eg
              · rw [hk.2.1] at h9
                exact absurd (hk.1 _ hw cf _ ((hC.1 _).2.1 _ _ h9)) eg
              · exact h9
            rw [dcb_t.mpr c2, Bool.and_true, hv _ _ g3]
            cases γ.2 (P3 n) <;> rfl
          · rw [dcb_f.mpr c2, Bool.and_false, Bool.or_false]
      intro δ
      have hh : hAW n o W (on9 γ.1 n, fun g => γ.2 g || (γ.2 (P3 n) && dcb (rel (on9 γ.1 n) g o))) = [(par9 (on9 γ.1 n) n, γ)] := by
        refine (if_pos ⟨dcb_t.mpr (hk.2.2.2.2.1 _ _ hw), on_x⟩).trans ?_
        rw [r]
      rw [cf_bd]
      show par9 γ.1 n * 1 * cf9 (hAW n o W (on9 γ.1 n, fun g => γ.2 g || (γ.2 (P3 n) && dcb (rel (on9 γ.1 n) g o)))) δ + 0 = 1 * id9 δ γ + 0
      rw [hh, par_lo (Nat.le_refl n)]
      show par9 γ.1 n * 1 * (par9 γ.1 n * id9 δ γ + 0) + 0 = 1 * id9 δ γ + 0
      rw [Int.mul_one, Int.add_zero, Int.add_zero, ← Int.mul_assoc, par_2]
      omega
    · rw [hk.2.1] at h1
      exact absurd (hk.1 _ hw cf _ h1) hk.2.2.1
def KA9 (n o : Nat) (W : (Nat → Bool) → Prop) (γ : gn9) : Prop := W γ.1 ∧ (γ.1 n = true ∨ γ.2 o = false)
/-- the quotient by the loop that goes -/
theorem quoA {r : Nat} {E' : Nat → Nat → gn9} {N' : Nat → Nat} (hp : pr9 p) (hi : iv9 p) (hC : cu9 (n + 1) V G P1 P2 P3 rel) (hk : knW n o W P1 P2 P3 rel) (hb : be9 p (Sg9 (n + 1) V G rel k d) (D9 P1 P2 P3 rel (n + 1)) r b) (he' : ∀ r, en9 (fun γ => Sg9 (n + 1) V G rel k d r γ ∧ ¬ KA9 n o W γ) (E' r) (N' r)) : cg9 (fun r γ => Sg9 (n + 1) V G rel k d r γ ∧ ¬ KA9 n o W γ) (fun γ => flt9 (KA9 n o W) (D9 P1 P2 P3 rel (n + 1) γ)) ∧ (N' (r + 1) : Int) = b + rn9 p E' N' (fun γ => flt9 (KA9 n o W) (D9 P1 P2 P3 rel (n + 1) γ)) (r + 1) + rn9 p E' N' (fun γ => flt9 (KA9 n o W) (D9 P1 P2 P3 rel (n + 1) γ)) r := by
  refine quoK (h := hAW n o W) hp hi (cu_cg hC) (fun r γ hγ hK δ hδ => ?_) (fun r γ hγ δ hδ => ?_) (fun r γ hγ hK => hW_1 hC.1 hk hK.1 hγ.2.2.1 hK.2) r hb he'
  · obtain ⟨q, q1, q2⟩ := cf_mem hδ
    obtain ⟨y, y1, y2, y3, c, y4⟩ := D_st q1
    rw [← q2]
    refine ⟨by rw [y3]; exact hk.2.2.2.2.1 _ _ hK.1, ?_⟩
    by_cases e : y = n
    · rw [y3, e, on_x]
      exact Or.inl rfl
    · rcases hK.2 with h1 | h1
      · left
        rw [y3, on_o (by omega)]
        exact h1
      · by_cases h2 : γ.1 n = true
        · left
          rw [y3, on_o (by omega)]
          exact h2
        · right
          have h3 : γ.1 n = false := by cases h : γ.1 n <;> simp_all
          exact (DxW_o hk hK.1 (by omega) y2 h3 y4).trans h1
  · unfold hAW at hδ
    split at hδ
    · rename_i c
      have hw := dcb_t.mp c.1
      rw [cf_1] at hδ
      by_cases e : rh9 n o γ = δ
      · rw [← e]
        obtain ⟨z1, z2, z3, z4, z5⟩ := hγ
        have of0 : (rh9 n o γ).1 n = false := off_x
        have a1 : ∀ y, n + 1 ≤ y → (rh9 n o γ).1 y = false := fun y hy => by
          show off9 γ.1 n y = false
          rw [off_o (by omega)]
          exact z1 y hy
        have a2 : ∀ g, ¬ G g → (rh9 n o γ).2 g = false := fun g hg => by
          show clr9 γ.2 o g = false
          by_cases e9 : g = o
          · rw [e9, clr_o]
          · rw [clr_n e9]
            exact z2 g hg
        have a3 : vl9 rel (rh9 n o γ) := fun g h h1 => by
          have h1 : rel (off9 γ.1 n) g h := h1
          show clr9 γ.2 o g = clr9 γ.2 o h
          by_cases e9 : g = o
          · rw [e9] at h1 ⊢
            rw [hk.1 _ (hk.2.2.2.2.2 _ hw) off_x _ h1]
          · by_cases e8 : h = o
            · rw [e8] at h1
              exact absurd (hk.1 _ (hk.2.2.2.2.2 _ hw) off_x _ ((hC.1.1 _).2.1 _ _ h1)) e9
            · rw [clr_n e9, clr_n e8]
              exact z3 g h ((knW_r hC.1 hk hw e9 e8).mp h1)
        have q := Dx_ok (c := 1) (δ := γ) (k := k) (d := dg9 rel G V (n + 1) (rh9 n o γ)) (r := ons9 (rh9 n o γ).1 (n + 1) + k) (x := n) hC (by omega) ⟨a1, a2, a3, rfl, rfl⟩ of0 (by
          rw [DnW_A hC.1 hk hw z3 c.2]
          exact List.mem_singleton.mpr rfl)
        have q4 := q.2.2.2.1
        have q5 := q.2.2.2.2
        exact ⟨⟨a1, a2, a3, by omega, by rw [← q5]; exact z5⟩, hk.2.2.2.2.2 _ hw, Or.inr (clr_o _ _)⟩
      · exact absurd (by rw [id_n e, Int.mul_zero]) hδ
    · exact absurd rfl hδ
end XCHN
