section
/-! 99zzzzzzzzzzzzzzzzyq.xchf -/
-- CHAIN: a loop that goes (type A), in some states only
def knW (n o : Nat) (W : (Nat → Bool) → Prop) (P1 P2 P3 : Nat → Nat) (rel : (Nat → Bool) → Nat → Nat → Prop) : Prop := (∀ s, W s → s n = false → ∀ g, rel s o g → g = o) ∧ P1 n = o ∧ P3 n ≠ o ∧ (∀ y s, y < n → W s → s y = false → P1 y ≠ o ∧ P2 y ≠ o ∧ P3 y ≠ o) ∧ (∀ s y, W s → W (on9 s y)) ∧ ∀ s, W s → W (off9 s n)
noncomputable def hAW (n o : Nat) (W : (Nat → Bool) → Prop) (γ : gn9) : fc9 := if dcb (W γ.1) = true ∧ γ.1 n = true then [(par9 γ.1 n, rh9 n o γ)] else []
section XCHN
variable {n o V k : Nat} {W : (Nat → Bool) → Prop} {G : Nat → Prop} {P1 P2 P3 : Nat → Nat} {rel : (Nat → Bool) → Nat → Nat → Prop} {γ : gn9} {d p b : Int}
theorem knW_r (hC : cub9 (n + 1) P1 P2 P3 rel) (hk : knW n o W P1 P2 P3 rel) {u : Nat → Bool} (hw : W u) {g h : Nat} (hg : g ≠ o) (hh : h ≠ o) : rel (off9 u n) g h ↔ rel u g h := by
  obtain ⟨k1, k2, k3, k4, k5, k6⟩ := hk
  have k1 := k1 (off9 u n) (k6 u hw) off_x
  by_cases c : u n = true
  · have e := on_off c
    rcases hC.2 (off9 u n) n (by omega) off_x with ⟨h1, h2⟩ | ⟨h1, -⟩
    · rw [e] at h2
      rw [h2]
      constructor
      · exact Or.inl
      · rintro (h9 | ⟨h9, h8⟩ | ⟨h9, h8⟩)
        · exact h9
        · rw [k2] at h9
          exact absurd (k1 _ ((hC.1 _).2.1 _ _ h9)) hg
        · rw [k2] at h8
          exact absurd (k1 _ ((hC.1 _).2.1 _ _ h8)) hh
    · rw [k2] at h1
      exact absurd (k1 _ h1) k3
  · rw [off_f (by cases h : u n <;> simp_all)]
theorem DxW_rh (hC : cub9 (n + 1) P1 P2 P3 rel) (hk : knW n o W P1 P2 P3 rel) (hw : W γ.1) {y : Nat} (hy : y < n) (sy : γ.1 y = false) : Dx9 P1 P2 P3 rel y (rh9 n o γ) = (Dx9 P1 P2 P3 rel y γ).map (fun q => (q.1, rh9 n o q.2)) := by
  obtain ⟨p1, p2, p3⟩ := hk.2.2.2.1 y γ.1 hy hw sy
  have w2 := hk.2.2.2.2.1 γ.1 y hw
  have a1 : (rh9 n o γ).2 (P1 y) = γ.2 (P1 y) := clr_n p1
  have a3 : (rh9 n o γ).2 (P3 y) = γ.2 (P3 y) := clr_n p3
  have st : on9 (rh9 n o γ).1 y = off9 (on9 γ.1 y) n := (off_on (by omega)).symm
  have r1 : dcb (rel (rh9 n o γ).1 (P1 y) (P3 y)) = dcb (rel γ.1 (P1 y) (P3 y)) := dcb_c (knW_r hC hk hw p1 p3)
  have nb : (off9 (on9 γ.1 y) n) n = false := off_x
  have bt : ∀ (b : Bool) (a : Nat), a ≠ o → (fun g => (rh9 n o γ).2 g || (b && dcb (rel (on9 (rh9 n o γ).1 y) g a))) = clr9 (fun g => γ.2 g || (b && dcb (rel (on9 γ.1 y) g a))) o := fun b a ha => funext (fun g => by
    rw [st]
    by_cases e : g = o
    · rw [e, clr_o]
      show (clr9 γ.2 o o || (b && dcb (rel (off9 (on9 γ.1 y) n) o a))) = false
      rw [clr_o, dcb_f.mpr (fun h9 => ha (hk.1 _ (hk.2.2.2.2.2 _ w2) nb _ h9)), Bool.and_false]
      rfl
    · rw [clr_n e]
      show (clr9 γ.2 o g || (b && dcb (rel (off9 (on9 γ.1 y) n) g a))) = _
      rw [clr_n e, dcb_c (knW_r hC hk w2 e ha)])
  have bt1 : ∀ a : Nat, a ≠ o → (fun g => (rh9 n o γ).2 g || dcb (rel (on9 (rh9 n o γ).1 y) g a)) = clr9 (fun g => γ.2 g || dcb (rel (on9 γ.1 y) g a)) o := fun a ha => by
    have := bt true a ha
    simp only [Bool.true_and] at this
    exact this
  unfold Dx9
  rw [r1, a1, a3]
  by_cases c : dcb (rel γ.1 (P1 y) (P3 y)) = true
  · rw [if_pos c, if_pos c]
    by_cases c2 : γ.2 (P1 y) = true
    · rw [if_pos c2, if_pos c2, st]
      rfl
    · rw [if_neg c2, if_neg c2, bt1 _ p1, bt1 _ p2, st]
      rfl
  · rw [if_neg c, if_neg c]
    by_cases c2 : γ.2 (P1 y) = true ∧ γ.2 (P3 y) = true
    · rw [if_pos c2, if_pos c2]
      rfl
    · rw [if_neg c2, if_neg c2, bt _ _ p1, st]
      rfl
theorem DW_rh (hC : cub9 (n + 1) P1 P2 P3 rel) (hk : knW n o W P1 P2 P3 rel) (hw : W γ.1) : ∀ {k : Nat}, k ≤ n → D9 P1 P2 P3 rel k (rh9 n o γ) = (D9 P1 P2 P3 rel k γ).map (fun q => (q.1, rh9 n o q.2))
  | 0, _ => rfl
  | k + 1, h => by
    show D9 P1 P2 P3 rel k (rh9 n o γ) ++ (if (rh9 n o γ).1 k = true then [] else scf9 (par9 (rh9 n o γ).1 k) (Dx9 P1 P2 P3 rel k (rh9 n o γ))) = (D9 P1 P2 P3 rel k γ ++ (if γ.1 k = true then [] else scf9 (par9 γ.1 k) (Dx9 P1 P2 P3 rel k γ))).map _
    have e1 : (rh9 n o γ).1 k = γ.1 k := off_o (by omega)
    have e2 : par9 (rh9 n o γ).1 k = par9 γ.1 k := par_off (by omega)
    rw [List.map_append, DW_rh hC hk hw (by omega), e1, e2]
    refine congrArg _ ?_
    by_cases c : γ.1 k = true
    · rw [if_pos c, if_pos c]
      rfl
    · rw [if_neg c, if_neg c, DxW_rh hC hk hw (by omega) (by cases h9 : γ.1 k <;> simp_all)]
      unfold scf9
      rw [List.map_map, List.map_map]
      rfl
theorem DxW_o (hk : knW n o W P1 P2 P3 rel) (hw : W γ.1) {y : Nat} (hy : y < n) (sy : γ.1 y = false) (hn : γ.1 n = false) {q : Int × gn9} (h : q ∈ Dx9 P1 P2 P3 rel y γ) : q.2.2 o = γ.2 o := by
  obtain ⟨p1, p2, p3⟩ := hk.2.2.2.1 y γ.1 hy hw sy
  have w2 := hk.2.2.2.2.1 γ.1 y hw
  have nb : (on9 γ.1 y) n = false := by
    rw [on_o (by omega)]
    exact hn
  have no : ∀ a, a ≠ o → dcb (rel (on9 γ.1 y) o a) = false := fun a ha => dcb_f.mpr (fun h9 => ha (hk.1 _ w2 nb a h9))
  unfold Dx9 at h
  split at h
  · split at h
    · rw [List.mem_singleton.mp h]
    · rcases List.mem_cons.mp h with e | e
      · rw [e]
        show (γ.2 o || dcb (rel (on9 γ.1 y) o (P1 y))) = γ.2 o
        rw [no _ p1, Bool.or_false]
      · rw [List.mem_singleton.mp e]
        show (γ.2 o || dcb (rel (on9 γ.1 y) o (P2 y))) = γ.2 o
        rw [no _ p2, Bool.or_false]
  · split at h
    · exact absurd h List.not_mem_nil
    · rw [List.mem_singleton.mp h]
      show (γ.2 o || ((γ.2 (P1 y) || γ.2 (P3 y)) && dcb (rel (on9 γ.1 y) o (P1 y)))) = γ.2 o
      rw [no _ p1, Bool.and_false, Bool.or_false]
theorem DnW_A (hC : cub9 (n + 1) P1 P2 P3 rel) (hk : knW n o W P1 P2 P3 rel) (hw : W γ.1) (hv : vl9 rel γ) (hn : γ.1 n = true) : Dx9 P1 P2 P3 rel n (rh9 n o γ) = [(1, γ)] := by
  have e := on_off hn
  rcases hC.2 (off9 γ.1 n) n (by omega) off_x with ⟨h1, h2⟩ | ⟨h1, -⟩
  · rw [e] at h2
    have q : Dx9 P1 P2 P3 rel n (rh9 n o γ) = (if clr9 γ.2 o (P1 n) = true ∧ clr9 γ.2 o (P3 n) = true then [] else [(1, (on9 (off9 γ.1 n) n, fun g => clr9 γ.2 o g || ((clr9 γ.2 o (P1 n) || clr9 γ.2 o (P3 n)) && dcb (rel (on9 (off9 γ.1 n) n) g (P1 n)))))]) := if_neg (fun h9 => h1 (dcb_t.mp h9))
    rw [q, e, hk.2.1, clr_o, clr_n hk.2.2.1]
    rw [if_neg (fun h9 => by cases h9.1)]
    have r : (fun g => clr9 γ.2 o g || ((false || γ.2 (P3 n)) && dcb (rel γ.1 g o))) = γ.2 := funext (fun g => by
      have op : rel γ.1 o (P3 n) := by
        rw [h2, hk.2.1]
        exact adr_ab (hC.1 _)
      rw [Bool.false_or]
      by_cases eg : g = o
      · rw [eg, clr_o, dcb_t.mpr ((hC.1 _).1 o), Bool.and_true, Bool.false_or]
        exact (hv _ _ op).symm
      · rw [clr_n eg]
        by_cases c : rel γ.1 g o
        · rw [dcb_t.mpr c, Bool.and_true, hv _ _ ((hC.1 _).2.2 _ _ _ c op)]
          cases γ.2 (P3 n) <;> rfl
        · rw [dcb_f.mpr c, Bool.and_false, Bool.or_false])
    rw [r]
  · rw [hk.2.1] at h1
    exact absurd (hk.1 _ (hk.2.2.2.2.2 _ hw) off_x _ h1) hk.2.2.1
theorem hW_1 (hC : cub9 (n + 1) P1 P2 P3 rel) (hk : knW n o W P1 P2 P3 rel) (hw : W γ.1) (hv : vl9 rel γ) (hK : γ.1 n = true ∨ γ.2 o = false) : eq9 (bd9 (D9 P1 P2 P3 rel (n + 1)) (hAW n o W γ) ++ bd9 (hAW n o W) (D9 P1 P2 P3 rel (n + 1) γ)) [(1, γ)] := by
  have stn : ∀ q, q ∈ D9 P1 P2 P3 rel n γ → q.2.1 n = γ.1 n ∧ W q.2.1 := fun q hq => by
    obtain ⟨y, h1, -, h2, -⟩ := D_st hq
    rw [h2]
    exact ⟨on_o (by omega), hk.2.2.2.2.1 _ _ hw⟩
  have e0 : ∀ δ, D9 P1 P2 P3 rel (n + 1) δ = D9 P1 P2 P3 rel n δ ++ (if δ.1 n = true then [] else scf9 (par9 δ.1 n) (Dx9 P1 P2 P3 rel n δ)) := fun _ => rfl
  by_cases c : γ.1 n = true
  · have e1 : hAW n o W γ = [(par9 γ.1 n, rh9 n o γ)] := if_pos ⟨dcb_t.mpr hw, c⟩
    have of0 : (rh9 n o γ).1 n = false := off_x
    have e2 : bd9 (D9 P1 P2 P3 rel (n + 1)) [(par9 γ.1 n, rh9 n o γ)] = scf9 (par9 γ.1 n) (D9 P1 P2 P3 rel (n + 1) (rh9 n o γ)) ++ [] := rfl
    have e4 : D9 P1 P2 P3 rel (n + 1) γ = D9 P1 P2 P3 rel n γ := by
      rw [e0, if_pos c, List.append_nil]
    have e3 : eq9 (bd9 (hAW n o W) (D9 P1 P2 P3 rel n γ)) (scf9 (-par9 γ.1 n) (D9 P1 P2 P3 rel n (rh9 n o γ))) := by
      rw [DW_rh hC hk hw (Nat.le_refl n)]
      refine bd_map (c := -par9 γ.1 n) (κ := rh9 n o) (fun q hq => ?_)
      have h1 : hAW n o W q.2 = [(par9 q.2.1 n, rh9 n o q.2)] := if_pos ⟨dcb_t.mpr (stn q hq).2, (stn q hq).1.trans c⟩
      rw [h1]
      obtain ⟨y, h2, h3, h4, -⟩ := D_st hq
      rw [h4, par_hi h3 h2]
    rw [e1, e2, e4, List.append_nil]
    refine eq_t (eq_a eq_r e3) (fun δ => ?_)
    rw [cf_a, cf_sc, cf_sc, e0, cf_a, if_neg (by rw [of0]; decide), cf_sc, DnW_A hC hk hw hv c]
    have pe : par9 (rh9 n o γ).1 n = par9 γ.1 n := par_off (Nat.le_refl n)
    rw [pe, Int.mul_add, ← Int.mul_assoc, par_2, Int.neg_mul, Int.one_mul]
    omega
  · have cf : γ.1 n = false := by cases h : γ.1 n <;> simp_all
    have ko : γ.2 o = false := hK.resolve_left c
    have e1 : hAW n o W γ = [] := if_neg (fun h9 => c h9.2)
    have e2 : bd9 (D9 P1 P2 P3 rel (n + 1)) [] = [] := rfl
    rw [e1, e2, List.nil_append, e0, if_neg c]
    refine eq_t (bd_a rfl) ?_
    have z1 : eq9 (bd9 (hAW n o W) (D9 P1 P2 P3 rel n γ)) [] := bd_nil (fun q hq => if_neg (fun h9 => c ((stn q hq).1.symm.trans h9.2)))
    refine eq_t (eq_a z1 eq_r) ?_
    rw [List.nil_append]
    rcases hC.2 γ.1 n (by omega) cf with ⟨h1, h2⟩ | ⟨h1, -⟩
    · have q : Dx9 P1 P2 P3 rel n γ = (if γ.2 (P1 n) = true ∧ γ.2 (P3 n) = true then [] else [(1, (on9 γ.1 n, fun g => γ.2 g || ((γ.2 (P1 n) || γ.2 (P3 n)) && dcb (rel (on9 γ.1 n) g (P1 n)))))]) := if_neg (fun h9 => h1 (dcb_t.mp h9))
      rw [q, hk.2.1, ko, if_neg (fun h9 => by cases h9.1), Bool.false_or]
      show eq9 (bd9 (hAW n o W) [(par9 γ.1 n * 1, (on9 γ.1 n, fun g => γ.2 g || (γ.2 (P3 n) && dcb (rel (on9 γ.1 n) g o))))]) [(1, γ)]
      have r : rh9 n o (on9 γ.1 n, fun g => γ.2 g || (γ.2 (P3 n) && dcb (rel (on9 γ.1 n) g o))) = γ := by
        refine Prod.ext (off_on2 cf) (funext (fun g => ?_))
        show clr9 (fun g => γ.2 g || (γ.2 (P3 n) && dcb (rel (on9 γ.1 n) g o))) o g = γ.2 g
        by_cases eg : g = o
        · rw [eg, clr_o, ko]
        · rw [clr_n eg]
          by_cases c2 : rel (on9 γ.1 n) g o
          · have g3 : rel γ.1 g (P3 n) := by
              rcases (h2 g o).mp c2 with h9 | ⟨h9, h8⟩ | ⟨h9, h8⟩
              · exact absurd (hk.1 _ hw cf _ ((hC.1 _).2.1 _ _ h9)) eg
              · rw [hk.2.1] at h9
                exact absurd (hk.1 _ hw cf _ ((hC.1 _).2.1 _ _ h9)) eg
              · exact h9
            rw [dcb_t.mpr c2, Bool.and_true, hv _ _ g3]
            cases γ.2 (P3 n) <;> rfl
          · rw [dcb_f.mpr c2, Bool.and_false, Bool.or_false]
      intro δ
      have hh : hAW n o W (on9 γ.1 n, fun g => γ.2 g || (γ.2 (P3 n) && dcb (rel (on9 γ.1 n) g o))) = [(par9 (on9 γ.1 n) n, γ)] := by
        refine (if_pos ⟨dcb_t.mpr (hk.2.2.2.2.1 _ _ hw), on_x⟩).trans ?_
        rw [r]
      rw [cf_bd]
      show par9 γ.1 n * 1 * cf9 (hAW n o W (on9 γ.1 n, fun g => γ.2 g || (γ.2 (P3 n) && dcb (rel (on9 γ.1 n) g o)))) δ + 0 = 1 * id9 δ γ + 0
      rw [hh, par_lo (Nat.le_refl n)]
      show par9 γ.1 n * 1 * (par9 γ.1 n * id9 δ γ + 0) + 0 = 1 * id9 δ γ + 0
      rw [Int.mul_one, Int.add_zero, Int.add_zero, ← Int.mul_assoc, par_2]
      omega
    · rw [hk.2.1] at h1
      exact absurd (hk.1 _ hw cf _ h1) hk.2.2.1
def KA9 (n o : Nat) (W : (Nat → Bool) → Prop) (γ : gn9) : Prop := W γ.1 ∧ (γ.1 n = true ∨ γ.2 o = false)
/-- the quotient by the loop that goes -/
theorem quoA {r : Nat} {E' : Nat → Nat → gn9} {N' : Nat → Nat} (hp : pr9 p) (hi : iv9 p) (hC : cu9 (n + 1) V G P1 P2 P3 rel) (hk : knW n o W P1 P2 P3 rel) (hb : be9 p (Sg9 (n + 1) V G rel k d) (D9 P1 P2 P3 rel (n + 1)) r b) (he' : ∀ r, en9 (fun γ => Sg9 (n + 1) V G rel k d r γ ∧ ¬ KA9 n o W γ) (E' r) (N' r)) : cg9 (fun r γ => Sg9 (n + 1) V G rel k d r γ ∧ ¬ KA9 n o W γ) (fun γ => flt9 (KA9 n o W) (D9 P1 P2 P3 rel (n + 1) γ)) ∧ (N' (r + 1) : Int) = b + rn9 p E' N' (fun γ => flt9 (KA9 n o W) (D9 P1 P2 P3 rel (n + 1) γ)) (r + 1) + rn9 p E' N' (fun γ => flt9 (KA9 n o W) (D9 P1 P2 P3 rel (n + 1) γ)) r := by
  refine quoK (h := hAW n o W) hp hi (cu_cg hC) (fun r γ hγ hK δ hδ => ?_) (fun r γ hγ δ hδ => ?_) (fun r γ hγ hK => hW_1 hC.1 hk hK.1 hγ.2.2.1 hK.2) r hb he'
  · obtain ⟨q, q1, q2⟩ := cf_mem hδ
    obtain ⟨y, y1, y2, y3, c, y4⟩ := D_st q1
    rw [← q2]
    refine ⟨by rw [y3]; exact hk.2.2.2.2.1 _ _ hK.1, ?_⟩
    by_cases e : y = n
    · rw [y3, e, on_x]
      exact Or.inl rfl
    · rcases hK.2 with h1 | h1
      · left
        rw [y3, on_o (by omega)]
        exact h1
      · by_cases h2 : γ.1 n = true
        · left
          rw [y3, on_o (by omega)]
          exact h2
        · right
          have h3 : γ.1 n = false := by cases h : γ.1 n <;> simp_all
          exact (DxW_o hk hK.1 (by omega) y2 h3 y4).trans h1
  · unfold hAW at hδ
    split at hδ
    · rename_i c
      have hw := dcb_t.mp c.1
      rw [cf_1] at hδ
      by_cases e : rh9 n o γ = δ
      · rw [← e]
        obtain ⟨z1, z2, z3, z4, z5⟩ := hγ
        have of0 : (rh9 n o γ).1 n = false := off_x
        have a1 : ∀ y, n + 1 ≤ y → (rh9 n o γ).1 y = false := fun y hy => by
          show off9 γ.1 n y = false
          rw [off_o (by omega)]
          exact z1 y hy
        have a2 : ∀ g, ¬ G g → (rh9 n o γ).2 g = false := fun g hg => by
          show clr9 γ.2 o g = false
          by_cases e9 : g = o
          · rw [e9, clr_o]
          · rw [clr_n e9]
            exact z2 g hg
        have a3 : vl9 rel (rh9 n o γ) := fun g h h1 => by
          have h1 : rel (off9 γ.1 n) g h := h1
          show clr9 γ.2 o g = clr9 γ.2 o h
          by_cases e9 : g = o
          · rw [e9] at h1 ⊢
            rw [hk.1 _ (hk.2.2.2.2.2 _ hw) off_x _ h1]
          · by_cases e8 : h = o
            · rw [e8] at h1
              exact absurd (hk.1 _ (hk.2.2.2.2.2 _ hw) off_x _ ((hC.1.1 _).2.1 _ _ h1)) e9
            · rw [clr_n e9, clr_n e8]
              exact z3 g h ((knW_r hC.1 hk hw e9 e8).mp h1)
        have q := Dx_ok (c := 1) (δ := γ) (k := k) (d := dg9 rel G V (n + 1) (rh9 n o γ)) (r := ons9 (rh9 n o γ).1 (n + 1) + k) (x := n) hC (by omega) ⟨a1, a2, a3, rfl, rfl⟩ of0 (by
          rw [DnW_A hC.1 hk hw z3 c.2]
          exact List.mem_singleton.mpr rfl)
        have q4 := q.2.2.2.1
        have q5 := q.2.2.2.2
        exact ⟨⟨a1, a2, a3, by omega, by rw [← q5]; exact z5⟩, hk.2.2.2.2.2 _ hw, Or.inr (clr_o _ _)⟩
      · exact absurd (by rw [id_n e, Int.mul_zero]) hδ
    · exact absurd rfl hδ
end XCHN
end
section
/-! 99zzzzzzzzzzzzzzzzyr.xchg -/
-- CHAIN: a kink of type A; a loop that comes (type B)
def stt9 (m : Nat → Bool) (o : Nat) (b : Bool) : Nat → Bool := fun g => if g = o then b else m g
def lo9 (n o a : Nat) (γ : gn9) : gn9 := (off9 γ.1 n, stt9 γ.2 o (γ.2 a))
def hB9 (n o a : Nat) (γ : gn9) : fc9 := if γ.1 n = true ∧ γ.2 o = true then [(par9 γ.1 n, lo9 n o a γ)] else []
def knB (n o : Nat) (W : (Nat → Bool) → Prop) (P1 P2 P3 : Nat → Nat) (rel : (Nat → Bool) → Nat → Nat → Prop) : Prop := (∀ s, W s → s n = true → ∀ g, rel s o g → g = o) ∧ P1 n = o ∧ (∀ y s, y < n → W s → s y = false → P1 y ≠ o ∧ P2 y ≠ o ∧ P3 y ≠ o) ∧ (∀ s y, y ≤ n → W s → W (on9 s y)) ∧ ∀ s, W s → W (off9 s n)
section XCHO
variable {n o V k : Nat} {W : (Nat → Bool) → Prop} {G : Nat → Prop} {P1 P2 P3 : Nat → Nat} {rel : (Nat → Bool) → Nat → Nat → Prop} {γ δ : gn9} {d p b : Int} {R : Nat → Nat → Prop} {Q : Nat → Prop}
theorem st_o (m : Nat → Bool) (o : Nat) (b : Bool) : stt9 m o b o = b := if_pos rfl
theorem st_n {m : Nat → Bool} {o g : Nat} {b : Bool} (h : g ≠ o) : stt9 m o b g = m g := if_neg h
theorem ff_of {c : Bool} (h : ¬ c = true) : c = false := by cases c <;> simp_all
/-- a loop of one gap less -/
theorem cls_o (hV : ∀ g, G g → g < V) (ho : G o) (hR : eqv9 R) (hal : ∀ g, R o g → g = o) : (Q o → cls9 R G V Q = cls9 R (fun g => G g ∧ g ≠ o) V Q + 1) ∧ (¬ Q o → cls9 R G V Q = cls9 R (fun g => G g ∧ g ≠ o) V Q) := by
  have e : ∀ g, ld9 R G g ↔ ld9 R (fun g => G g ∧ g ≠ o) g ∨ g = o := fun g => by
    constructor
    · intro h9
      by_cases c : g = o
      · exact Or.inr c
      · exact Or.inl ⟨⟨h9.1, c⟩, fun h h1 h2 h3 => h9.2 h h1 h2.1 h3⟩
    · rintro (h9 | h9)
      · refine ⟨h9.1.1, fun h h1 h2 h3 => ?_⟩
        by_cases c : h = o
        · rw [c] at h3
          exact h9.1.2 (hal g h3)
        · exact h9.2 h h1 ⟨h2, c⟩ h3
      · rw [h9]
        refine ⟨ho, fun h h1 h2 h3 => ?_⟩
        have := hal h (hR.2.1 _ _ h3)
        omega
  constructor
  · intro q
    refine cn_one (a := o) (hV o ho) (fun h9 => h9.1.1.2 rfl) (fun g _ => ⟨fun h9 => ?_, fun h9 => ?_⟩)
    · rcases (e g).mp h9.1 with h8 | h8
      · exact Or.inl ⟨h8, h9.2⟩
      · exact Or.inr h8
    · rcases h9 with h8 | h8
      · exact ⟨(e g).mpr (Or.inl h8.1), h8.2⟩
      · rw [h8]
        exact ⟨(e o).mpr (Or.inr rfl), q⟩
  · intro q
    refine cn_cg (fun g _ => ⟨fun h9 => ?_, fun h9 => ⟨(e g).mpr (Or.inl h9.1), h9.2⟩⟩)
    rcases (e g).mp h9.1 with h8 | h8
    · exact ⟨h8, h9.2⟩
    · rw [h8] at h9
      exact absurd h9.2 q
/-- a kink of type A goes -/
theorem r1A {r : Nat} (hp : pr9 p) (hi : iv9 p) (hC : cu9 (n + 1) V G P1 P2 P3 rel) (ho : G o) (hk : knW n o (fun _ => True) P1 P2 P3 rel) (hb : be9 p (Sg9 (n + 1) V G rel k d) (D9 P1 P2 P3 rel (n + 1)) r b) : cu9 n V (fun g => G g ∧ g ≠ o) P1 P2 P3 rel ∧ be9 p (Sg9 n V (fun g => G g ∧ g ≠ o) rel k (d + 1)) (D9 P1 P2 P3 rel n) r b := by
  have hC' : cu9 n V (fun g => G g ∧ g ≠ o) P1 P2 P3 rel := by
    refine ⟨⟨hC.1.1, fun s x hx => hC.1.2 s x (by omega)⟩, fun s hz g h h1 hne => ?_, fun g hg => hC.2.2.1 g hg.1, fun x hx => ?_⟩
    · have al := hk.1 s trivial (hz n (Nat.le_refl n))
      obtain ⟨q1, q2⟩ := hC.2.1 s (fun y hy => hz y (by omega)) g h h1 hne
      refine ⟨⟨q1, fun h9 => ?_⟩, q2, fun h9 => ?_⟩
      · rw [h9] at h1 hne
        exact hne (al h h1).symm
      · rw [h9] at h1 hne
        exact hne (al g ((hC.1.1 s).2.1 _ _ h1))
    · obtain ⟨a1, a2, a3⟩ := hC.2.2.2 x (by omega)
      obtain ⟨b1, b2, b3⟩ := hk.2.2.2.1 x (fun _ => false) hx trivial rfl
      exact ⟨⟨a1, b1⟩, ⟨a2, b2⟩, a3, b3⟩
  refine ⟨hC', ?_⟩
  obtain ⟨E2, N2, he2⟩ := fi_en (S := fun r γ => Sg9 (n + 1) V G rel k d r γ ∧ ¬ KA9 n o (fun _ => True) γ) (fun r => en_ex (n := n + 1) (V := V) (fun γ hγ => ⟨hγ.1.1, fun g hg => hγ.1.2.1 g (fun h9 => by
    have := hC.2.2.1 g h9
    omega)⟩))
  obtain ⟨hC2, hN2⟩ := quoA hp hi hC hk hb he2
  have hb2 : be9 p (fun r γ => Sg9 (n + 1) V G rel k d r γ ∧ ¬ KA9 n o (fun _ => True) γ) (fun γ => flt9 (KA9 n o (fun _ => True)) (D9 P1 P2 P3 rel (n + 1) γ)) r b := ⟨E2, N2, he2, hN2⟩
  obtain ⟨E', N', he'⟩ := fi_en (Sg_en (k := k) (d := d + 1) hC')
  refine ⟨E', N', he', ?_⟩
  have nK : ∀ γ : gn9, ¬ KA9 n o (fun _ => True) γ → γ.1 n = false ∧ γ.2 o = true := fun γ h => by
    refine ⟨ff_of (fun h9 => h ⟨trivial, Or.inl h9⟩), ?_⟩
    cases h9 : γ.2 o
    · exact absurd ⟨trivial, Or.inr h9⟩ h
    · rfl
  have on_ : ∀ s : Nat → Bool, s n = false → ons9 s (n + 1) = ons9 s n := fun s h => by
    rw [ons_s, h]
    rfl
  have deg : ∀ γ γ' : gn9, γ'.1 = γ.1 → (∀ g, g ≠ o → γ'.2 g = γ.2 g) → γ.1 n = false → γ.2 o = true → dg9 rel (fun g => G g ∧ g ≠ o) V n γ' = dg9 rel G V (n + 1) γ + 1 := fun γ γ' e1 e2 e3 e4 => by
    have al := hk.1 γ.1 trivial e3
    have L := (cls_o (Q := fun _ => True) hC.2.2.1 ho (hC.1.1 γ.1) al).1 trivial
    have M := (cls_o (Q := fun g => γ.2 g = true) hC.2.2.1 ho (hC.1.1 γ.1) al).1 e4
    have M2 : cls9 (rel γ.1) (fun g => G g ∧ g ≠ o) V (fun g => γ'.2 g = true) = cls9 (rel γ.1) (fun g => G g ∧ g ≠ o) V (fun g => γ.2 g = true) := cl_cg (fun g hg => by rw [e2 g hg.2])
    unfold dg9
    rw [e1, M2, L, M, on_ _ e3]
    omega
  refine isoT hp hi hC2 (cu_cg hC') (fun γ => (γ.1, clr9 γ.2 o)) (fun γ => (γ.1, stt9 γ.2 o true)) (fun _ => 1) (fun _ => rfl) (fun r γ hγ => ?_) (fun r γ hγ => ?_) (fun r γ hγ => ?_) r hb2 he'
  · obtain ⟨⟨z1, z2, z3, z4, z5⟩, zk⟩ := hγ
    obtain ⟨f1, f2⟩ := nK γ zk
    have al := hk.1 γ.1 trivial f1
    refine ⟨⟨fun y hy => ?_, fun g hg => ?_, fun g h h1 => ?_, ?_, ?_⟩, Prod.ext rfl (funext (fun g => ?_))⟩
    · by_cases e : y = n
      · rw [e]
        exact f1
      · exact z1 y (by omega)
    · show clr9 γ.2 o g = false
      by_cases e : g = o
      · rw [e, clr_o]
      · rw [clr_n e]
        exact z2 g (fun h9 => hg ⟨h9, e⟩)
    · show clr9 γ.2 o g = clr9 γ.2 o h
      have h1 : rel γ.1 g h := h1
      by_cases e : g = o
      · rw [e] at h1 ⊢
        rw [al h h1]
      · by_cases e2 : h = o
        · rw [e2] at h1
          exact absurd (al g ((hC.1.1 _).2.1 _ _ h1)) e
        · rw [clr_n e, clr_n e2]
          exact z3 g h h1
    · show ons9 γ.1 n + k = r
      rw [← on_ _ f1]
      exact z4
    · rw [← z5]
      exact deg γ (γ.1, clr9 γ.2 o) rfl (fun g hg => clr_n hg) f1 f2
    · show stt9 (clr9 γ.2 o) o true g = γ.2 g
      by_cases e : g = o
      · rw [e, st_o, f2]
      · rw [st_n e, clr_n e]
  · obtain ⟨z1, z2, z3, z4, z5⟩ := hγ
    have f1 := z1 n (Nat.le_refl n)
    have al := hk.1 γ.1 trivial f1
    refine ⟨⟨⟨fun y hy => z1 y (by omega), fun g hg => ?_, fun g h h1 => ?_, ?_, ?_⟩, fun h9 => ?_⟩, Prod.ext rfl (funext (fun g => ?_))⟩
    · show stt9 γ.2 o true g = false
      rw [st_n (show g ≠ o from fun h9 => hg (h9 ▸ ho))]
      exact z2 g (fun h9 => hg h9.1)
    · show stt9 γ.2 o true g = stt9 γ.2 o true h
      have h1 : rel γ.1 g h := h1
      by_cases e : g = o
      · rw [e] at h1 ⊢
        rw [al h h1]
      · by_cases e2 : h = o
        · rw [e2] at h1
          exact absurd (al g ((hC.1.1 _).2.1 _ _ h1)) e
        · rw [st_n e, st_n e2]
          exact z3 g h h1
    · show ons9 γ.1 (n + 1) + k = r
      rw [on_ _ f1]
      exact z4
    · have := deg (γ.1, stt9 γ.2 o true) γ rfl (fun g hg => (st_n hg).symm) f1 (st_o _ _ _)
      rw [z5] at this
      omega
    · rcases h9.2 with h8 | h8
      · have h8 : γ.1 n = true := h8
        rw [f1] at h8
        cases h8
      · have h8 : stt9 γ.2 o true o = false := h8
        rw [st_o] at h8
        cases h8
    · show clr9 (stt9 γ.2 o true) o g = γ.2 g
      by_cases e : g = o
      · rw [e, clr_o, z2 o (fun h9 => h9.2 rfl)]
      · rw [clr_n e, st_n e]
  · obtain ⟨⟨z1, z2, z3, z4, z5⟩, zk⟩ := hγ
    obtain ⟨f1, f2⟩ := nK γ zk
    have e0 : D9 P1 P2 P3 rel (n + 1) γ = D9 P1 P2 P3 rel n γ ++ scf9 (par9 γ.1 n) (Dx9 P1 P2 P3 rel n γ) := by
      show D9 P1 P2 P3 rel n γ ++ (if γ.1 n = true then [] else scf9 (par9 γ.1 n) (Dx9 P1 P2 P3 rel n γ)) = _
      rw [if_neg (by rw [f1]; decide)]
    have e1 : flt9 (KA9 n o (fun _ => True)) (D9 P1 P2 P3 rel (n + 1) γ) = D9 P1 P2 P3 rel n γ := by
      rw [e0]
      unfold flt9
      rw [List.filter_append]
      have q1 : (D9 P1 P2 P3 rel n γ).filter (fun q => !dcb (KA9 n o (fun _ => True) q.2)) = D9 P1 P2 P3 rel n γ := List.filter_eq_self.mpr (fun q hq => by
        obtain ⟨y, y1, y2, y3, c, y4⟩ := D_st hq
        rw [dcb_f.mpr (fun h9 => ?_)]
        · rfl
        · rcases h9.2 with h8 | h8
          · rw [y3, on_o (by omega), f1] at h8
            cases h8
          · rw [DxW_o hk trivial y1 y2 f1 y4, f2] at h8
            cases h8)
      have q2 : (scf9 (par9 γ.1 n) (Dx9 P1 P2 P3 rel n γ)).filter (fun q => !dcb (KA9 n o (fun _ => True) q.2)) = [] := List.filter_eq_nil_iff.mpr (fun q hq => by
        obtain ⟨t, t1, t2⟩ := List.mem_map.mp hq
        have := Dx_st t1
        rw [← t2]
        rw [dcb_t.mpr ⟨trivial, Or.inl (by rw [this, on_x])⟩]
        decide)
      rw [q1, q2, List.append_nil]
    have rhe : ∀ δ : gn9, δ.1 n = false → rh9 n o δ = (δ.1, clr9 δ.2 o) := fun δ h => Prod.ext (off_f h) rfl
    show eq9 (bd9 (fun δ => [(1, (δ.1, clr9 δ.2 o))]) (flt9 (KA9 n o (fun _ => True)) (D9 P1 P2 P3 rel (n + 1) γ))) (scf9 1 (D9 P1 P2 P3 rel n (γ.1, clr9 γ.2 o)))
    rw [e1, ← rhe γ f1, DW_rh hC.1 hk trivial (Nat.le_refl n)]
    refine bd_map (c := 1) (κ := rh9 n o) (fun q hq => ?_)
    obtain ⟨y, y1, y2, y3, -⟩ := D_st hq
    rw [rhe q.2 (by rw [y3, on_o (by omega)]; exact f1)]
theorem knB_s (hC : cub9 (n + 1) P1 P2 P3 rel) (hk : knB n o W P1 P2 P3 rel) {s : Nat → Bool} (hw : W s) (hs : s n = true) : P2 n ≠ o ∧ (∀ g h, rel (off9 s n) g h ↔ adr (rel s) o (P2 n) g h) ∧ rel (off9 s n) o (P3 n) := by
  have e := on_off hs
  have al := hk.1 s hw hs
  rcases hC.2 (off9 s n) n (by omega) off_x with ⟨h1, h2⟩ | ⟨h1, h2, h3⟩
  · rw [e, hk.2.1] at h2
    rw [hk.2.1] at h1
    have := al _ ((h2 o (P3 n)).mpr (adr_ab (hC.1 _)))
    rw [this] at h1
    exact absurd ((hC.1 _).1 o) h1
  · rw [e, hk.2.1] at h2 h3
    rw [hk.2.1] at h1
    exact ⟨fun h9 => h2 (by rw [h9]; exact (hC.1 _).1 o), h3, h1⟩
theorem knB_r (hC : cub9 (n + 1) P1 P2 P3 rel) (hk : knB n o W P1 P2 P3 rel) {s : Nat → Bool} (hw : W s) (hs : s n = true) {g h : Nat} (hg : g ≠ o) (hh : h ≠ o) : rel (off9 s n) g h ↔ rel s g h := by
  obtain ⟨-, h2, -⟩ := knB_s hC hk hw hs
  have al := hk.1 s hw hs
  rw [h2]
  constructor
  · rintro (h9 | ⟨h9, -⟩ | ⟨-, h9⟩)
    · exact h9
    · exact absurd (al g ((hC.1 _).2.1 _ _ h9)) hg
    · exact absurd (al h ((hC.1 _).2.1 _ _ h9)) hh
  · exact Or.inl
theorem knB_o (hC : cub9 (n + 1) P1 P2 P3 rel) (hk : knB n o W P1 P2 P3 rel) {s : Nat → Bool} (hw : W s) (hs : s n = true) {h : Nat} (hh : h ≠ o) : rel (off9 s n) o h ↔ rel s (P2 n) h := by
  obtain ⟨h1, h2, -⟩ := knB_s hC hk hw hs
  have al := hk.1 s hw hs
  rw [h2]
  constructor
  · rintro (h9 | ⟨-, h9⟩ | ⟨h9, -⟩)
    · exact absurd (al h h9) hh
    · exact (hC.1 _).2.1 _ _ h9
    · exact absurd (al _ h9) h1
  · intro h9
    exact Or.inr (Or.inl ⟨(hC.1 _).1 o, (hC.1 _).2.1 _ _ h9⟩)
theorem DxB_lo (hC : cub9 (n + 1) P1 P2 P3 rel) (hk : knB n o W P1 P2 P3 rel) (hw : W γ.1) (hn : γ.1 n = true) {y : Nat} (hy : y < n) (sy : γ.1 y = false) : Dx9 P1 P2 P3 rel y (lo9 n o (P2 n) γ) = (Dx9 P1 P2 P3 rel y γ).map (fun q => (q.1, lo9 n o (P2 n) q.2)) := by
  obtain ⟨p1, p2, p3⟩ := hk.2.2.1 y γ.1 hy hw sy
  have w2 := hk.2.2.2.1 γ.1 y (by omega) hw
  have n2 : (on9 γ.1 y) n = true := by rw [on_o (by omega)]; exact hn
  obtain ⟨q1, -, -⟩ := knB_s hC hk hw hn
  have a1 : (lo9 n o (P2 n) γ).2 (P1 y) = γ.2 (P1 y) := st_n p1
  have a3 : (lo9 n o (P2 n) γ).2 (P3 y) = γ.2 (P3 y) := st_n p3
  have st : on9 (lo9 n o (P2 n) γ).1 y = off9 (on9 γ.1 y) n := (off_on (by omega)).symm
  have r1 : dcb (rel (lo9 n o (P2 n) γ).1 (P1 y) (P3 y)) = dcb (rel γ.1 (P1 y) (P3 y)) := dcb_c (knB_r hC hk hw hn p1 p3)
  have bt : ∀ (b : Bool) (a : Nat), a ≠ o → (fun g => (lo9 n o (P2 n) γ).2 g || (b && dcb (rel (on9 (lo9 n o (P2 n) γ).1 y) g a))) = stt9 (fun g => γ.2 g || (b && dcb (rel (on9 γ.1 y) g a))) o (γ.2 (P2 n) || (b && dcb (rel (on9 γ.1 y) (P2 n) a))) := fun b a ha => funext (fun g => by
    rw [st]
    by_cases e : g = o
    · rw [e, st_o]
      show (stt9 γ.2 o (γ.2 (P2 n)) o || (b && dcb (rel (off9 (on9 γ.1 y) n) o a))) = _
      rw [st_o, dcb_c (knB_o hC hk w2 n2 ha)]
    · rw [st_n e]
      show (stt9 γ.2 o (γ.2 (P2 n)) g || (b && dcb (rel (off9 (on9 γ.1 y) n) g a))) = _
      rw [st_n e, dcb_c (knB_r hC hk w2 n2 e ha)])
  have bt1 : ∀ a : Nat, a ≠ o → (fun g => (lo9 n o (P2 n) γ).2 g || dcb (rel (on9 (lo9 n o (P2 n) γ).1 y) g a)) = stt9 (fun g => γ.2 g || dcb (rel (on9 γ.1 y) g a)) o (γ.2 (P2 n) || dcb (rel (on9 γ.1 y) (P2 n) a)) := fun a ha => by
    have := bt true a ha
    simp only [Bool.true_and] at this
    exact this
  unfold Dx9
  rw [r1, a1, a3]
  by_cases c : dcb (rel γ.1 (P1 y) (P3 y)) = true
  · rw [if_pos c, if_pos c]
    by_cases c2 : γ.2 (P1 y) = true
    · rw [if_pos c2, if_pos c2, st]
      rfl
    · rw [if_neg c2, if_neg c2, bt1 _ p1, bt1 _ p2, st]
      rfl
  · rw [if_neg c, if_neg c]
    by_cases c2 : γ.2 (P1 y) = true ∧ γ.2 (P3 y) = true
    · rw [if_pos c2, if_pos c2]
      rfl
    · rw [if_neg c2, if_neg c2, bt _ _ p1, st]
      rfl
theorem DB_lo (hC : cub9 (n + 1) P1 P2 P3 rel) (hk : knB n o W P1 P2 P3 rel) (hw : W γ.1) (hn : γ.1 n = true) : ∀ {k : Nat}, k ≤ n → D9 P1 P2 P3 rel k (lo9 n o (P2 n) γ) = (D9 P1 P2 P3 rel k γ).map (fun q => (q.1, lo9 n o (P2 n) q.2))
  | 0, _ => rfl
  | k + 1, h => by
    show D9 P1 P2 P3 rel k (lo9 n o (P2 n) γ) ++ (if (lo9 n o (P2 n) γ).1 k = true then [] else scf9 (par9 (lo9 n o (P2 n) γ).1 k) (Dx9 P1 P2 P3 rel k (lo9 n o (P2 n) γ))) = (D9 P1 P2 P3 rel k γ ++ (if γ.1 k = true then [] else scf9 (par9 γ.1 k) (Dx9 P1 P2 P3 rel k γ))).map _
    have e1 : (lo9 n o (P2 n) γ).1 k = γ.1 k := off_o (by omega)
    have e2 : par9 (lo9 n o (P2 n) γ).1 k = par9 γ.1 k := par_off (by omega)
    rw [List.map_append, DB_lo hC hk hw hn (by omega), e1, e2]
    refine congrArg _ ?_
    by_cases c : γ.1 k = true
    · rw [if_pos c, if_pos c]
      rfl
    · rw [if_neg c, if_neg c, DxB_lo hC hk hw hn (by omega) (ff_of c)]
      unfold scf9
      rw [List.map_map, List.map_map]
      rfl
theorem DxB_o (hk : knB n o W P1 P2 P3 rel) (hw : W γ.1) (hn : γ.1 n = true) {y : Nat} (hy : y < n) (sy : γ.1 y = false) {q : Int × gn9} (h : q ∈ Dx9 P1 P2 P3 rel y γ) : q.2.2 o = γ.2 o := by
  obtain ⟨p1, p2, p3⟩ := hk.2.2.1 y γ.1 hy hw sy
  have w2 := hk.2.2.2.1 γ.1 y (by omega) hw
  have n2 : (on9 γ.1 y) n = true := by rw [on_o (by omega)]; exact hn
  have no : ∀ a, a ≠ o → dcb (rel (on9 γ.1 y) o a) = false := fun a ha => dcb_f.mpr (fun h9 => ha (hk.1 _ w2 n2 a h9))
  unfold Dx9 at h
  split at h
  · split at h
    · rw [List.mem_singleton.mp h]
    · rcases List.mem_cons.mp h with e | e
      · rw [e]
        show (γ.2 o || dcb (rel (on9 γ.1 y) o (P1 y))) = γ.2 o
        rw [no _ p1, Bool.or_false]
      · rw [List.mem_singleton.mp e]
        show (γ.2 o || dcb (rel (on9 γ.1 y) o (P2 y))) = γ.2 o
        rw [no _ p2, Bool.or_false]
  · split at h
    · exact absurd h List.not_mem_nil
    · rw [List.mem_singleton.mp h]
      show (γ.2 o || ((γ.2 (P1 y) || γ.2 (P3 y)) && dcb (rel (on9 γ.1 y) o (P1 y)))) = γ.2 o
      rw [no _ p1, Bool.and_false, Bool.or_false]
/-- the turned crossing of what lies below -/
theorem DnB (hC : cub9 (n + 1) P1 P2 P3 rel) (hk : knB n o W P1 P2 P3 rel) (hw : W γ.1) (hn : γ.1 n = true) (hm : γ.2 o = true) : (1, γ) ∈ Dx9 P1 P2 P3 rel n (lo9 n o (P2 n) γ) ∧ ∀ δ : gn9, (δ.1 n = true → δ.2 o = true) → cf9 (Dx9 P1 P2 P3 rel n (lo9 n o (P2 n) γ)) δ = id9 δ γ := by
  have e := on_off hn
  obtain ⟨q1, q2, q3⟩ := knB_s hC hk hw hn
  have al := hk.1 γ.1 hw hn
  have q : Dx9 P1 P2 P3 rel n (lo9 n o (P2 n) γ) = (if stt9 γ.2 o (γ.2 (P2 n)) (P1 n) = true then [(1, (on9 (off9 γ.1 n) n, stt9 γ.2 o (γ.2 (P2 n))))] else [(1, (on9 (off9 γ.1 n) n, fun g => stt9 γ.2 o (γ.2 (P2 n)) g || dcb (rel (on9 (off9 γ.1 n) n) g (P1 n)))), (1, (on9 (off9 γ.1 n) n, fun g => stt9 γ.2 o (γ.2 (P2 n)) g || dcb (rel (on9 (off9 γ.1 n) n) g (P2 n))))]) := if_pos (dcb_t.mpr (by rw [hk.2.1]; exact q3))
  rw [q, e, hk.2.1, st_o]
  by_cases c : γ.2 (P2 n) = true
  · rw [if_pos c, c]
    have r : stt9 γ.2 o true = γ.2 := funext (fun g => by
      by_cases eg : g = o
      · rw [eg, st_o, hm]
      · rw [st_n eg])
    rw [r]
    refine ⟨List.mem_singleton.mpr rfl, fun δ _ => ?_⟩
    rw [cf_1, Int.one_mul]
  · rw [if_neg c]
    have r : (fun g => stt9 γ.2 o (γ.2 (P2 n)) g || dcb (rel γ.1 g o)) = γ.2 := funext (fun g => by
      by_cases eg : g = o
      · rw [eg, dcb_t.mpr ((hC.1 _).1 o), Bool.or_true, hm]
      · rw [st_n eg, dcb_f.mpr (fun h9 => eg (al g ((hC.1 _).2.1 _ _ h9))), Bool.or_false])
    rw [r]
    refine ⟨List.mem_cons_self, fun δ hδ => ?_⟩
    have ne : ((γ.1, fun g => stt9 γ.2 o (γ.2 (P2 n)) g || dcb (rel γ.1 g (P2 n))) : gn9) ≠ δ := fun h9 => by
      have h1 : δ.1 n = true := by rw [← h9]; exact hn
      have h2 := hδ h1
      rw [← h9] at h2
      have h2 : (stt9 γ.2 o (γ.2 (P2 n)) o || dcb (rel γ.1 o (P2 n))) = true := h2
      rw [st_o, ff_of c, dcb_f.mpr (fun h8 => q1 (al _ h8))] at h2
      cases h2
    show 1 * id9 δ γ + (1 * id9 δ (γ.1, fun g => stt9 γ.2 o (γ.2 (P2 n)) g || dcb (rel γ.1 g (P2 n))) + 0) = id9 δ γ
    rw [id_n ne]
    omega
theorem hB_1 (hC : cub9 (n + 1) P1 P2 P3 rel) (hk : knB n o W P1 P2 P3 rel) (hw : W γ.1) (hv : vl9 rel γ) (hg : γ.1 n = true → γ.2 o = true) (hd : δ.1 n = true → δ.2 o = true) : cf9 (bd9 (D9 P1 P2 P3 rel (n + 1)) (hB9 n o (P2 n) γ) ++ bd9 (hB9 n o (P2 n)) (D9 P1 P2 P3 rel (n + 1) γ)) δ = id9 δ γ := by
  have stn : ∀ q, q ∈ D9 P1 P2 P3 rel n γ → q.2.1 n = γ.1 n := fun q hq => by
    obtain ⟨y, h1, -, h2, -⟩ := D_st hq
    rw [h2]
    exact on_o (by omega)
  have e0 : ∀ δ, D9 P1 P2 P3 rel (n + 1) δ = D9 P1 P2 P3 rel n δ ++ (if δ.1 n = true then [] else scf9 (par9 δ.1 n) (Dx9 P1 P2 P3 rel n δ)) := fun _ => rfl
  by_cases c : γ.1 n = true
  · have hm := hg c
    have e1 : hB9 n o (P2 n) γ = [(par9 γ.1 n, lo9 n o (P2 n) γ)] := if_pos ⟨c, hm⟩
    have of0 : (lo9 n o (P2 n) γ).1 n = false := off_x
    have e2 : bd9 (D9 P1 P2 P3 rel (n + 1)) [(par9 γ.1 n, lo9 n o (P2 n) γ)] = scf9 (par9 γ.1 n) (D9 P1 P2 P3 rel (n + 1) (lo9 n o (P2 n) γ)) ++ [] := rfl
    have e4 : D9 P1 P2 P3 rel (n + 1) γ = D9 P1 P2 P3 rel n γ := by
      rw [e0, if_pos c, List.append_nil]
    have e3 : eq9 (bd9 (hB9 n o (P2 n)) (D9 P1 P2 P3 rel n γ)) (scf9 (-par9 γ.1 n) (D9 P1 P2 P3 rel n (lo9 n o (P2 n) γ))) := by
      rw [DB_lo hC hk hw c (Nat.le_refl n)]
      refine bd_map (c := -par9 γ.1 n) (κ := lo9 n o (P2 n)) (fun q hq => ?_)
      obtain ⟨y, h2, h3, h4, w, h5⟩ := D_st hq
      have h1 : hB9 n o (P2 n) q.2 = [(par9 q.2.1 n, lo9 n o (P2 n) q.2)] := if_pos ⟨(stn q hq).trans c, (DxB_o hk hw c h2 h3 h5).trans hm⟩
      rw [h1, h4, par_hi h3 h2]
    rw [e1, e2, e4, List.append_nil, cf_a, e3 δ, cf_sc, cf_sc, e0, cf_a, if_neg (by rw [of0]; decide), cf_sc, (DnB hC hk hw c hm).2 δ hd]
    have pe : par9 (lo9 n o (P2 n) γ).1 n = par9 γ.1 n := par_off (Nat.le_refl n)
    rw [pe, Int.mul_add, ← Int.mul_assoc, par_2, Int.neg_mul, Int.one_mul]
    omega
  · have cf := ff_of c
    have e1 : hB9 n o (P2 n) γ = [] := if_neg (fun h9 => c h9.1)
    have e2 : bd9 (D9 P1 P2 P3 rel (n + 1)) [] = [] := rfl
    rw [e1, e2, List.nil_append, e0, if_neg c]
    have z1 : eq9 (bd9 (hB9 n o (P2 n)) (D9 P1 P2 P3 rel n γ)) [] := bd_nil (fun q hq => if_neg (fun h9 => c ((stn q hq).symm.trans h9.1)))
    refine (bd_a rfl δ).trans ?_
    rw [cf_a, z1 δ]
    -- the state with n turned
    have w2 := hk.2.2.2.1 γ.1 n (Nat.le_refl n) hw
    have of_ : off9 (on9 γ.1 n) n = γ.1 := off_on2 cf
    obtain ⟨q1, q2, q3⟩ := knB_s hC hk w2 on_x
    rw [of_] at q2 q3
    have al := hk.1 _ w2 on_x
    have op : γ.2 o = γ.2 (P2 n) := hv _ _ ((q2 _ _).mpr (adr_ab (hC.1 _)))
    have q : Dx9 P1 P2 P3 rel n γ = (if γ.2 (P1 n) = true then [(1, (on9 γ.1 n, γ.2))] else [(1, (on9 γ.1 n, fun g => γ.2 g || dcb (rel (on9 γ.1 n) g (P1 n)))), (1, (on9 γ.1 n, fun g => γ.2 g || dcb (rel (on9 γ.1 n) g (P2 n))))]) := if_pos (dcb_t.mpr (by rw [hk.2.1]; exact q3))
    rw [q, hk.2.1]
    have pn : par9 (on9 γ.1 n) n = par9 γ.1 n := par_lo (Nat.le_refl n)
    by_cases c2 : γ.2 o = true
    · rw [if_pos c2]
      have hh : hB9 n o (P2 n) (on9 γ.1 n, γ.2) = [(par9 (on9 γ.1 n) n, γ)] := by
        refine (if_pos ⟨on_x, c2⟩).trans ?_
        have r : lo9 n o (P2 n) (on9 γ.1 n, γ.2) = γ := Prod.ext of_ (funext (fun g => by
          show stt9 γ.2 o (γ.2 (P2 n)) g = γ.2 g
          by_cases eg : g = o
          · rw [eg, st_o, op]
          · rw [st_n eg]))
        rw [r]
      rw [cf_bd]
      show 0 + (par9 γ.1 n * 1 * cf9 (hB9 n o (P2 n) (on9 γ.1 n, γ.2)) δ + 0) = id9 δ γ
      rw [hh, cf_1, pn, Int.mul_one, ← Int.mul_assoc, par_2]
      omega
    · rw [if_neg c2]
      have h1 : hB9 n o (P2 n) (on9 γ.1 n, fun g => γ.2 g || dcb (rel (on9 γ.1 n) g o)) = [(par9 (on9 γ.1 n) n, γ)] := by
        refine (if_pos ⟨on_x, by show (γ.2 o || dcb (rel (on9 γ.1 n) o o)) = true; rw [dcb_t.mpr ((hC.1 _).1 o), Bool.or_true]⟩).trans ?_
        have r : lo9 n o (P2 n) (on9 γ.1 n, fun g => γ.2 g || dcb (rel (on9 γ.1 n) g o)) = γ := Prod.ext of_ (funext (fun g => by
          show stt9 (fun g => γ.2 g || dcb (rel (on9 γ.1 n) g o)) o (γ.2 (P2 n) || dcb (rel (on9 γ.1 n) (P2 n) o)) g = γ.2 g
          have no : ∀ a, a ≠ o → dcb (rel (on9 γ.1 n) a o) = false := fun a ha => dcb_f.mpr (fun h9 => ha (al a ((hC.1 _).2.1 _ _ h9)))
          by_cases eg : g = o
          · rw [eg, st_o, no _ q1, Bool.or_false, op]
          · rw [st_n eg, no g eg, Bool.or_false]))
        rw [r]
      have h2 : hB9 n o (P2 n) (on9 γ.1 n, fun g => γ.2 g || dcb (rel (on9 γ.1 n) g (P2 n))) = [] := if_neg (fun h9 => by
        have h9 : (γ.2 o || dcb (rel (on9 γ.1 n) o (P2 n))) = true := h9.2
        rw [ff_of c2, dcb_f.mpr (fun h8 => q1 (al _ h8))] at h9
        cases h9)
      rw [cf_bd]
      show 0 + (par9 γ.1 n * 1 * cf9 (hB9 n o (P2 n) (on9 γ.1 n, fun g => γ.2 g || dcb (rel (on9 γ.1 n) g o))) δ + (par9 γ.1 n * 1 * cf9 (hB9 n o (P2 n) (on9 γ.1 n, fun g => γ.2 g || dcb (rel (on9 γ.1 n) g (P2 n)))) δ + 0)) = id9 δ γ
      rw [h1, h2, cf_1, pn, Int.mul_one, ← Int.mul_assoc, par_2]
      show 0 + (1 * id9 δ γ + (par9 γ.1 n * 0 + 0)) = id9 δ γ
      rw [Int.mul_zero]
      omega
/-- what lies below is a generator -/
theorem lo_ok {r : Nat} (hC : cu9 (n + 1) V G P1 P2 P3 rel) (ho : G o) (hk : knB n o W P1 P2 P3 rel) (hw : W γ.1) (hγ : Sg9 (n + 1) V G rel k d (r + 1) γ) (hn : γ.1 n = true) (hm : γ.2 o = true) : Sg9 (n + 1) V G rel k d r (lo9 n o (P2 n) γ) := by
  obtain ⟨z1, z2, z3, z4, z5⟩ := hγ
  obtain ⟨q1, q2, q3⟩ := knB_s hC.1 hk hw hn
  have of0 : (lo9 n o (P2 n) γ).1 n = false := off_x
  have a1 : ∀ y, n + 1 ≤ y → (lo9 n o (P2 n) γ).1 y = false := fun y hy => by
    show off9 γ.1 n y = false
    rw [off_o (by omega)]
    exact z1 y hy
  have a2 : ∀ g, ¬ G g → (lo9 n o (P2 n) γ).2 g = false := fun g hg => by
    show stt9 γ.2 o (γ.2 (P2 n)) g = false
    rw [st_n (show g ≠ o from fun h9 => hg (h9 ▸ ho))]
    exact z2 g hg
  have a3 : vl9 rel (lo9 n o (P2 n) γ) := fun g h h1 => by
    have h1 : rel (off9 γ.1 n) g h := h1
    show stt9 γ.2 o (γ.2 (P2 n)) g = stt9 γ.2 o (γ.2 (P2 n)) h
    by_cases e9 : g = o
    · rw [e9] at h1 ⊢
      by_cases e8 : h = o
      · rw [e8]
      · rw [st_o, st_n e8]
        exact z3 _ _ ((knB_o hC.1 hk hw hn e8).mp h1)
    · by_cases e8 : h = o
      · rw [e8] at h1 ⊢
        rw [st_o, st_n e9]
        exact (z3 _ _ ((knB_o hC.1 hk hw hn e9).mp ((hC.1.1 _).2.1 _ _ h1))).symm
      · rw [st_n e9, st_n e8]
        exact z3 g h ((knB_r hC.1 hk hw hn e9 e8).mp h1)
  have q := Dx_ok (c := 1) (δ := γ) (k := k) (d := dg9 rel G V (n + 1) (lo9 n o (P2 n) γ)) (r := ons9 (lo9 n o (P2 n) γ).1 (n + 1) + k) (x := n) hC (by omega) ⟨a1, a2, a3, rfl, rfl⟩ of0 (DnB hC.1 hk hw hn hm).1
  have q4 := q.2.2.2.1
  have q5 := q.2.2.2.2
  exact ⟨a1, a2, a3, by omega, by rw [← q5]; exact z5⟩
end XCHO
end
section
/-! 99zzzzzzzzzzzzzzzzys.xchh -/
-- CHAIN: a kink of type B goes; two crossings go
section XCHP
variable {n N x o V k : Nat} {G : Nat → Prop} {P1 P2 P3 : Nat → Nat} {rel : (Nat → Bool) → Nat → Nat → Prop} {γ δ : gn9} {d p b : Int}
/-- the states with x turned are a cube -/
theorem cu_on (hn : n ≤ x) (hx : x < N) (hC : cu9 N V G P1 P2 P3 rel) (hG : ∀ s, (∀ y, n ≤ y → s y = false) → ∀ g h, rel (on9 s x) g h → g ≠ h → G g ∧ G h) : cu9 n V G P1 P2 P3 (fun s => rel (on9 s x)) := by
  refine ⟨⟨fun s => hC.1.1 _, fun s y hy hs => ?_⟩, hG, hC.2.2.1, fun y hy => hC.2.2.2 y (by omega)⟩
  have := hC.1.2 (on9 s x) y (by omega) (by rw [on_o (by omega)]; exact hs)
  rw [on_c] at this
  exact this
theorem D_on (hx : n ≤ x) (hs : γ.1 x = true) : ∀ {k : Nat}, k ≤ n → D9 P1 P2 P3 (fun s => rel (on9 s x)) k (off9 γ.1 x, γ.2) = (D9 P1 P2 P3 rel k γ).map (fun q => (q.1, (off9 q.2.1 x, q.2.2)))
  | 0, _ => rfl
  | k + 1, h => by
    show D9 P1 P2 P3 (fun s => rel (on9 s x)) k (off9 γ.1 x, γ.2) ++ (if off9 γ.1 x k = true then [] else scf9 (par9 (off9 γ.1 x) k) (Dx9 P1 P2 P3 (fun s => rel (on9 s x)) k (off9 γ.1 x, γ.2))) = (D9 P1 P2 P3 rel k γ ++ (if γ.1 k = true then [] else scf9 (par9 γ.1 k) (Dx9 P1 P2 P3 rel k γ))).map _
    rw [List.map_append, D_on hx hs (k := k) (by omega), off_o (by omega), par_off (by omega)]
    refine congrArg _ ?_
    have e : Dx9 P1 P2 P3 (fun s => rel (on9 s x)) k (off9 γ.1 x, γ.2) = (Dx9 P1 P2 P3 rel k γ).map (fun q => (q.1, (off9 q.2.1 x, q.2.2))) := by
      show dxv9 (rel (on9 (off9 γ.1 x) x)) (rel (on9 (on9 (off9 γ.1 x) k) x)) (P1 k) (P2 k) (P3 k) (on9 (off9 γ.1 x) k) γ.2 = (dxv9 (rel γ.1) (rel (on9 γ.1 k)) (P1 k) (P2 k) (P3 k) (on9 γ.1 k) γ.2).map _
      rw [on_off hs, on_c, on_off hs, ← off_on (show k ≠ x by omega)]
      unfold dxv9
      split
      · split <;> rfl
      · split <;> rfl
    split
    · rfl
    · rw [e]
      unfold scf9
      rw [List.map_map, List.map_map]
      rfl
/-- a kink of type B goes -/
theorem r1B {r : Nat} (hp : pr9 p) (hi : iv9 p) (hk1 : 1 ≤ k) (hC : cu9 (n + 1) V G P1 P2 P3 rel) (ho : G o) (hk : knB n o (fun _ => True) P1 P2 P3 rel) (hb : be9 p (Sg9 (n + 1) V G rel k d) (D9 P1 P2 P3 rel (n + 1)) r b) : cu9 n V (fun g => G g ∧ g ≠ o) P1 P2 P3 (fun s => rel (on9 s n)) ∧ be9 p (Sg9 n V (fun g => G g ∧ g ≠ o) (fun s => rel (on9 s n)) (k + 1) (d - 2)) (D9 P1 P2 P3 (fun s => rel (on9 s n)) n) r b := by
  have al : ∀ s : Nat → Bool, s n = true → ∀ g, rel s o g → g = o := fun s => hk.1 s trivial
  have hC' : cu9 n V (fun g => G g ∧ g ≠ o) P1 P2 P3 (fun s => rel (on9 s n)) := by
    have h0 := cu_on (n := n) (x := n) (Nat.le_refl n) (by omega) hC (fun s hz g h h1 hne => hC.2.1 _ (fun y hy => by
      rw [on_o (by omega)]
      exact hz y (by omega)) g h h1 hne)
    refine ⟨h0.1, fun s hz g h h1 hne => ?_, fun g hg => hC.2.2.1 g hg.1, fun x hx => ?_⟩
    · obtain ⟨q1, q2⟩ := h0.2.1 s hz g h h1 hne
      have h1 : rel (on9 s n) g h := h1
      refine ⟨⟨q1, fun h9 => ?_⟩, q2, fun h9 => ?_⟩
      · rw [h9] at h1 hne
        exact hne (al _ on_x h h1).symm
      · rw [h9] at h1 hne
        exact hne (al _ on_x g ((hC.1.1 _).2.1 _ _ h1))
    · obtain ⟨a1, a2, a3⟩ := hC.2.2.2 x (by omega)
      obtain ⟨b1, b2, b3⟩ := hk.2.2.1 x (fun _ => false) hx trivial rfl
      exact ⟨⟨a1, b1⟩, ⟨a2, b2⟩, a3, b3⟩
  refine ⟨hC', ?_⟩
  obtain ⟨E2, N2, he2⟩ := fi_en (S := fun r γ => Sg9 (n + 1) V G rel k d r γ ∧ (γ.1 n = true ∧ γ.2 o = false)) (fun r => en_ex (n := n + 1) (V := V) (fun γ hγ => ⟨hγ.1.1, fun g hg => hγ.1.2.1 g (fun h9 => by
    have := hC.2.2.1 g h9
    omega)⟩))
  have nC : ∀ γ : gn9, ¬ (γ.1 n = true ∧ γ.2 o = false) → γ.1 n = true → γ.2 o = true := fun γ h h1 => by
    cases h9 : γ.2 o
    · exact absurd ⟨h1, h9⟩ h
    · rfl
  obtain ⟨hC2, hN2⟩ := subC (C := fun γ => γ.1 n = true ∧ γ.2 o = false) (h := hB9 n o (P2 n)) hp hi (cu_cg hC) (fun γ h9 => by
      have := h9.2.2.2.1
      omega) (fun r γ hγ hc δ hδ => by
      obtain ⟨q, q1, q2⟩ := cf_mem hδ
      obtain ⟨y, y1, y2, y3, c, y4⟩ := D_st q1
      have yn : y < n := by
        by_cases e : y = n
        · rw [e, hc.1] at y2
          cases y2
        · omega
      rw [← q2]
      refine ⟨by rw [y3, on_o (by omega)]; exact hc.1, (DxB_o hk trivial hc.1 yn y2 y4).trans hc.2⟩) (fun r γ hγ δ hδ => by
      unfold hB9 at hδ
      split at hδ
      · rename_i c
        rw [cf_1] at hδ
        by_cases e : lo9 n o (P2 n) γ = δ
        · rw [← e]
          exact lo_ok hC ho hk trivial hγ c.1 c.2
        · exact absurd (by rw [id_n e, Int.mul_zero]) hδ
      · exact absurd rfl hδ) (fun r γ hγ hc => by
      have : hB9 n o (P2 n) γ = [] := if_neg (fun h9 => by
        rw [hc.2] at h9
        cases h9.2)
      rw [this]
      exact eq_r) (fun r γ δ hγ hδ h1 h2 => hB_1 hC.1 hk trivial hγ.2.2.1 (nC γ h1) (nC δ h2)) r hb he2
  have hb2 : be9 p (fun r γ => Sg9 (n + 1) V G rel k d r γ ∧ (γ.1 n = true ∧ γ.2 o = false)) (D9 P1 P2 P3 rel (n + 1)) r b := ⟨E2, N2, he2, hN2⟩
  obtain ⟨E', N', he'⟩ := fi_en (Sg_en (k := k + 1) (d := d - 2) hC')
  refine ⟨E', N', he', ?_⟩
  have on_ : ∀ s : Nat → Bool, s n = true → ons9 s (n + 1) = ons9 (off9 s n) n + 1 := fun s h => by
    rw [ons_s, h, ons_cg (t := off9 s n) (fun z hz => (off_o (by omega)).symm)]
    rfl
  have deg : ∀ γ : gn9, γ.1 n = true → γ.2 o = false → dg9 (fun s => rel (on9 s n)) (fun g => G g ∧ g ≠ o) V n (off9 γ.1 n, γ.2) = dg9 rel G V (n + 1) γ - 2 := fun γ e3 e4 => by
    have L := (cls_o (Q := fun _ => True) hC.2.2.1 ho (hC.1.1 γ.1) (al _ e3)).1 trivial
    have M := (cls_o (Q := fun g => γ.2 g = true) hC.2.2.1 ho (hC.1.1 γ.1) (al _ e3)).2 (by rw [e4]; decide)
    unfold dg9
    show (cls9 (rel (on9 (off9 γ.1 n) n)) (fun g => G g ∧ g ≠ o) V (fun _ => True) : Int) - 2 * cls9 (rel (on9 (off9 γ.1 n) n)) (fun g => G g ∧ g ≠ o) V (fun g => γ.2 g = true) + ons9 (off9 γ.1 n) n = _
    rw [on_off e3, L, M, on_ _ e3]
    omega
  refine isoT hp hi hC2 (cu_cg hC') (fun γ => (off9 γ.1 n, γ.2)) (fun γ => (on9 γ.1 n, γ.2)) (fun _ => 1) (fun _ => rfl) (fun r γ hγ => ?_) (fun r γ hγ => ?_) (fun r γ hγ => ?_) r hb2 he'
  · obtain ⟨⟨z1, z2, z3, z4, z5⟩, f1, f2⟩ := hγ
    refine ⟨⟨fun y hy => ?_, fun g hg => ?_, fun g h h1 => ?_, ?_, ?_⟩, Prod.ext (on_off f1) rfl⟩
    · show off9 γ.1 n y = false
      by_cases e : y = n
      · rw [e, off_x]
      · rw [off_o e]
        exact z1 y (by omega)
    · show γ.2 g = false
      by_cases e : g = o
      · rw [e]
        exact f2
      · exact z2 g (fun h9 => hg ⟨h9, e⟩)
    · have h1 : rel (on9 (off9 γ.1 n) n) g h := h1
      rw [on_off f1] at h1
      exact z3 g h h1
    · show ons9 (off9 γ.1 n) n + (k + 1) = r
      have := on_ _ f1
      omega
    · rw [← z5]
      exact deg γ f1 f2
  · obtain ⟨z1, z2, z3, z4, z5⟩ := hγ
    have f1 := z1 n (Nat.le_refl n)
    have f2 : γ.2 o = false := z2 o (fun h9 => h9.2 rfl)
    have inv : ((off9 (on9 γ.1 n) n, γ.2) : gn9) = γ := Prod.ext (off_on2 f1) rfl
    refine ⟨⟨⟨fun y hy => ?_, fun g hg => z2 g (fun h9 => hg h9.1), fun g h h1 => z3 g h h1, ?_, ?_⟩, on_x, f2⟩, inv⟩
    · show on9 γ.1 n y = false
      rw [on_o (by omega)]
      exact z1 y (by omega)
    · show ons9 (on9 γ.1 n) (n + 1) + k = r
      rw [on_ _ on_x, off_on2 f1]
      omega
    · have := deg (on9 γ.1 n, γ.2) on_x f2
      rw [show ((off9 (on9 γ.1 n, γ.2).1 n, (on9 γ.1 n, γ.2).2) : gn9) = γ from inv, z5] at this
      omega
  · obtain ⟨⟨z1, z2, z3, z4, z5⟩, f1, f2⟩ := hγ
    have e0 : D9 P1 P2 P3 rel (n + 1) γ = D9 P1 P2 P3 rel n γ := by
      show D9 P1 P2 P3 rel n γ ++ (if γ.1 n = true then [] else scf9 (par9 γ.1 n) (Dx9 P1 P2 P3 rel n γ)) = _
      rw [if_pos f1, List.append_nil]
    rw [e0, D_on (Nat.le_refl n) f1 (Nat.le_refl n)]
    exact bd_map (c := 1) (κ := fun δ => (off9 δ.1 n, δ.2)) (fun q hq => rfl)
/-- two crossings go: n + 1 and n; o is alone where n is turned and n + 1 is not -/
theorem r2T {r : Nat} (hp : pr9 p) (hi : iv9 p) (hk1 : 1 ≤ k) (hC : cu9 (n + 2) V G P1 P2 P3 rel) (ho : G o) (hA : knW (n + 1) o (fun s => s n = true) P1 P2 P3 rel) (hB : knB n o (fun s => s (n + 1) = false) P1 P2 P3 rel) (hb : be9 p (Sg9 (n + 2) V G rel k d) (D9 P1 P2 P3 rel (n + 2)) r b) : cu9 n V G P1 P2 P3 (fun s => rel (on9 s (n + 1))) ∧ be9 p (Sg9 n V G (fun s => rel (on9 s (n + 1))) (k + 1) (d - 1)) (D9 P1 P2 P3 (fun s => rel (on9 s (n + 1))) n) r b := by
  have hC1 : cub9 (n + 1) P1 P2 P3 rel := ⟨hC.1.1, fun s x hx => hC.1.2 s x (by omega)⟩
  have hC' : cu9 n V G P1 P2 P3 (fun s => rel (on9 s (n + 1))) := cu_on (n := n) (x := n + 1) (by omega) (by omega) hC (fun s hz g h h1 hne => hC.2.1 _ (fun y hy => by
      rw [on_o (by omega)]
      exact hz y (by omega)) g h h1 hne)
  refine ⟨hC', ?_⟩
  have bd_ : ∀ {γ : gn9} {r : Nat}, Sg9 (n + 2) V G rel k d r γ → (∀ y, n + 2 ≤ y → γ.1 y = false) ∧ ∀ g, V ≤ g → γ.2 g = false := fun hγ => ⟨hγ.1, fun g hg => hγ.2.1 g (fun h9 => by
    have := hC.2.2.1 g h9
    omega)⟩
  -- first the quotient
  obtain ⟨E1, N1, he1⟩ := fi_en (S := fun r γ => Sg9 (n + 2) V G rel k d r γ ∧ ¬ KA9 (n + 1) o (fun s => s n = true) γ) (fun r => en_ex (n := n + 2) (V := V) (fun γ hγ => bd_ hγ.1))
  obtain ⟨hQ, hNQ⟩ := quoA (n := n + 1) hp hi hC hA hb he1
  have hbQ : be9 p (fun r γ => Sg9 (n + 2) V G rel k d r γ ∧ ¬ KA9 (n + 1) o (fun s => s n = true) γ) (fun γ => flt9 (KA9 (n + 1) o (fun s => s n = true)) (D9 P1 P2 P3 rel (n + 2) γ)) r b := ⟨E1, N1, he1, hNQ⟩
  -- who is not in K
  have nK : ∀ γ : gn9, ¬ KA9 (n + 1) o (fun s => s n = true) γ → γ.1 n = true → γ.1 (n + 1) = false ∧ γ.2 o = true := fun γ h h1 => by
    refine ⟨ff_of (fun h9 => h ⟨h1, Or.inl h9⟩), ?_⟩
    cases h9 : γ.2 o
    · exact absurd ⟨h1, Or.inr h9⟩ h
    · rfl
  -- then the subgroup
  obtain ⟨E2, N2, he2⟩ := fi_en (S := fun r γ => (Sg9 (n + 2) V G rel k d r γ ∧ ¬ KA9 (n + 1) o (fun s => s n = true) γ) ∧ (γ.1 n = false ∧ γ.1 (n + 1) = true)) (fun r => en_ex (n := n + 2) (V := V) (fun γ hγ => bd_ hγ.1.1))
  have st1 : ∀ γ : gn9, D9 P1 P2 P3 rel (n + 2) γ = D9 P1 P2 P3 rel (n + 1) γ ++ (if γ.1 (n + 1) = true then [] else scf9 (par9 γ.1 (n + 1)) (Dx9 P1 P2 P3 rel (n + 1) γ)) := fun _ => rfl
  have tn : ∀ (γ : gn9) q, q ∈ (if γ.1 (n + 1) = true then [] else scf9 (par9 γ.1 (n + 1)) (Dx9 P1 P2 P3 rel (n + 1) γ)) → q.2.1 (n + 1) = true := fun γ q hq => by
    split at hq
    · exact absurd hq List.not_mem_nil
    · obtain ⟨t, t1, t2⟩ := List.mem_map.mp hq
      rw [← t2]
      show t.2.1 (n + 1) = true
      rw [Dx_st t1, on_x]
  have hhz : ∀ γ : gn9, (if γ.1 (n + 1) = false then hB9 n o (P2 n) γ else []) ≠ [] → γ.1 (n + 1) = false ∧ γ.1 n = true ∧ γ.2 o = true := fun γ h => by
    split at h
    · rename_i c
      unfold hB9 at h
      split at h
      · rename_i c2
        exact ⟨c, c2⟩
      · exact absurd rfl h
    · exact absurd rfl h
  obtain ⟨hS, hNS⟩ := subC (S := fun r γ => Sg9 (n + 2) V G rel k d r γ ∧ ¬ KA9 (n + 1) o (fun s => s n = true) γ) (D := fun γ => flt9 (KA9 (n + 1) o (fun s => s n = true)) (D9 P1 P2 P3 rel (n + 2) γ)) (C := fun γ => γ.1 n = false ∧ γ.1 (n + 1) = true) (h := fun γ => if γ.1 (n + 1) = false then hB9 n o (P2 n) γ else []) hp hi hQ (fun γ h9 => by
      have := h9.1.2.2.2.1
      omega) (fun r γ hγ hc δ hδ => by
      by_cases kk : KA9 (n + 1) o (fun s => s n = true) δ
      · exact absurd (cf_fy kk) hδ
      · rw [cf_fn kk] at hδ
        obtain ⟨q, q1, q2⟩ := cf_mem hδ
        obtain ⟨y, y1, y2, y3, c, y4⟩ := D_st q1
        have y5 : y ≠ n + 1 := fun e => by
          rw [e, hc.2] at y2
          cases y2
        have d1 : δ.1 (n + 1) = true := by
          rw [← q2, y3, on_o (fun h9 => y5 h9.symm)]
          exact hc.2
        refine ⟨ff_of (fun h9 => kk ⟨h9, Or.inl d1⟩), d1⟩) (fun r γ hγ δ hδ => by
      have hne : (if γ.1 (n + 1) = false then hB9 n o (P2 n) γ else []) ≠ [] := fun h9 => by
        have hδ : cf9 (if γ.1 (n + 1) = false then hB9 n o (P2 n) γ else []) δ ≠ 0 := hδ
        rw [h9] at hδ
        exact hδ rfl
      obtain ⟨c0, c1, c2⟩ := hhz γ hne
      have e1 : (if γ.1 (n + 1) = false then hB9 n o (P2 n) γ else []) = [(par9 γ.1 n, lo9 n o (P2 n) γ)] := (if_pos c0).trans (if_pos ⟨c1, c2⟩)
      have hδ : cf9 (if γ.1 (n + 1) = false then hB9 n o (P2 n) γ else []) δ ≠ 0 := hδ
      rw [e1, cf_1] at hδ
      by_cases e : lo9 n o (P2 n) γ = δ
      · rw [← e]
        have of0 : (lo9 n o (P2 n) γ).1 n = false := off_x
        refine ⟨?_, fun h9 => ?_⟩
        · -- as a generator of the cube
          obtain ⟨z1, z2, z3, z4, z5⟩ := hγ.1
          obtain ⟨q1, q2, q3⟩ := knB_s hC1 hB c0 c1
          have a1 : ∀ y, n + 2 ≤ y → (lo9 n o (P2 n) γ).1 y = false := fun y hy => by
            show off9 γ.1 n y = false
            rw [off_o (by omega)]
            exact z1 y hy
          have a2 : ∀ g, ¬ G g → (lo9 n o (P2 n) γ).2 g = false := fun g hg => by
            show stt9 γ.2 o (γ.2 (P2 n)) g = false
            rw [st_n (show g ≠ o from fun h9 => hg (h9 ▸ ho))]
            exact z2 g hg
          have a3 : vl9 rel (lo9 n o (P2 n) γ) := fun g h h1 => by
            have h1 : rel (off9 γ.1 n) g h := h1
            show stt9 γ.2 o (γ.2 (P2 n)) g = stt9 γ.2 o (γ.2 (P2 n)) h
            by_cases e9 : g = o
            · rw [e9] at h1 ⊢
              by_cases e8 : h = o
              · rw [e8]
              · rw [st_o, st_n e8]
                exact z3 _ _ ((knB_o hC1 hB c0 c1 e8).mp h1)
            · by_cases e8 : h = o
              · rw [e8] at h1 ⊢
                rw [st_o, st_n e9]
                exact (z3 _ _ ((knB_o hC1 hB c0 c1 e9).mp ((hC.1.1 _).2.1 _ _ h1))).symm
              · rw [st_n e9, st_n e8]
                exact z3 g h ((knB_r hC1 hB c0 c1 e9 e8).mp h1)
          have q := Dx_ok (c := 1) (δ := γ) (k := k) (d := dg9 rel G V (n + 2) (lo9 n o (P2 n) γ)) (r := ons9 (lo9 n o (P2 n) γ).1 (n + 2) + k) (x := n) hC (by omega) ⟨a1, a2, a3, rfl, rfl⟩ of0 (DnB hC1 hB c0 c1 c2).1
          have q4 := q.2.2.2.1
          have q5 := q.2.2.2.2
          exact ⟨a1, a2, a3, by omega, by rw [← q5]; exact z5⟩
        · have h9 : (lo9 n o (P2 n) γ).1 n = true := h9.1
          rw [of0] at h9
          cases h9
      · exact absurd (by rw [id_n e, Int.mul_zero]) hδ) (fun r γ hγ hc => by
      have : (if γ.1 (n + 1) = false then hB9 n o (P2 n) γ else []) = [] := if_neg (by rw [hc.2]; decide)
      show eq9 (if γ.1 (n + 1) = false then hB9 n o (P2 n) γ else []) []
      rw [this]
      exact eq_r) (fun r γ δ hγ hδ h1 h2 => by
      -- n + 1 is not turned in either
      have f1 : ∀ ε : gn9, ¬ KA9 (n + 1) o (fun s => s n = true) ε → ¬ (ε.1 n = false ∧ ε.1 (n + 1) = true) → ε.1 (n + 1) = false := fun ε k1 k2 => by
        by_cases c : ε.1 n = true
        · exact (nK ε k1 c).1
        · exact ff_of (fun h9 => k2 ⟨ff_of c, h9⟩)
      have g1 := f1 γ hγ.2 h1
      have d1 := f1 δ hδ.2 h2
      have key := hB_1 (δ := δ) hC1 hB (γ := γ) g1 hγ.1.2.2.1 (fun h9 => (nK γ hγ.2 h9).2) (fun h9 => (nK δ hδ.2 h9).2)
      rw [cf_a] at key ⊢
      rw [← key]
      have hg : (if γ.1 (n + 1) = false then hB9 n o (P2 n) γ else []) = hB9 n o (P2 n) γ := if_pos g1
      have p1 : cf9 (bd9 (fun γ => flt9 (KA9 (n + 1) o (fun s => s n = true)) (D9 P1 P2 P3 rel (n + 2) γ)) (if γ.1 (n + 1) = false then hB9 n o (P2 n) γ else [])) δ = cf9 (bd9 (D9 P1 P2 P3 rel (n + 1)) (hB9 n o (P2 n) γ)) δ := by
        rw [hg]
        refine bd_su δ (fun ε _ => ?_)
        rw [cf_fn hδ.2, st1, cf_a]
        have : cf9 (if ε.1 (n + 1) = true then [] else scf9 (par9 ε.1 (n + 1)) (Dx9 P1 P2 P3 rel (n + 1) ε)) δ = 0 := by
          by_cases c : cf9 (if ε.1 (n + 1) = true then [] else scf9 (par9 ε.1 (n + 1)) (Dx9 P1 P2 P3 rel (n + 1) ε)) δ = 0
          · exact c
          · obtain ⟨q, q1, q2⟩ := cf_mem c
            have := tn ε q q1
            rw [q2, d1] at this
            cases this
        omega
      have p2 : cf9 (bd9 (fun γ => if γ.1 (n + 1) = false then hB9 n o (P2 n) γ else []) (flt9 (KA9 (n + 1) o (fun s => s n = true)) (D9 P1 P2 P3 rel (n + 2) γ))) δ = cf9 (bd9 (hB9 n o (P2 n)) (D9 P1 P2 P3 rel (n + 1) γ)) δ := by
        rw [← bd_q (flt_bd (K := KA9 (n + 1) o (fun s => s n = true)) (D9 P1 P2 P3 rel (n + 2) γ)) δ, bb_c]
        have a1 : cf9 (bd9 (fun ε => bd9 (fun γ => if γ.1 (n + 1) = false then hB9 n o (P2 n) γ else []) (flt9 (KA9 (n + 1) o (fun s => s n = true)) [(1, ε)])) (D9 P1 P2 P3 rel (n + 2) γ)) δ = cf9 (bd9 (fun ε => if ε.1 (n + 1) = false then hB9 n o (P2 n) ε else []) (D9 P1 P2 P3 rel (n + 2) γ)) δ := bd_su δ (fun ε _ => by
          by_cases c : KA9 (n + 1) o (fun s => s n = true) ε
          · have q : flt9 (KA9 (n + 1) o (fun s => s n = true)) [(1, ε)] = [] := List.filter_cons_of_neg (by rw [dcb_t.mpr c]; decide)
            rw [q]
            have q2 : (if ε.1 (n + 1) = false then hB9 n o (P2 n) ε else []) = [] := by
              by_cases c3 : (if ε.1 (n + 1) = false then hB9 n o (P2 n) ε else []) = []
              · exact c3
              · obtain ⟨w0, w1, w2⟩ := hhz ε c3
                rcases c.2 with h8 | h8
                · rw [w0] at h8
                  cases h8
                · rw [w2] at h8
                  cases h8
            rw [q2]
            rfl
          · have q : flt9 (KA9 (n + 1) o (fun s => s n = true)) [(1, ε)] = [(1, ε)] := List.filter_cons_of_pos (by rw [dcb_f.mpr c]; rfl)
            rw [q]
            exact bd_1 (f := fun γ => if γ.1 (n + 1) = false then hB9 n o (P2 n) γ else []) ε δ)
        rw [a1, st1, bd_a rfl δ, cf_a]
        have a2 : cf9 (bd9 (fun ε => if ε.1 (n + 1) = false then hB9 n o (P2 n) ε else []) (if γ.1 (n + 1) = true then [] else scf9 (par9 γ.1 (n + 1)) (Dx9 P1 P2 P3 rel (n + 1) γ))) δ = 0 := bd_nil (fun q hq => if_neg (by rw [tn γ q hq]; decide)) δ
        have a3 : cf9 (bd9 (fun ε => if ε.1 (n + 1) = false then hB9 n o (P2 n) ε else []) (D9 P1 P2 P3 rel (n + 1) γ)) δ = cf9 (bd9 (hB9 n o (P2 n)) (D9 P1 P2 P3 rel (n + 1) γ)) δ := bd_su δ (fun ε hε => by
          obtain ⟨q, q1, q2⟩ := cf_mem hε
          obtain ⟨y, y1, y2, y3, -⟩ := D_st q1
          rw [if_pos (by rw [← q2, y3, on_o (by omega)]; exact g1)])
        rw [a2, a3]
        omega
      rw [p1, p2]) r hbQ he2
  have hb2 : be9 p (fun r γ => (Sg9 (n + 2) V G rel k d r γ ∧ ¬ KA9 (n + 1) o (fun s => s n = true) γ) ∧ (γ.1 n = false ∧ γ.1 (n + 1) = true)) (fun γ => flt9 (KA9 (n + 1) o (fun s => s n = true)) (D9 P1 P2 P3 rel (n + 2) γ)) r b := ⟨E2, N2, he2, hNS⟩
  obtain ⟨E', N', he'⟩ := fi_en (Sg_en (k := k + 1) (d := d - 1) hC')
  refine ⟨E', N', he', ?_⟩
  have on_ : ∀ s : Nat → Bool, s n = false → s (n + 1) = true → ons9 s (n + 2) = ons9 (off9 s (n + 1)) n + 1 := fun s h h1 => by
    rw [ons_s, ons_s, h, h1, ons_cg (t := off9 s (n + 1)) (fun z hz => (off_o (by omega)).symm)]
    rfl
  have deg : ∀ γ : gn9, γ.1 n = false → γ.1 (n + 1) = true → dg9 (fun s => rel (on9 s (n + 1))) G V n (off9 γ.1 (n + 1), γ.2) = dg9 rel G V (n + 2) γ - 1 := fun γ e3 e4 => by
    unfold dg9
    show (cls9 (rel (on9 (off9 γ.1 (n + 1)) (n + 1))) G V (fun _ => True) : Int) - 2 * cls9 (rel (on9 (off9 γ.1 (n + 1)) (n + 1))) G V (fun g => γ.2 g = true) + ons9 (off9 γ.1 (n + 1)) n = _
    rw [on_off e4, on_ _ e3 e4]
    omega
  refine isoT hp hi hS (cu_cg hC') (fun γ => (off9 γ.1 (n + 1), γ.2)) (fun γ => (on9 γ.1 (n + 1), γ.2)) (fun _ => 1) (fun _ => rfl) (fun r γ hγ => ?_) (fun r γ hγ => ?_) (fun r γ hγ => ?_) r hb2 he'
  · obtain ⟨⟨⟨z1, z2, z3, z4, z5⟩, -⟩, f1, f2⟩ := hγ
    refine ⟨⟨fun y hy => ?_, z2, fun g h h1 => ?_, ?_, ?_⟩, Prod.ext (on_off f2) rfl⟩
    · show off9 γ.1 (n + 1) y = false
      by_cases e : y = n + 1
      · rw [e, off_x]
      · rw [off_o e]
        by_cases e2 : y = n
        · rw [e2]
          exact f1
        · exact z1 y (by omega)
    · have h1 : rel (on9 (off9 γ.1 (n + 1)) (n + 1)) g h := h1
      rw [on_off f2] at h1
      exact z3 g h h1
    · show ons9 (off9 γ.1 (n + 1)) n + (k + 1) = r
      have := on_ _ f1 f2
      omega
    · rw [← z5]
      exact deg γ f1 f2
  · obtain ⟨z1, z2, z3, z4, z5⟩ := hγ
    have f0 := z1 n (Nat.le_refl n)
    have f1 := z1 (n + 1) (by omega)
    have f2 : on9 γ.1 (n + 1) n = false := by rw [on_o (by omega)]; exact f0
    have inv : ((off9 (on9 γ.1 (n + 1)) (n + 1), γ.2) : gn9) = γ := Prod.ext (off_on2 f1) rfl
    refine ⟨⟨⟨⟨fun y hy => ?_, z2, fun g h h1 => z3 g h h1, ?_, ?_⟩, fun h9 => ?_⟩, f2, on_x⟩, inv⟩
    · show on9 γ.1 (n + 1) y = false
      rw [on_o (by omega)]
      exact z1 y (by omega)
    · show ons9 (on9 γ.1 (n + 1)) (n + 2) + k = r
      rw [on_ _ f2 on_x, off_on2 f1]
      omega
    · have := deg (on9 γ.1 (n + 1), γ.2) f2 on_x
      rw [show ((off9 (on9 γ.1 (n + 1), γ.2).1 (n + 1), (on9 γ.1 (n + 1), γ.2).2) : gn9) = γ from inv, z5] at this
      omega
    · have h9 : on9 γ.1 (n + 1) n = true := h9.1
      rw [f2] at h9
      cases h9
  · obtain ⟨⟨⟨z1, z2, z3, z4, z5⟩, -⟩, f1, f2⟩ := hγ
    have e0 : D9 P1 P2 P3 rel (n + 2) γ = D9 P1 P2 P3 rel n γ ++ scf9 (par9 γ.1 n) (Dx9 P1 P2 P3 rel n γ) := by
      rw [st1, if_pos f2, List.append_nil]
      show D9 P1 P2 P3 rel n γ ++ (if γ.1 n = true then [] else scf9 (par9 γ.1 n) (Dx9 P1 P2 P3 rel n γ)) = _
      rw [if_neg (by rw [f1]; decide)]
    have e1 : flt9 (KA9 (n + 1) o (fun s => s n = true)) (D9 P1 P2 P3 rel (n + 2) γ) = D9 P1 P2 P3 rel n γ := by
      rw [e0]
      unfold flt9
      rw [List.filter_append]
      have q1 : (D9 P1 P2 P3 rel n γ).filter (fun q => !dcb (KA9 (n + 1) o (fun s => s n = true) q.2)) = D9 P1 P2 P3 rel n γ := List.filter_eq_self.mpr (fun q hq => by
        obtain ⟨y, y1, y2, y3, c, y4⟩ := D_st hq
        rw [dcb_f.mpr (fun h9 => ?_)]
        · rfl
        · have h8 : q.2.1 n = true := h9.1
          rw [y3, on_o (by omega), f1] at h8
          cases h8)
      have q2 : (scf9 (par9 γ.1 n) (Dx9 P1 P2 P3 rel n γ)).filter (fun q => !dcb (KA9 (n + 1) o (fun s => s n = true) q.2)) = [] := List.filter_eq_nil_iff.mpr (fun q hq => by
        obtain ⟨t, t1, t2⟩ := List.mem_map.mp hq
        have := Dx_st t1
        rw [← t2]
        have kk : KA9 (n + 1) o (fun s => s n = true) t.2 := ⟨by show t.2.1 n = true; rw [this, on_x], Or.inl (by rw [this, on_o (by omega)]; exact f2)⟩
        rw [dcb_t.mpr kk]
        decide)
      rw [q1, q2, List.append_nil]
    show eq9 (bd9 (fun δ => [(1, (off9 δ.1 (n + 1), δ.2))]) (flt9 (KA9 (n + 1) o (fun s => s n = true)) (D9 P1 P2 P3 rel (n + 2) γ))) (scf9 1 (D9 P1 P2 P3 (fun s => rel (on9 s (n + 1))) n (off9 γ.1 (n + 1), γ.2)))
    rw [e1, D_on (n := n) (x := n + 1) (by omega) f2 (Nat.le_refl n)]
    exact bd_map (c := 1) (κ := fun δ => (off9 δ.1 (n + 1), δ.2)) (fun q hq => rfl)
end XCHP
end
section
/-! 99zzzzzzzzzzzzzzzzyt.xchi -/
-- CHAIN: two groups side by side; a circle more
section XCHQ
variable {p : Int} {n1 n2 m1 m2 : Nat} {d e1 e2 : Nat → vc9} {b1 b2 : Int} {S : Nat → gn9 → Prop} {D : gn9 → fc9} {C : gn9 → Prop}
theorem ap_sN {v : vc9} (j : Nat) : ∀ {n : Nat}, ap9 d n v j = sN9 (fun i => v i * d i j) n
  | 0 => rfl
  | n + 1 => by
    show ap9 d n v j + v n * d n j = sN9 (fun i => v i * d i j) n + v n * d n j
    rw [ap_sN (n := n)]
theorem sN_sp {f : Nat → Int} (a : Nat) : ∀ b, sN9 f (a + b) = sN9 f a + sN9 (fun i => f (a + i)) b
  | 0 => by
    show sN9 f a = sN9 f a + 0
    omega
  | b + 1 => by
    show sN9 f (a + b) + f (a + b) = sN9 f a + (sN9 (fun i => f (a + i)) b + f (a + b))
    rw [sN_sp a b]
    omega
/-- rows in two blocks -/
def blk9 (n1 n2 m1 m2 : Nat) (d e1 e2 : Nat → vc9) : Prop := (∀ i, i < n1 → (∀ j, j < m1 → d i j = e1 i j) ∧ ∀ j, j < m2 → d i (m1 + j) = 0) ∧ ∀ i, i < n2 → (∀ j, j < m1 → d (n1 + i) j = 0) ∧ ∀ j, j < m2 → d (n1 + i) (m1 + j) = e2 i j
theorem blk_rk (h : blk9 n1 n2 m1 m2 d e1 e2) : rk9 p (m1 + m2) (rwl9 d (n1 + n2)) = rk9 p m1 (rwl9 e1 n1) + rk9 p m2 (rwl9 e2 n2) := by
  have a1 : ∀ i, i ≤ n1 → rk9 p (m1 + m2) (rwl9 d i) = rk9 p m1 (rwl9 e1 i) := fun i => by
    induction i with
    | zero => intro _; rfl
    | succ i ih =>
      intro hi
      have ih := ih (by omega)
      have q : sp9 p (m1 + m2) (rwl9 d i) (d i) ↔ sp9 p m1 (rwl9 e1 i) (e1 i) := by
        rw [sp_ap, sp_ap]
        constructor
        · rintro ⟨v, hv⟩
          refine ⟨v, fun j hj => ?_⟩
          have := hv j (by omega)
          rw [ap_sN, (h.1 i (by omega)).1 j hj] at this
          rw [ap_sN, ← sN_cg (f := fun t => v t * d t j) (fun t ht => by rw [(h.1 t (by omega)).1 j hj])]
          exact this
        · rintro ⟨v, hv⟩
          refine ⟨v, fun j hj => ?_⟩
          rcases Nat.lt_or_ge j m1 with hj1 | hj1
          · have := hv j hj1
            rw [ap_sN] at this
            rw [ap_sN, (h.1 i (by omega)).1 j hj1, sN_cg (g := fun t => v t * e1 t j) (fun t ht => by rw [(h.1 t (by omega)).1 j hj1])]
            exact this
          · have ej : j = m1 + (j - m1) := by omega
            rw [ap_sN, ej, (h.1 i (by omega)).2 (j - m1) (by omega), sN_cg (g := fun _ => 0) (fun t ht => by rw [(h.1 t (by omega)).2 (j - m1) (by omega), Int.mul_zero]), sN_0]
            exact Int.dvd_zero p
      show rk9 p (m1 + m2) (d i :: rwl9 d i) = rk9 p m1 (e1 i :: rwl9 e1 i)
      by_cases c : sp9 p m1 (rwl9 e1 i) (e1 i)
      · rw [rk_y c, rk_y (q.mpr c), ih]
      · rw [rk_n c, rk_n (fun h9 => c (q.mp h9)), ih]
  have a2 : ∀ i, i ≤ n2 → rk9 p (m1 + m2) (rwl9 d (n1 + i)) = rk9 p m1 (rwl9 e1 n1) + rk9 p m2 (rwl9 e2 i) := fun i => by
    induction i with
    | zero => intro _; exact a1 n1 (Nat.le_refl n1)
    | succ i ih =>
      intro hi
      have ih := ih (by omega)
      have lo : ∀ (v : vc9) j, j < m2 → sN9 (fun t => v t * d t (m1 + j)) (n1 + i) = sN9 (fun t => v (n1 + t) * e2 t j) i := fun v j hj => by
        rw [sN_sp, sN_cg (f := fun t => v t * d t (m1 + j)) (g := fun _ => 0) (fun t ht => by rw [(h.1 t ht).2 j hj, Int.mul_zero]), sN_0, Int.zero_add]
        exact sN_cg (fun t ht => by rw [(h.2 t (by omega)).2 j hj])
      have q : sp9 p (m1 + m2) (rwl9 d (n1 + i)) (d (n1 + i)) ↔ sp9 p m2 (rwl9 e2 i) (e2 i) := by
        rw [sp_ap, sp_ap]
        constructor
        · rintro ⟨v, hv⟩
          refine ⟨fun t => v (n1 + t), fun j hj => ?_⟩
          have := hv (m1 + j) (by omega)
          rw [ap_sN, (h.2 i (by omega)).2 j hj, lo v j hj] at this
          rw [ap_sN]
          exact this
        · rintro ⟨v, hv⟩
          refine ⟨fun t => if t < n1 then 0 else v (t - n1), fun j hj => ?_⟩
          rcases Nat.lt_or_ge j m1 with hj1 | hj1
          · rw [ap_sN, (h.2 i (by omega)).1 j hj1, sN_cg (g := fun _ => 0) (fun t ht => ?_), sN_0]
            · exact Int.dvd_zero p
            · show (if t < n1 then 0 else v (t - n1)) * d t j = 0
              rcases Nat.lt_or_ge t n1 with ht1 | ht1
              · rw [if_pos ht1, Int.zero_mul]
              · have et : t = n1 + (t - n1) := by omega
                rw [et, (h.2 (t - n1) (by omega)).1 j hj1, Int.mul_zero]
          · have ej : j = m1 + (j - m1) := by omega
            have := hv (j - m1) (by omega)
            rw [ap_sN] at this
            rw [ap_sN, ej, (h.2 i (by omega)).2 (j - m1) (by omega), lo _ (j - m1) (by omega)]
            have e3 : sN9 (fun t => (if n1 + t < n1 then 0 else v (n1 + t - n1)) * e2 t (j - m1)) i = sN9 (fun t => v t * e2 t (j - m1)) i := sN_cg (fun t _ => by
              rw [if_neg (by omega), show n1 + t - n1 = t by omega])
            rw [e3]
            exact this
      show rk9 p (m1 + m2) (d (n1 + i) :: rwl9 d (n1 + i)) = rk9 p m1 (rwl9 e1 n1) + rk9 p m2 (e2 i :: rwl9 e2 i)
      by_cases c : sp9 p m2 (rwl9 e2 i) (e2 i)
      · rw [rk_y c, rk_y (q.mpr c), ih]
      · rw [rk_n c, rk_n (fun h9 => c (q.mp h9)), ih]
        omega
  exact a2 n2 (Nat.le_refl n2)
/-- one list behind the other -/
def cat9 (E1 : Nat → Nat → gn9) (N1 : Nat → Nat) (E2 : Nat → Nat → gn9) (r i : Nat) : gn9 := if i < N1 r then E1 r i else E2 r (i - N1 r)
/-- two groups side by side -/
theorem dirT {r : Nat} (k1 : ∀ r γ, S r γ → C γ → su9 (D γ) C) (k2 : ∀ r γ, S r γ → ¬ C γ → su9 (D γ) (fun δ => ¬ C δ)) (h1 : be9 p (fun r γ => S r γ ∧ C γ) D r b1) (h2 : be9 p (fun r γ => S r γ ∧ ¬ C γ) D r b2) : be9 p S D r (b1 + b2) := by
  obtain ⟨E1, N1, he1, hN1⟩ := h1
  obtain ⟨E2, N2, he2, hN2⟩ := h2
  have lo : ∀ r i, i < N1 r → cat9 E1 N1 E2 r i = E1 r i := fun r i hi => if_pos hi
  have hi : ∀ r i, cat9 E1 N1 E2 r (N1 r + i) = E2 r i := fun r i => by
    show (if N1 r + i < N1 r then E1 r (N1 r + i) else E2 r (N1 r + i - N1 r)) = E2 r i
    rw [if_neg (by omega), show N1 r + i - N1 r = i by omega]
  have en : ∀ r, en9 (S r) (cat9 E1 N1 E2 r) (N1 r + N2 r) := fun r => by
    refine ⟨fun i j h3 h4 h5 => ?_, fun γ => ⟨fun h => ?_, fun ⟨i, h3, h4⟩ => ?_⟩⟩
    · rcases Nat.lt_or_ge i (N1 r) with ci | ci
      · rcases Nat.lt_or_ge j (N1 r) with cj | cj
        · rw [lo r i ci, lo r j cj] at h5
          exact (he1 r).1 i j ci cj h5
        · rw [lo r i ci, show j = N1 r + (j - N1 r) by omega, hi] at h5
          have a := (en_at (he1 r) ci).2
          rw [h5] at a
          exact absurd a (en_at (he2 r) (i := j - N1 r) (by omega)).2
      · rcases Nat.lt_or_ge j (N1 r) with cj | cj
        · rw [lo r j cj, show i = N1 r + (i - N1 r) by omega, hi] at h5
          have a := (en_at (he1 r) cj).2
          rw [← h5] at a
          exact absurd a (en_at (he2 r) (i := i - N1 r) (by omega)).2
        · rw [show j = N1 r + (j - N1 r) by omega, show i = N1 r + (i - N1 r) by omega, hi, hi] at h5
          have := (he2 r).1 _ _ (by omega) (by omega) h5
          omega
    · by_cases c : C γ
      · obtain ⟨i, i1, i2⟩ := ((he1 r).2 γ).mp ⟨h, c⟩
        exact ⟨i, by omega, by rw [lo r i i1, i2]⟩
      · obtain ⟨i, i1, i2⟩ := ((he2 r).2 γ).mp ⟨h, c⟩
        exact ⟨N1 r + i, by omega, by rw [hi, i2]⟩
    · rcases Nat.lt_or_ge i (N1 r) with ci | ci
      · rw [lo r i ci] at h4
        rw [h4]
        exact (en_at (he1 r) ci).1
      · rw [show i = N1 r + (i - N1 r) by omega, hi] at h4
        rw [h4]
        exact (en_at (he2 r) (i := i - N1 r) (by omega)).1
  refine ⟨cat9 E1 N1 E2, fun r => N1 r + N2 r, en, ?_⟩
  have rk : ∀ r, rn9 p (cat9 E1 N1 E2) (fun r => N1 r + N2 r) D r = rn9 p E1 N1 D r + rn9 p E2 N2 D r := fun r => by
    unfold rn9
    refine blk_rk ⟨fun i hi9 => ⟨fun j hj => ?_, fun j hj => ?_⟩, fun i hi9 => ⟨fun j hj => ?_, fun j hj => ?_⟩⟩
    · show cf9 (D (cat9 E1 N1 E2 r i)) (cat9 E1 N1 E2 (r + 1) j) = _
      rw [lo r i hi9, lo (r + 1) j hj]
      rfl
    · show cf9 (D (cat9 E1 N1 E2 r i)) (cat9 E1 N1 E2 (r + 1) (N1 (r + 1) + j)) = _
      rw [lo r i hi9, hi (r + 1) j]
      by_cases c : cf9 (D (E1 r i)) (E2 (r + 1) j) = 0
      · exact c
      · obtain ⟨q1, q2⟩ := en_at (he1 r) hi9
        exact absurd (k1 r _ q1 q2 _ c) (en_at (he2 (r + 1)) hj).2
    · show cf9 (D (cat9 E1 N1 E2 r (N1 r + i))) (cat9 E1 N1 E2 (r + 1) j) = _
      rw [hi r i, lo (r + 1) j hj]
      by_cases c : cf9 (D (E2 r i)) (E1 (r + 1) j) = 0
      · exact c
      · obtain ⟨q1, q2⟩ := en_at (he2 r) hi9
        exact absurd (en_at (he1 (r + 1)) hj).2 (k2 r _ q1 q2 _ c)
    · show cf9 (D (cat9 E1 N1 E2 r (N1 r + i))) (cat9 E1 N1 E2 (r + 1) (N1 (r + 1) + j)) = _
      rw [hi r i, hi (r + 1) j]
      rfl
  rw [rk, rk]
  show ((N1 (r + 1) + N2 (r + 1) : Nat) : Int) = _
  omega
end XCHQ
section XCHR
variable {n o V k r : Nat} {G : Nat → Prop} {P1 P2 P3 : Nat → Nat} {rel : (Nat → Bool) → Nat → Nat → Prop} {d p b1 b2 : Int}
theorem D9_o {γ : gn9} (hal : ∀ s, (∀ y, n ≤ y → s y = false) → ∀ g, rel s o g → g = o) (hP : ∀ x, x < n → P1 x ≠ o ∧ P2 x ≠ o ∧ P3 x ≠ o) (z1 : ∀ y, n ≤ y → γ.1 y = false) {q : Int × gn9} (h : q ∈ D9 P1 P2 P3 rel n γ) : q.2.2 o = γ.2 o := by
  obtain ⟨y, y1, y2, y3, c, y4⟩ := D_st h
  obtain ⟨p1, p2, p3⟩ := hP y y1
  have no : ∀ a, a ≠ o → dcb (rel (on9 γ.1 y) o a) = false := fun a ha => dcb_f.mpr (fun h9 => ha (hal _ (on_z y1 z1) a h9))
  generalize e : (c, q.2) = t at y4
  have e2 : q.2.2 o = t.2.2 o := by rw [← e]
  rw [e2]
  unfold Dx9 at y4
  split at y4
  · split at y4
    · rw [List.mem_singleton.mp y4]
    · rcases List.mem_cons.mp y4 with e | e
      · rw [e]
        show (γ.2 o || dcb (rel (on9 γ.1 y) o (P1 y))) = γ.2 o
        rw [no _ p1, Bool.or_false]
      · rw [List.mem_singleton.mp e]
        show (γ.2 o || dcb (rel (on9 γ.1 y) o (P2 y))) = γ.2 o
        rw [no _ p2, Bool.or_false]
  · split at y4
    · exact absurd y4 List.not_mem_nil
    · rw [List.mem_singleton.mp y4]
      show (γ.2 o || ((γ.2 (P1 y) || γ.2 (P3 y)) && dcb (rel (on9 γ.1 y) o (P1 y)))) = γ.2 o
      rw [no _ p1, Bool.and_false, Bool.or_false]
/-- a circle more -/
theorem be_cir (hp : pr9 p) (hi : iv9 p) (hC : cu9 n V G P1 P2 P3 rel) (ho : G o) (hal : ∀ s, (∀ y, n ≤ y → s y = false) → ∀ g, rel s o g → g = o) (hP : ∀ x, x < n → P1 x ≠ o ∧ P2 x ≠ o ∧ P3 x ≠ o) (h1 : be9 p (Sg9 n V (fun g => G g ∧ g ≠ o) rel k (d - 1)) (D9 P1 P2 P3 rel n) r b1) (h2 : be9 p (Sg9 n V (fun g => G g ∧ g ≠ o) rel k (d + 1)) (D9 P1 P2 P3 rel n) r b2) : cu9 n V (fun g => G g ∧ g ≠ o) P1 P2 P3 rel ∧ be9 p (Sg9 n V G rel k d) (D9 P1 P2 P3 rel n) r (b1 + b2) := by
  have hC' : cu9 n V (fun g => G g ∧ g ≠ o) P1 P2 P3 rel := by
    refine ⟨hC.1, fun s hz g h h1 hne => ?_, fun g hg => hC.2.2.1 g hg.1, fun x hx => ?_⟩
    · obtain ⟨q1, q2⟩ := hC.2.1 s hz g h h1 hne
      refine ⟨⟨q1, fun h9 => ?_⟩, q2, fun h9 => ?_⟩
      · rw [h9] at h1 hne
        exact hne (hal s hz h h1).symm
      · rw [h9] at h1 hne
        exact hne (hal s hz g ((hC.1.1 s).2.1 _ _ h1))
    · obtain ⟨a1, a2, a3⟩ := hC.2.2.2 x hx
      obtain ⟨b1, b2, b3⟩ := hP x hx
      exact ⟨⟨a1, b1⟩, ⟨a2, b2⟩, a3, b3⟩
  refine ⟨hC', ?_⟩
  have deg : ∀ γ : gn9, (∀ y, n ≤ y → γ.1 y = false) → (γ.2 o = false → dg9 rel G V n γ = dg9 rel (fun g => G g ∧ g ≠ o) V n γ + 1) ∧ (γ.2 o = true → dg9 rel G V n γ = dg9 rel (fun g => G g ∧ g ≠ o) V n (γ.1, clr9 γ.2 o) - 1) := fun γ z1 => by
    have al := hal γ.1 z1
    have L := (cls_o (Q := fun _ => True) hC.2.2.1 ho (hC.1.1 γ.1) al).1 trivial
    have M := cls_o (Q := fun g => γ.2 g = true) hC.2.2.1 ho (hC.1.1 γ.1) al
    constructor
    · intro h
      have M2 := M.2 (by rw [h]; decide)
      unfold dg9
      rw [L, M2]
      omega
    · intro h
      have M2 := M.1 h
      have M3 : cls9 (rel γ.1) (fun g => G g ∧ g ≠ o) V (fun g => clr9 γ.2 o g = true) = cls9 (rel γ.1) (fun g => G g ∧ g ≠ o) V (fun g => γ.2 g = true) := cl_cg (fun g hg => by rw [clr_n hg.2])
      unfold dg9
      show _ = (cls9 (rel γ.1) (fun g => G g ∧ g ≠ o) V (fun _ => True) : Int) - 2 * cls9 (rel γ.1) (fun g => G g ∧ g ≠ o) V (fun g => clr9 γ.2 o g = true) + ons9 γ.1 n - 1
      rw [L, M2, M3]
      omega
  have bdd : ∀ {γ : gn9} {r : Nat}, Sg9 n V G rel k d r γ → (∀ y, n ≤ y → γ.1 y = false) ∧ ∀ g, V ≤ g → γ.2 g = false := fun hγ => ⟨hγ.1, fun g hg => hγ.2.1 g (fun h9 => by
    have := hC.2.2.1 g h9
    omega)⟩
  have hD := cu_cg (k := k) (d := d) hC
  have k1 : ∀ r γ, Sg9 n V G rel k d r γ → γ.2 o = false → su9 (D9 P1 P2 P3 rel n γ) (fun δ => δ.2 o = false) := fun r γ hγ hc δ hδ => by
    obtain ⟨q, q1, q2⟩ := cf_mem hδ
    rw [← q2]
    exact (D9_o hal hP hγ.1 q1).trans hc
  have k2 : ∀ r γ, Sg9 n V G rel k d r γ → ¬ γ.2 o = false → su9 (D9 P1 P2 P3 rel n γ) (fun δ => ¬ δ.2 o = false) := fun r γ hγ hc δ hδ => by
    obtain ⟨q, q1, q2⟩ := cf_mem hδ
    rw [← q2]
    show ¬ q.2.2 o = false
    rw [D9_o hal hP hγ.1 q1]
    exact hc
  refine dirT (C := fun γ => γ.2 o = false) k1 k2 ?_ ?_
  · -- plus
    obtain ⟨E', N', he'⟩ := fi_en (S := fun r γ => Sg9 n V G rel k d r γ ∧ γ.2 o = false) (fun r => en_ex (n := n) (V := V) (fun γ hγ => bdd hγ.1))
    refine ⟨E', N', he', ?_⟩
    refine isoT hp hi (cu_cg hC') ⟨fun r γ hγ δ hδ => ⟨hD.1 r γ hγ.1 δ hδ, k1 r γ hγ.1 hγ.2 δ hδ⟩, fun r γ hγ => hD.2 r γ hγ.1⟩ (fun γ => γ) (fun γ => γ) (fun _ => 1) (fun _ => rfl) (fun r γ hγ => ⟨?_, rfl⟩) (fun r γ hγ => ⟨?_, rfl⟩) (fun r γ _ δ => by rw [bd_id, cf_sc, Int.one_mul]) r h1 he'
    · obtain ⟨z1, z2, z3, z4, z5⟩ := hγ
      have f := z2 o (fun h9 => h9.2 rfl)
      have := (deg γ z1).1 f
      exact ⟨⟨z1, fun g hg => z2 g (fun h9 => hg h9.1), z3, z4, by omega⟩, f⟩
    · obtain ⟨⟨z1, z2, z3, z4, z5⟩, f⟩ := hγ
      have := (deg γ z1).1 f
      refine ⟨z1, fun g hg => ?_, z3, z4, by omega⟩
      by_cases e : g = o
      · rw [e]
        exact f
      · exact z2 g (fun h9 => hg ⟨h9, e⟩)
  · -- minus
    obtain ⟨E', N', he'⟩ := fi_en (S := fun r γ => Sg9 n V G rel k d r γ ∧ ¬ γ.2 o = false) (fun r => en_ex (n := n) (V := V) (fun γ hγ => bdd hγ.1))
    refine ⟨E', N', he', ?_⟩
    have tt_of : ∀ {c : Bool}, ¬ c = false → c = true := fun {c} h => by cases c <;> simp_all
    -- with minus at o
    have hph : ∀ (γ : gn9), (∀ y, n ≤ y → γ.1 y = false) → ∀ {k : Nat}, k ≤ n → D9 P1 P2 P3 rel k (γ.1, stt9 γ.2 o true) = (D9 P1 P2 P3 rel k γ).map (fun q => (q.1, (q.2.1, stt9 q.2.2 o true))) := fun γ z1 k => by
      induction k with
      | zero => intro _; rfl
      | succ k ih =>
        intro hk
        show D9 P1 P2 P3 rel k (γ.1, stt9 γ.2 o true) ++ (if γ.1 k = true then [] else scf9 (par9 γ.1 k) (Dx9 P1 P2 P3 rel k (γ.1, stt9 γ.2 o true))) = (D9 P1 P2 P3 rel k γ ++ (if γ.1 k = true then [] else scf9 (par9 γ.1 k) (Dx9 P1 P2 P3 rel k γ))).map _
        rw [List.map_append, ih (by omega)]
        refine congrArg _ ?_
        obtain ⟨p1, p2, p3⟩ := hP k (by omega)
        have zt := on_z (n := n) (x := k) (by omega) z1
        have bt : ∀ (b : Bool) (a : Nat), a ≠ o → (fun g => stt9 γ.2 o true g || (b && dcb (rel (on9 γ.1 k) g a))) = stt9 (fun g => γ.2 g || (b && dcb (rel (on9 γ.1 k) g a))) o true := fun b a ha => funext (fun g => by
          by_cases e : g = o
          · rw [e, st_o, st_o]
            rfl
          · rw [st_n e, st_n e])
        have bt1 : ∀ a : Nat, a ≠ o → (fun g => stt9 γ.2 o true g || dcb (rel (on9 γ.1 k) g a)) = stt9 (fun g => γ.2 g || dcb (rel (on9 γ.1 k) g a)) o true := fun a ha => by
          have := bt true a ha
          simp only [Bool.true_and] at this
          exact this
        have e : Dx9 P1 P2 P3 rel k (γ.1, stt9 γ.2 o true) = (Dx9 P1 P2 P3 rel k γ).map (fun q => (q.1, (q.2.1, stt9 q.2.2 o true))) := by
          show dxv9 (rel γ.1) (rel (on9 γ.1 k)) (P1 k) (P2 k) (P3 k) (on9 γ.1 k) (stt9 γ.2 o true) = (dxv9 (rel γ.1) (rel (on9 γ.1 k)) (P1 k) (P2 k) (P3 k) (on9 γ.1 k) γ.2).map _
          unfold dxv9
          rw [st_n p1, st_n p3, bt1 _ p1, bt1 _ p2, bt _ _ p1]
          split
          · split <;> rfl
          · split <;> rfl
        split
        · rfl
        · rw [e]
          unfold scf9
          rw [List.map_map, List.map_map]
          rfl
    refine isoT hp hi (cu_cg hC') ⟨fun r γ hγ δ hδ => ⟨hD.1 r γ hγ.1 δ hδ, k2 r γ hγ.1 hγ.2 δ hδ⟩, fun r γ hγ => hD.2 r γ hγ.1⟩ (fun γ => (γ.1, stt9 γ.2 o true)) (fun γ => (γ.1, clr9 γ.2 o)) (fun _ => 1) (fun _ => rfl) (fun r γ hγ => ?_) (fun r γ hγ => ?_) (fun r γ hγ => ?_) r h2 he'
    · obtain ⟨z1, z2, z3, z4, z5⟩ := hγ
      have f := z2 o (fun h9 => h9.2 rfl)
      have al := hal γ.1 z1
      have inv : ((γ.1, clr9 (stt9 γ.2 o true) o) : gn9) = γ := Prod.ext rfl (funext (fun g => by
        show clr9 (stt9 γ.2 o true) o g = γ.2 g
        by_cases e : g = o
        · rw [e, clr_o, f]
        · rw [clr_n e, st_n e]))
      refine ⟨⟨⟨z1, fun g hg => ?_, fun g h h1 => ?_, z4, ?_⟩, ?_⟩, inv⟩
      · show stt9 γ.2 o true g = false
        rw [st_n (show g ≠ o from fun h9 => hg (h9 ▸ ho))]
        exact z2 g (fun h9 => hg h9.1)
      · show stt9 γ.2 o true g = stt9 γ.2 o true h
        have h1 : rel γ.1 g h := h1
        by_cases e : g = o
        · rw [e] at h1 ⊢
          rw [al h h1]
        · by_cases e2 : h = o
          · rw [e2] at h1
            exact absurd (al g ((hC.1.1 _).2.1 _ _ h1)) e
          · rw [st_n e, st_n e2]
            exact z3 g h h1
      · have := (deg (γ.1, stt9 γ.2 o true) z1).2 (st_o _ _ _)
        rw [show (((γ.1, stt9 γ.2 o true) : gn9).1, clr9 ((γ.1, stt9 γ.2 o true) : gn9).2 o) = γ from inv] at this
        omega
      · show ¬ stt9 γ.2 o true o = false
        rw [st_o]
        decide
    · obtain ⟨⟨z1, z2, z3, z4, z5⟩, f⟩ := hγ
      have f := tt_of f
      have al := hal γ.1 z1
      have inv : ((γ.1, stt9 (clr9 γ.2 o) o true) : gn9) = γ := Prod.ext rfl (funext (fun g => by
        show stt9 (clr9 γ.2 o) o true g = γ.2 g
        by_cases e : g = o
        · rw [e, st_o, f]
        · rw [st_n e, clr_n e]))
      refine ⟨⟨z1, fun g hg => ?_, fun g h h1 => ?_, z4, ?_⟩, inv⟩
      · show clr9 γ.2 o g = false
        by_cases e : g = o
        · rw [e, clr_o]
        · rw [clr_n e]
          exact z2 g (fun h9 => hg ⟨h9, e⟩)
      · show clr9 γ.2 o g = clr9 γ.2 o h
        have h1 : rel γ.1 g h := h1
        by_cases e : g = o
        · rw [e] at h1 ⊢
          rw [al h h1]
        · by_cases e2 : h = o
          · rw [e2] at h1
            exact absurd (al g ((hC.1.1 _).2.1 _ _ h1)) e
          · rw [clr_n e, clr_n e2]
            exact z3 g h h1
      · have := (deg γ z1).2 f
        omega
    · show eq9 (bd9 (fun δ => [(1, (δ.1, stt9 δ.2 o true))]) (D9 P1 P2 P3 rel n γ)) (scf9 1 (D9 P1 P2 P3 rel n (γ.1, stt9 γ.2 o true)))
      rw [hph γ hγ.1 (Nat.le_refl n)]
      exact bd_map (c := 1) (κ := fun δ => (δ.1, stt9 δ.2 o true)) (fun q hq => rfl)
end XCHR
end
