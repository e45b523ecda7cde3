section
/-! 99zzzzzzzzzzzzzzzzyq.xchf -/
-- CHAIN: a loop that goes (type A), in some states only
def knW (n o : Nat) (W : (Nat → Bool) → Prop) (P1 P2 P3 : Nat → Nat) (rel : (Nat → Bool) → Nat → Nat → Prop) : Prop := (∀ s, W s → s n = false → ∀ g, rel s o g → g = o) ∧ P1 n = o ∧ P3 n ≠ o ∧ (∀ y s, y < n → W s → s y = false → P1 y ≠ o ∧ P2 y ≠ o ∧ P3 y ≠ o) ∧ (∀ s y, W s → W (on9 s y)) ∧ ∀ s, W s → W (off9 s n)
noncomputable def hAW (n o : Nat) (W : (Nat → Bool) → Prop) (γ : gn9) : fc9 := if dcb (W γ.1) = true ∧ γ.1 n = true then [(par9 γ.1 n, rh9 n o γ)] else []
section XCHN
variable {n o V k : Nat} {W : (Nat → Bool) → Prop} {G : Nat → Prop} {P1 P2 P3 : Nat → Nat} {rel : (Nat → Bool) → Nat → Nat → Prop} {γ : gn9} {d p b : Int}
theorem knW_r (hC : cub9 (n + 1) P1 P2 P3 rel) (hk : knW n o W P1 P2 P3 rel) {u : Nat → Bool} (hw : W u) {g h : Nat} (hg : g ≠ o) (hh : h ≠ o) : rel (off9 u n) g h ↔ rel u g h := by
  obtain ⟨k1, k2, k3, k4, k5, k6⟩ := hk
  have k1 := k1 (off9 u n) (k6 u hw) off_x
  by_cases c : u n = true
  · have e := on_off c
    rcases hC.2 (off9 u n) n (by omega) off_x with ⟨h1, h2⟩ | ⟨h1, -⟩
    · rw [e] at h2
      rw [h2]
      constructor
      · exact Or.inl
      · rintro (h9 | ⟨h9, h8⟩ | ⟨h9, h8⟩)
        · exact h9
        · rw [k2] at h9
          exact absurd (k1 _ ((hC.1 _).2.1 _ _ h9)) hg
        · rw [k2] at h8
          exact absurd (k1 _ ((hC.1 _).2.1 _ _ h8)) hh
    · rw [k2] at h1
      exact absurd (k1 _ h1) k3
  · rw [off_f (by cases h : u n <;> simp_all)]
theorem DxW_rh (hC : cub9 (n + 1) P1 P2 P3 rel) (hk : knW n o W P1 P2 P3 rel) (hw : W γ.1) {y : Nat} (hy : y < n) (sy : γ.1 y = false) : Dx9 P1 P2 P3 rel y (rh9 n o γ) = (Dx9 P1 P2 P3 rel y γ).map (fun q => (q.1, rh9 n o q.2)) := by
  obtain ⟨p1, p2, p3⟩ := hk.2.2.2.1 y γ.1 hy hw sy
  have w2 := hk.2.2.2.2.1 γ.1 y hw
  have a1 : (rh9 n o γ).2 (P1 y) = γ.2 (P1 y) := clr_n p1
  have a3 : (rh9 n o γ).2 (P3 y) = γ.2 (P3 y) := clr_n p3
  have st : on9 (rh9 n o γ).1 y = off9 (on9 γ.1 y) n := (off_on (by omega)).symm
  have r1 : dcb (rel (rh9 n o γ).1 (P1 y) (P3 y)) = dcb (rel γ.1 (P1 y) (P3 y)) := dcb_c (knW_r hC hk hw p1 p3)
  have nb : (off9 (on9 γ.1 y) n) n = false := off_x
  have bt : ∀ (b : Bool) (a : Nat), a ≠ o → (fun g => (rh9 n o γ).2 g || (b && dcb (rel (on9 (rh9 n o γ).1 y) g a))) = clr9 (fun g => γ.2 g || (b && dcb (rel (on9 γ.1 y) g a))) o := fun b a ha => funext (fun g => by
    rw [st]
    by_cases e : g = o
    · rw [e, clr_o]
      show (clr9 γ.2 o o || (b && dcb (rel (off9 (on9 γ.1 y) n) o a))) = false
      rw [clr_o, dcb_f.mpr (fun h9 => ha (hk.1 _ (hk.2.2.2.2.2 _ w2) nb _ h9)), Bool.and_false]
      rfl
    · rw [clr_n e]
      show (clr9 γ.2 o g || (b && dcb (rel (off9 (on9 γ.1 y) n) g a))) = _
      rw [clr_n e, dcb_c (knW_r hC hk w2 e ha)])
  have bt1 : ∀ a : Nat, a ≠ o → (fun g => (rh9 n o γ).2 g || dcb (rel (on9 (rh9 n o γ).1 y) g a)) = clr9 (fun g => γ.2 g || dcb (rel (on9 γ.1 y) g a)) o := fun a ha => by
    have := bt true a ha
    simp only [Bool.true_and] at this
    exact this
  unfold Dx9
  rw [r1, a1, a3]
  by_cases c : dcb (rel γ.1 (P1 y) (P3 y)) = true
  · rw [if_pos c, if_pos c]
    by_cases c2 : γ.2 (P1 y) = true
    · rw [if_pos c2, if_pos c2, st]
      rfl
    · rw [if_neg c2, if_neg c2, bt1 _ p1, bt1 _ p2, st]
      rfl
  · rw [if_neg c, if_neg c]
    by_cases c2 : γ.2 (P1 y) = true ∧ γ.2 (P3 y) = true
    · rw [if_pos c2, if_pos c2]
      rfl
    · rw [if_neg c2, if_neg c2, bt _ _ p1, st]
      rfl
theorem DW_rh (hC : cub9 (n + 1) P1 P2 P3 rel) (hk : knW n o W P1 P2 P3 rel) (hw : W γ.1) : ∀ {k : Nat}, k ≤ n → D9 P1 P2 P3 rel k (rh9 n o γ) = (D9 P1 P2 P3 rel k γ).map (fun q => (q.1, rh9 n o q.2))
  | 0, _ => rfl
  | k + 1, h => by
    show D9 P1 P2 P3 rel k (rh9 n o γ) ++ (if (rh9 n o γ).1 k = true then [] else scf9 (par9 (rh9 n o γ).1 k) (Dx9 P1 P2 P3 rel k (rh9 n o γ))) = (D9 P1 P2 P3 rel k γ ++ (if γ.1 k = true then [] else scf9 (par9 γ.1 k) (Dx9 P1 P2 P3 rel k γ))).map _
    have e1 : (rh9 n o γ).1 k = γ.1 k := off_o (by omega)
    have e2 : par9 (rh9 n o γ).1 k = par9 γ.1 k := par_off (by omega)
    rw [List.map_append, DW_rh hC hk hw (by omega), e1, e2]
    refine congrArg _ ?_
    by_cases c : γ.1 k = true
    · rw [if_pos c, if_pos c]
      rfl
    · rw [if_neg c, if_neg c, DxW_rh hC hk hw (by omega) (by cases h9 : γ.1 k <;> simp_all)]
      unfold scf9
      rw [List.map_map, List.map_map]
      rfl
theorem DxW_o (hk : knW n o W P1 P2 P3 rel) (hw : W γ.1) {y : Nat} (hy : y < n) (sy : γ.1 y = false) (hn : γ.1 n = false) {q : Int × gn9} (h : q ∈ Dx9 P1 P2 P3 rel y γ) : q.2.2 o = γ.2 o := by
  obtain ⟨p1, p2, p3⟩ := hk.2.2.2.1 y γ.1 hy hw sy
  have w2 := hk.2.2.2.2.1 γ.1 y hw
  have nb : (on9 γ.1 y) n = false := by
    rw [on_o (by omega)]
    exact hn
  have no : ∀ a, a ≠ o → dcb (rel (on9 γ.1 y) o a) = false := fun a ha => dcb_f.mpr (fun h9 => ha (hk.1 _ w2 nb a h9))
  unfold Dx9 at h
  split at h
  · split at h
    · rw [List.mem_singleton.mp h]
    · rcases List.mem_cons.mp h with e | e
      · rw [e]
        show (γ.2 o || dcb (rel (on9 γ.1 y) o (P1 y))) = γ.2 o
        rw [no _ p1, Bool.or_false]
      · rw [List.mem_singleton.mp e]
        show (γ.2 o || dcb (rel (on9 γ.1 y) o (P2 y))) = γ.2 o
        rw [no _ p2, Bool.or_false]
  · split at h
    · exact absurd h List.not_mem_nil
    · rw [List.mem_singleton.mp h]
      show (γ.2 o || ((γ.2 (P1 y) || γ.2 (P3 y)) && dcb (rel (on9 γ.1 y) o (P1 y)))) = γ.2 o
      rw [no _ p1, Bool.and_false, Bool.or_false]
theorem DnW_A (hC : cub9 (n + 1) P1 P2 P3 rel) (hk : knW n o W P1 P2 P3 rel) (hw : W γ.1) (hv : vl9 rel γ) (hn : γ.1 n = true) : Dx9 P1 P2 P3 rel n (rh9 n o γ) = [(1, γ)] := by
  have e := on_off hn
  rcases hC.2 (off9 γ.1 n) n (by omega) off_x with ⟨h1, h2⟩ | ⟨h1, -⟩
  · rw [e] at h2
    have q : Dx9 P1 P2 P3 rel n (rh9 n o γ) = (if clr9 γ.2 o (P1 n) = true ∧ clr9 γ.2 o (P3 n) = true then [] else [(1, (on9 (off9 γ.1 n) n, fun g => clr9 γ.2 o g || ((clr9 γ.2 o (P1 n) || clr9 γ.2 o (P3 n)) && dcb (rel (on9 (off9 γ.1 n) n) g (P1 n)))))]) := if_neg (fun h9 => h1 (dcb_t.mp h9))
    rw [q, e, hk.2.1, clr_o, clr_n hk.2.2.1]
    rw [if_neg (fun h9 => by cases h9.1)]
    have r : (fun g => clr9 γ.2 o g || ((false || γ.2 (P3 n)) && dcb (rel γ.1 g o))) = γ.2 := funext (fun g => by
      have op : rel γ.1 o (P3 n) := by
        rw [h2, hk.2.1]
        exact adr_ab (hC.1 _)
      rw [Bool.false_or]
      by_cases eg : g = o
      · rw [eg, clr_o, dcb_t.mpr ((hC.1 _).1 o), Bool.and_true, Bool.false_or]
        exact (hv _ _ op).symm
      · rw [clr_n eg]
        by_cases c : rel γ.1 g o
        · rw [dcb_t.mpr c, Bool.and_true, hv _ _ ((hC.1 _).2.2 _ _ _ c op)]
          cases γ.2 (P3 n) <;> rfl
        · rw [dcb_f.mpr c, Bool.and_false, Bool.or_false])
    rw [r]
  · rw [hk.2.1] at h1
    exact absurd (hk.1 _ (hk.2.2.2.2.2 _ hw) off_x _ h1) hk.2.2.1
theorem hW_1 (hC : cub9 (n + 1) P1 P2 P3 rel) (hk : knW n o W P1 P2 P3 rel) (hw : W γ.1) (hv : vl9 rel γ) (hK : γ.1 n = true ∨ γ.2 o = false) : eq9 (bd9 (D9 P1 P2 P3 rel (n + 1)) (hAW n o W γ) ++ bd9 (hAW n o W) (D9 P1 P2 P3 rel (n + 1) γ)) [(1, γ)] := by
  have stn : ∀ q, q ∈ D9 P1 P2 P3 rel n γ → q.2.1 n = γ.1 n ∧ W q.2.1 := fun q hq => by
    obtain ⟨y, h1, -, h2, -⟩ := D_st hq
    rw [h2]
    exact ⟨on_o (by omega), hk.2.2.2.2.1 _ _ hw⟩
  have e0 : ∀ δ, D9 P1 P2 P3 rel (n + 1) δ = D9 P1 P2 P3 rel n δ ++ (if δ.1 n = true then [] else scf9 (par9 δ.1 n) (Dx9 P1 P2 P3 rel n δ)) := fun _ => rfl
  by_cases c : γ.1 n = true
  · have e1 : hAW n o W γ = [(par9 γ.1 n, rh9 n o γ)] := if_pos ⟨dcb_t.mpr hw, c⟩
    have of0 : (rh9 n o γ).1 n = false := off_x
    have e2 : bd9 (D9 P1 P2 P3 rel (n + 1)) [(par9 γ.1 n, rh9 n o γ)] = scf9 (par9 γ.1 n) (D9 P1 P2 P3 rel (n + 1) (rh9 n o γ)) ++ [] := rfl
    have e4 : D9 P1 P2 P3 rel (n + 1) γ = D9 P1 P2 P3 rel n γ := by
      rw [e0, if_pos c, List.append_nil]
    have e3 : eq9 (bd9 (hAW n o W) (D9 P1 P2 P3 rel n γ)) (scf9 (-par9 γ.1 n) (D9 P1 P2 P3 rel n (rh9 n o γ))) := by
      rw [DW_rh hC hk hw (Nat.le_refl n)]
      refine bd_map (c := -par9 γ.1 n) (κ := rh9 n o) (fun q hq => ?_)
      have h1 : hAW n o W q.2 = [(par9 q.2.1 n, rh9 n o q.2)] := if_pos ⟨dcb_t.mpr (stn q hq).2, (stn q hq).1.trans c⟩
      rw [h1]
      obtain ⟨y, h2, h3, h4, -⟩ := D_st hq
      rw [h4, par_hi h3 h2]
    rw [e1, e2, e4, List.append_nil]
    refine eq_t (eq_a eq_r e3) (fun δ => ?_)
    rw [cf_a, cf_sc, cf_sc, e0, cf_a, if_neg (by rw [of0]; decide), cf_sc, DnW_A hC hk hw hv c]
    have pe : par9 (rh9 n o γ).1 n = par9 γ.1 n := par_off (Nat.le_refl n)
    rw [pe, Int.mul_add, ← Int.mul_assoc, par_2, Int.neg_mul, Int.one_mul]
    omega
  · have cf : γ.1 n = false := by cases h : γ.1 n <;> simp_all
    have ko : γ.2 o = false := hK.resolve_left c
    have e1 : hAW n o W γ = [] := if_neg (fun h9 => c h9.2)
    have e2 : bd9 (D9 P1 P2 P3 rel (n + 1)) [] = [] := rfl
    rw [e1, e2, List.nil_append, e0, if_neg c]
    refine eq_t (bd_a rfl) ?_
    have z1 : eq9 (bd9 (hAW n o W) (D9 P1 P2 P3 rel n γ)) [] := bd_nil (fun q hq => if_neg (fun h9 => c ((stn q hq).1.symm.trans h9.2)))
    refine eq_t (eq_a z1 eq_r) ?_
    rw [List.nil_append]
    rcases hC.2 γ.1 n (by omega) cf with ⟨h1, h2⟩ | ⟨h1, -⟩
    · have q : Dx9 P1 P2 P3 rel n γ = (if γ.2 (P1 n) = true ∧ γ.2 (P3 n) = true then [] else [(1, (on9 γ.1 n, fun g => γ.2 g || ((γ.2 (P1 n) || γ.2 (P3 n)) && dcb (rel (on9 γ.1 n) g (P1 n)))))]) := if_neg (fun h9 => h1 (dcb_t.mp h9))
      rw [q, hk.2.1, ko, if_neg (fun h9 => by cases h9.1), Bool.false_or]
      show eq9 (bd9 (hAW n o W) [(par9 γ.1 n * 1, (on9 γ.1 n, fun g => γ.2 g || (γ.2 (P3 n) && dcb (rel (on9 γ.1 n) g o))))]) [(1, γ)]
      have r : rh9 n o (on9 γ.1 n, fun g => γ.2 g || (γ.2 (P3 n) && dcb (rel (on9 γ.1 n) g o))) = γ := by
        refine Prod.ext (off_on2 cf) (funext (fun g => ?_))
        show clr9 (fun g => γ.2 g || (γ.2 (P3 n) && dcb (rel (on9 γ.1 n) g o))) o g = γ.2 g
        by_cases eg : g = o
        · rw [eg, clr_o, ko]
        · rw [clr_n eg]
          by_cases c2 : rel (on9 γ.1 n) g o
          · have g3 : rel γ.1 g (P3 n) := by
              rcases (h2 g o).mp c2 with h9 | ⟨h9, h8⟩ | ⟨h9, h8⟩
              · exact absurd (hk.1 _ hw cf _ ((hC.1 _).2.1 _ _ h9)) eg
              · rw [hk.2.1] at h9
                exact absurd (hk.1 _ hw cf _ ((hC.1 _).2.1 _ _ h9)) eg
              · exact h9
            rw [dcb_t.mpr c2, Bool.and_true, hv _ _ g3]
            cases γ.2 (P3 n) <;> rfl
          · rw [dcb_f.mpr c2, Bool.and_false, Bool.or_false]
      intro δ
      have hh : hAW n o W (on9 γ.1 n, fun g => γ.2 g || (γ.2 (P3 n) && dcb (rel (on9 γ.1 n) g o))) = [(par9 (on9 γ.1 n) n, γ)] := by
        refine (if_pos ⟨dcb_t.mpr (hk.2.2.2.2.1 _ _ hw), on_x⟩).trans ?_
        rw [r]
      rw [cf_bd]
      show par9 γ.1 n * 1 * cf9 (hAW n o W (on9 γ.1 n, fun g => γ.2 g || (γ.2 (P3 n) && dcb (rel (on9 γ.1 n) g o)))) δ + 0 = 1 * id9 δ γ + 0
      rw [hh, par_lo (Nat.le_refl n)]
      show par9 γ.1 n * 1 * (par9 γ.1 n * id9 δ γ + 0) + 0 = 1 * id9 δ γ + 0
      rw [Int.mul_one, Int.add_zero, Int.add_zero, ← Int.mul_assoc, par_2]
      omega
    · rw [hk.2.1] at h1
      exact absurd (hk.1 _ hw cf _ h1) hk.2.2.1
def KA9 (n o : Nat) (W : (Nat → Bool) → Prop) (γ : gn9) : Prop := W γ.1 ∧ (γ.1 n = true ∨ γ.2 o = false)
/-- the quotient by the loop that goes -/
theorem quoA {r : Nat} {E' : Nat → Nat → gn9} {N' : Nat → Nat} (hp : pr9 p) (hi : iv9 p) (hC : cu9 (n + 1) V G P1 P2 P3 rel) (hk : knW n o W P1 P2 P3 rel) (hb : be9 p (Sg9 (n + 1) V G rel k d) (D9 P1 P2 P3 rel (n + 1)) r b) (he' : ∀ r, en9 (fun γ => Sg9 (n + 1) V G rel k d r γ ∧ ¬ KA9 n o W γ) (E' r) (N' r)) : cg9 (fun r γ => Sg9 (n + 1) V G rel k d r γ ∧ ¬ KA9 n o W γ) (fun γ => flt9 (KA9 n o W) (D9 P1 P2 P3 rel (n + 1) γ)) ∧ (N' (r + 1) : Int) = b + rn9 p E' N' (fun γ => flt9 (KA9 n o W) (D9 P1 P2 P3 rel (n + 1) γ)) (r + 1) + rn9 p E' N' (fun γ => flt9 (KA9 n o W) (D9 P1 P2 P3 rel (n + 1) γ)) r := by
  refine quoK (h := hAW n o W) hp hi (cu_cg hC) (fun r γ hγ hK δ hδ => ?_) (fun r γ hγ δ hδ => ?_) (fun r γ hγ hK => hW_1 hC.1 hk hK.1 hγ.2.2.1 hK.2) r hb he'
  · obtain ⟨q, q1, q2⟩ := cf_mem hδ
    obtain ⟨y, y1, y2, y3, c, y4⟩ := D_st q1
    rw [← q2]
    refine ⟨by rw [y3]; exact hk.2.2.2.2.1 _ _ hK.1, ?_⟩
    by_cases e : y = n
    · rw [y3, e, on_x]
      exact Or.inl rfl
    · rcases hK.2 with h1 | h1
      · left
        rw [y3, on_o (by omega)]
        exact h1
      · by_cases h2 : γ.1 n = true
        · left
          rw [y3, on_o (by omega)]
          exact h2
        · right
          have h3 : γ.1 n = false := by cases h : γ.1 n <;> simp_all
          exact (DxW_o hk hK.1 (by omega) y2 h3 y4).trans h1
  · unfold hAW at hδ
    split at hδ
    · rename_i c
      have hw := dcb_t.mp c.1
      rw [cf_1] at hδ
      by_cases e : rh9 n o γ = δ
      · rw [← e]
        obtain ⟨z1, z2, z3, z4, z5⟩ := hγ
        have of0 : (rh9 n o γ).1 n = false := off_x
        have a1 : ∀ y, n + 1 ≤ y → (rh9 n o γ).1 y = false := fun y hy => by
          show off9 γ.1 n y = false
          rw [off_o (by omega)]
          exact z1 y hy
        have a2 : ∀ g, ¬ G g → (rh9 n o γ).2 g = false := fun g hg => by
          show clr9 γ.2 o g = false
          by_cases e9 : g = o
          · rw [e9, clr_o]
          · rw [clr_n e9]
            exact z2 g hg
        have a3 : vl9 rel (rh9 n o γ) := fun g h h1 => by
          have h1 : rel (off9 γ.1 n) g h := h1
          show clr9 γ.2 o g = clr9 γ.2 o h
          by_cases e9 : g = o
          · rw [e9] at h1 ⊢
            rw [hk.1 _ (hk.2.2.2.2.2 _ hw) off_x _ h1]
          · by_cases e8 : h = o
            · rw [e8] at h1
              exact absurd (hk.1 _ (hk.2.2.2.2.2 _ hw) off_x _ ((hC.1.1 _).2.1 _ _ h1)) e9
            · rw [clr_n e9, clr_n e8]
              exact z3 g h ((knW_r hC.1 hk hw e9 e8).mp h1)
        have q := Dx_ok (c := 1) (δ := γ) (k := k) (d := dg9 rel G V (n + 1) (rh9 n o γ)) (r := ons9 (rh9 n o γ).1 (n + 1) + k) (x := n) hC (by omega) ⟨a1, a2, a3, rfl, rfl⟩ of0 (by
          rw [DnW_A hC.1 hk hw z3 c.2]
          exact List.mem_singleton.mpr rfl)
        have q4 := q.2.2.2.1
        have q5 := q.2.2.2.2
        exact ⟨⟨a1, a2, a3, by omega, by rw [← q5]; exact z5⟩, hk.2.2.2.2.2 _ hw, Or.inr (clr_o _ _)⟩
      · exact absurd (by rw [id_n e, Int.mul_zero]) hδ
    · exact absurd rfl hδ
end XCHN
end
section
/-! 99zzzzzzzzzzzzzzzzyr.xchg -/
-- CHAIN: a kink of type A; a loop that comes (type B)
def stt9 (m : Nat → Bool) (o : Nat) (b : Bool) : Nat → Bool := fun g => if g = o then b else m g
def lo9 (n o a : Nat) (γ : gn9) : gn9 := (off9 γ.1 n, stt9 γ.2 o (γ.2 a))
def hB9 (n o a : Nat) (γ : gn9) : fc9 := if γ.1 n = true ∧ γ.2 o = true then [(par9 γ.1 n, lo9 n o a γ)] else []
def knB (n o : Nat) (W : (Nat → Bool) → Prop) (P1 P2 P3 : Nat → Nat) (rel : (Nat → Bool) → Nat → Nat → Prop) : Prop := (∀ s, W s → s n = true → ∀ g, rel s o g → g = o) ∧ P1 n = o ∧ (∀ y s, y < n → W s → s y = false → P1 y ≠ o ∧ P2 y ≠ o ∧ P3 y ≠ o) ∧ (∀ s y, y ≤ n → W s → W (on9 s y)) ∧ ∀ s, W s → W (off9 s n)
section XCHO
variable {n o V k : Nat} {W : (Nat → Bool) → Prop} {G : Nat → Prop} {P1 P2 P3 : Nat → Nat} {rel : (Nat → Bool) → Nat → Nat → Prop} {γ δ : gn9} {d p b : Int} {R : Nat → Nat → Prop} {Q : Nat → Prop}
theorem st_o (m : Nat → Bool) (o : Nat) (b : Bool) : stt9 m o b o = b := if_pos rfl
theorem st_n {m : Nat → Bool} {o g : Nat} {b : Bool} (h : g ≠ o) : stt9 m o b g = m g := if_neg h
theorem ff_of {c : Bool} (h : ¬ c = true) : c = false := by cases c <;> simp_all
/-- a loop of one gap less -/
theorem cls_o (hV : ∀ g, G g → g < V) (ho : G o) (hR : eqv9 R) (hal : ∀ g, R o g → g = o) : (Q o → cls9 R G V Q = cls9 R (fun g => G g ∧ g ≠ o) V Q + 1) ∧ (¬ Q o → cls9 R G V Q = cls9 R (fun g => G g ∧ g ≠ o) V Q) := by
  have e : ∀ g, ld9 R G g ↔ ld9 R (fun g => G g ∧ g ≠ o) g ∨ g = o := fun g => by
    constructor
    · intro h9
      by_cases c : g = o
      · exact Or.inr c
      · exact Or.inl ⟨⟨h9.1, c⟩, fun h h1 h2 h3 => h9.2 h h1 h2.1 h3⟩
    · rintro (h9 | h9)
      · refine ⟨h9.1.1, fun h h1 h2 h3 => ?_⟩
        by_cases c : h = o
        · rw [c] at h3
          exact h9.1.2 (hal g h3)
        · exact h9.2 h h1 ⟨h2, c⟩ h3
      · rw [h9]
        refine ⟨ho, fun h h1 h2 h3 => ?_⟩
        have := hal h (hR.2.1 _ _ h3)
        omega
  constructor
  · intro q
    refine cn_one (a := o) (hV o ho) (fun h9 => h9.1.1.2 rfl) (fun g _ => ⟨fun h9 => ?_, fun h9 => ?_⟩)
    · rcases (e g).mp h9.1 with h8 | h8
      · exact Or.inl ⟨h8, h9.2⟩
      · exact Or.inr h8
    · rcases h9 with h8 | h8
      · exact ⟨(e g).mpr (Or.inl h8.1), h8.2⟩
      · rw [h8]
        exact ⟨(e o).mpr (Or.inr rfl), q⟩
  · intro q
    refine cn_cg (fun g _ => ⟨fun h9 => ?_, fun h9 => ⟨(e g).mpr (Or.inl h9.1), h9.2⟩⟩)
    rcases (e g).mp h9.1 with h8 | h8
    · exact ⟨h8, h9.2⟩
    · rw [h8] at h9
      exact absurd h9.2 q
/-- a kink of type A goes -/
theorem r1A {r : Nat} (hp : pr9 p) (hi : iv9 p) (hC : cu9 (n + 1) V G P1 P2 P3 rel) (ho : G o) (hk : knW n o (fun _ => True) P1 P2 P3 rel) (hb : be9 p (Sg9 (n + 1) V G rel k d) (D9 P1 P2 P3 rel (n + 1)) r b) : cu9 n V (fun g => G g ∧ g ≠ o) P1 P2 P3 rel ∧ be9 p (Sg9 n V (fun g => G g ∧ g ≠ o) rel k (d + 1)) (D9 P1 P2 P3 rel n) r b := by
  have hC' : cu9 n V (fun g => G g ∧ g ≠ o) P1 P2 P3 rel := by
    refine ⟨⟨hC.1.1, fun s x hx => hC.1.2 s x (by omega)⟩, fun s hz g h h1 hne => ?_, fun g hg => hC.2.2.1 g hg.1, fun x hx => ?_⟩
    · have al := hk.1 s trivial (hz n (Nat.le_refl n))
      obtain ⟨q1, q2⟩ := hC.2.1 s (fun y hy => hz y (by omega)) g h h1 hne
      refine ⟨⟨q1, fun h9 => ?_⟩, q2, fun h9 => ?_⟩
      · rw [h9] at h1 hne
        exact hne (al h h1).symm
      · rw [h9] at h1 hne
        exact hne (al g ((hC.1.1 s).2.1 _ _ h1))
    · obtain ⟨a1, a2, a3⟩ := hC.2.2.2 x (by omega)
      obtain ⟨b1, b2, b3⟩ := hk.2.2.2.1 x (fun _ => false) hx trivial rfl
      exact ⟨⟨a1, b1⟩, ⟨a2, b2⟩, a3, b3⟩
  refine ⟨hC', ?_⟩
  obtain ⟨E2, N2, he2⟩ := fi_en (S := fun r γ => Sg9 (n + 1) V G rel k d r γ ∧ ¬ KA9 n o (fun _ => True) γ) (fun r => en_ex (n := n + 1) (V := V) (fun γ hγ => ⟨hγ.1.1, fun g hg => hγ.1.2.1 g (fun h9 => by
    have := hC.2.2.1 g h9
    omega)⟩))
  obtain ⟨hC2, hN2⟩ := quoA hp hi hC hk hb he2
  have hb2 : be9 p (fun r γ => Sg9 (n + 1) V G rel k d r γ ∧ ¬ KA9 n o (fun _ => True) γ) (fun γ => flt9 (KA9 n o (fun _ => True)) (D9 P1 P2 P3 rel (n + 1) γ)) r b := ⟨E2, N2, he2, hN2⟩
  obtain ⟨E', N', he'⟩ := fi_en (Sg_en (k := k) (d := d + 1) hC')
  refine ⟨E', N', he', ?_⟩
  have nK : ∀ γ : gn9, ¬ KA9 n o (fun _ => True) γ → γ.1 n = false ∧ γ.2 o = true := fun γ h => by
    refine ⟨ff_of (fun h9 => h ⟨trivial, Or.inl h9⟩), ?_⟩
    cases h9 : γ.2 o
    · exact absurd ⟨trivial, Or.inr h9⟩ h
    · rfl
  have on_ : ∀ s : Nat → Bool, s n = false → ons9 s (n + 1) = ons9 s n := fun s h => by
    rw [ons_s, h]
    rfl
  have deg : ∀ γ γ' : gn9, γ'.1 = γ.1 → (∀ g, g ≠ o → γ'.2 g = γ.2 g) → γ.1 n = false → γ.2 o = true → dg9 rel (fun g => G g ∧ g ≠ o) V n γ' = dg9 rel G V (n + 1) γ + 1 := fun γ γ' e1 e2 e3 e4 => by
    have al := hk.1 γ.1 trivial e3
    have L := (cls_o (Q := fun _ => True) hC.2.2.1 ho (hC.1.1 γ.1) al).1 trivial
    have M := (cls_o (Q := fun g => γ.2 g = true) hC.2.2.1 ho (hC.1.1 γ.1) al).1 e4
    have M2 : cls9 (rel γ.1) (fun g => G g ∧ g ≠ o) V (fun g => γ'.2 g = true) = cls9 (rel γ.1) (fun g => G g ∧ g ≠ o) V (fun g => γ.2 g = true) := cl_cg (fun g hg => by rw [e2 g hg.2])
    unfold dg9
    rw [e1, M2, L, M, on_ _ e3]
    omega
  refine isoT hp hi hC2 (cu_cg hC') (fun γ => (γ.1, clr9 γ.2 o)) (fun γ => (γ.1, stt9 γ.2 o true)) (fun _ => 1) (fun _ => rfl) (fun r γ hγ => ?_) (fun r γ hγ => ?_) (fun r γ hγ => ?_) r hb2 he'
  · obtain ⟨⟨z1, z2, z3, z4, z5⟩, zk⟩ := hγ
    obtain ⟨f1, f2⟩ := nK γ zk
    have al := hk.1 γ.1 trivial f1
    refine ⟨⟨fun y hy => ?_, fun g hg => ?_, fun g h h1 => ?_, ?_, ?_⟩, Prod.ext rfl (funext (fun g => ?_))⟩
    · by_cases e : y = n
      · rw [e]
        exact f1
      · exact z1 y (by omega)
    · show clr9 γ.2 o g = false
      by_cases e : g = o
      · rw [e, clr_o]
      · rw [clr_n e]
        exact z2 g (fun h9 => hg ⟨h9, e⟩)
    · show clr9 γ.2 o g = clr9 γ.2 o h
      have h1 : rel γ.1 g h := h1
      by_cases e : g = o
      · rw [e] at h1 ⊢
        rw [al h h1]
      · by_cases e2 : h = o
        · rw [e2] at h1
          exact absurd (al g ((hC.1.1 _).2.1 _ _ h1)) e
        · rw [clr_n e, clr_n e2]
          exact z3 g h h1
    · show ons9 γ.1 n + k = r
      rw [← on_ _ f1]
      exact z4
    · rw [← z5]
      exact deg γ (γ.1, clr9 γ.2 o) rfl (fun g hg => clr_n hg) f1 f2
    · show stt9 (clr9 γ.2 o) o true g = γ.2 g
      by_cases e : g = o
      · rw [e, st_o, f2]
      · rw [st_n e, clr_n e]
  · obtain ⟨z1, z2, z3, z4, z5⟩ := hγ
    have f1 := z1 n (Nat.le_refl n)
    have al := hk.1 γ.1 trivial f1
    refine ⟨⟨⟨fun y hy => z1 y (by omega), fun g hg => ?_, fun g h h1 => ?_, ?_, ?_⟩, fun h9 => ?_⟩, Prod.ext rfl (funext (fun g => ?_))⟩
    · show stt9 γ.2 o true g = false
      rw [st_n (show g ≠ o from fun h9 => hg (h9 ▸ ho))]
      exact z2 g (fun h9 => hg h9.1)
    · show stt9 γ.2 o true g = stt9 γ.2 o true h
      have h1 : rel γ.1 g h := h1
      by_cases e : g = o
      · rw [e] at h1 ⊢
        rw [al h h1]
      · by_cases e2 : h = o
        · rw [e2] at h1
          exact absurd (al g ((hC.1.1 _).2.1 _ _ h1)) e
        · rw [st_n e, st_n e2]
          exact z3 g h h1
    · show ons9 γ.1 (n + 1) + k = r
      rw [on_ _ f1]
      exact z4
    · have := deg (γ.1, stt9 γ.2 o true) γ rfl (fun g hg => (st_n hg).symm) f1 (st_o _ _ _)
      rw [z5] at this
      omega
    · rcases h9.2 with h8 | h8
      · have h8 : γ.1 n = true := h8
        rw [f1] at h8
        cases h8
      · have h8 : stt9 γ.2 o true o = false := h8
        rw [st_o] at h8
        cases h8
    · show clr9 (stt9 γ.2 o true) o g = γ.2 g
      by_cases e : g = o
      · rw [e, clr_o, z2 o (fun h9 => h9.2 rfl)]
      · rw [clr_n e, st_n e]
  · obtain ⟨⟨z1, z2, z3, z4, z5⟩, zk⟩ := hγ
    obtain ⟨f1, f2⟩ := nK γ zk
    have e0 : D9 P1 P2 P3 rel (n + 1) γ = D9 P1 P2 P3 rel n γ ++ scf9 (par9 γ.1 n) (Dx9 P1 P2 P3 rel n γ) := by
      show D9 P1 P2 P3 rel n γ ++ (if γ.1 n = true then [] else scf9 (par9 γ.1 n) (Dx9 P1 P2 P3 rel n γ)) = _
      rw [if_neg (by rw [f1]; decide)]
    have e1 : flt9 (KA9 n o (fun _ => True)) (D9 P1 P2 P3 rel (n + 1) γ) = D9 P1 P2 P3 rel n γ := by
      rw [e0]
      unfold flt9
      rw [List.filter_append]
      have q1 : (D9 P1 P2 P3 rel n γ).filter (fun q => !dcb (KA9 n o (fun _ => True) q.2)) = D9 P1 P2 P3 rel n γ := List.filter_eq_self.mpr (fun q hq => by
        obtain ⟨y, y1, y2, y3, c, y4⟩ := D_st hq
        rw [dcb_f.mpr (fun h9 => ?_)]
        · rfl
        · rcases h9.2 with h8 | h8
          · rw [y3, on_o (by omega), f1] at h8
            cases h8
          · rw [DxW_o hk trivial y1 y2 f1 y4, f2] at h8
            cases h8)
      have q2 : (scf9 (par9 γ.1 n) (Dx9 P1 P2 P3 rel n γ)).filter (fun q => !dcb (KA9 n o (fun _ => True) q.2)) = [] := List.filter_eq_nil_iff.mpr (fun q hq => by
        obtain ⟨t, t1, t2⟩ := List.mem_map.mp hq
        have := Dx_st t1
        rw [← t2]
        rw [dcb_t.mpr ⟨trivial, Or.inl (by rw [this, on_x])⟩]
        decide)
      rw [q1, q2, List.append_nil]
    have rhe : ∀ δ : gn9, δ.1 n = false → rh9 n o δ = (δ.1, clr9 δ.2 o) := fun δ h => Prod.ext (off_f h) rfl
    show eq9 (bd9 (fun δ => [(1, (δ.1, clr9 δ.2 o))]) (flt9 (KA9 n o (fun _ => True)) (D9 P1 P2 P3 rel (n + 1) γ))) (scf9 1 (D9 P1 P2 P3 rel n (γ.1, clr9 γ.2 o)))
    rw [e1, ← rhe γ f1, DW_rh hC.1 hk trivial (Nat.le_refl n)]
    refine bd_map (c := 1) (κ := rh9 n o) (fun q hq => ?_)
    obtain ⟨y, y1, y2, y3, -⟩ := D_st hq
    rw [rhe q.2 (by rw [y3, on_o (by omega)]; exact f1)]
theorem knB_s (hC : cub9 (n + 1) P1 P2 P3 rel) (hk : knB n o W P1 P2 P3 rel) {s : Nat → Bool} (hw : W s) (hs : s n = true) : P2 n ≠ o ∧ (∀ g h, rel (off9 s n) g h ↔ adr (rel s) o (P2 n) g h) ∧ rel (off9 s n) o (P3 n) := by
  have e := on_off hs
  have al := hk.1 s hw hs
  rcases hC.2 (off9 s n) n (by omega) off_x with ⟨h1, h2⟩ | ⟨h1, h2, h3⟩
  · rw [e, hk.2.1] at h2
    rw [hk.2.1] at h1
    have := al _ ((h2 o (P3 n)).mpr (adr_ab (hC.1 _)))
    rw [this] at h1
    exact absurd ((hC.1 _).1 o) h1
  · rw [e, hk.2.1] at h2 h3
    rw [hk.2.1] at h1
    exact ⟨fun h9 => h2 (by rw [h9]; exact (hC.1 _).1 o), h3, h1⟩
theorem knB_r (hC : cub9 (n + 1) P1 P2 P3 rel) (hk : knB n o W P1 P2 P3 rel) {s : Nat → Bool} (hw : W s) (hs : s n = true) {g h : Nat} (hg : g ≠ o) (hh : h ≠ o) : rel (off9 s n) g h ↔ rel s g h := by
  obtain ⟨-, h2, -⟩ := knB_s hC hk hw hs
  have al := hk.1 s hw hs
  rw [h2]
  constructor
  · rintro (h9 | ⟨h9, -⟩ | ⟨-, h9⟩)
    · exact h9
    · exact absurd (al g ((hC.1 _).2.1 _ _ h9)) hg
    · exact absurd (al h ((hC.1 _).2.1 _ _ h9)) hh
  · exact Or.inl
theorem knB_o (hC : cub9 (n + 1) P1 P2 P3 rel) (hk : knB n o W P1 P2 P3 rel) {s : Nat → Bool} (hw : W s) (hs : s n = true) {h : Nat} (hh : h ≠ o) : rel (off9 s n) o h ↔ rel s (P2 n) h := by
  obtain ⟨h1, h2, -⟩ := knB_s hC hk hw hs
  have al := hk.1 s hw hs
  rw [h2]
  constructor
  · rintro (h9 | ⟨-, h9⟩ | ⟨h9, -⟩)
    · exact absurd (al h h9) hh
    · exact (hC.1 _).2.1 _ _ h9
    · exact absurd (al _ h9) h1
  · intro h9
    exact Or.inr (Or.inl ⟨(hC.1 _).1 o, (hC.1 _).2.1 _ _ h9⟩)
theorem DxB_lo (hC : cub9 (n + 1) P1 P2 P3 rel) (hk : knB n o W P1 P2 P3 rel) (hw : W γ.1) (hn : γ.1 n = true) {y : Nat} (hy : y < n) (sy : γ.1 y = false) : Dx9 P1 P2 P3 rel y (lo9 n o (P2 n) γ) = (Dx9 P1 P2 P3 rel y γ).map (fun q => (q.1, lo9 n o (P2 n) q.2)) := by
  obtain ⟨p1, p2, p3⟩ := hk.2.2.1 y γ.1 hy hw sy
  have w2 := hk.2.2.2.1 γ.1 y (by omega) hw
  have n2 : (on9 γ.1 y) n = true := by rw [on_o (by omega)]; exact hn
  obtain ⟨q1, -, -⟩ := knB_s hC hk hw hn
  have a1 : (lo9 n o (P2 n) γ).2 (P1 y) = γ.2 (P1 y) := st_n p1
  have a3 : (lo9 n o (P2 n) γ).2 (P3 y) = γ.2 (P3 y) := st_n p3
  have st : on9 (lo9 n o (P2 n) γ).1 y = off9 (on9 γ.1 y) n := (off_on (by omega)).symm
  have r1 : dcb (rel (lo9 n o (P2 n) γ).1 (P1 y) (P3 y)) = dcb (rel γ.1 (P1 y) (P3 y)) := dcb_c (knB_r hC hk hw hn p1 p3)
  have bt : ∀ (b : Bool) (a : Nat), a ≠ o → (fun g => (lo9 n o (P2 n) γ).2 g || (b && dcb (rel (on9 (lo9 n o (P2 n) γ).1 y) g a))) = stt9 (fun g => γ.2 g || (b && dcb (rel (on9 γ.1 y) g a))) o (γ.2 (P2 n) || (b && dcb (rel (on9 γ.1 y) (P2 n) a))) := fun b a ha => funext (fun g => by
    rw [st]
    by_cases e : g = o
    · rw [e, st_o]
      show (stt9 γ.2 o (γ.2 (P2 n)) o || (b && dcb (rel (off9 (on9 γ.1 y) n) o a))) = _
      rw [st_o, dcb_c (knB_o hC hk w2 n2 ha)]
    · rw [st_n e]
      show (stt9 γ.2 o (γ.2 (P2 n)) g || (b && dcb (rel (off9 (on9 γ.1 y) n) g a))) = _
      rw [st_n e, dcb_c (knB_r hC hk w2 n2 e ha)])
  have bt1 : ∀ a : Nat, a ≠ o → (fun g => (lo9 n o (P2 n) γ).2 g || dcb (rel (on9 (lo9 n o (P2 n) γ).1 y) g a)) = stt9 (fun g => γ.2 g || dcb (rel (on9 γ.1 y) g a)) o (γ.2 (P2 n) || dcb (rel (on9 γ.1 y) (P2 n) a)) := fun a ha => by
    have := bt true a ha
    simp only [Bool.true_and] at this
    exact this
  unfold Dx9
  rw [r1, a1, a3]
  by_cases c : dcb (rel γ.1 (P1 y) (P3 y)) = true
  · rw [if_pos c, if_pos c]
    by_cases c2 : γ.2 (P1 y) = true
    · rw [if_pos c2, if_pos c2, st]
      rfl
    · rw [if_neg c2, if_neg c2, bt1 _ p1, bt1 _ p2, st]
      rfl
  · rw [if_neg c, if_neg c]
    by_cases c2 : γ.2 (P1 y) = true ∧ γ.2 (P3 y) = true
    · rw [if_pos c2, if_pos c2]
      rfl
    · rw [if_neg c2, if_neg c2, bt _ _ p1, st]
      rfl
theorem DB_lo (hC : cub9 (n + 1) P1 P2 P3 rel) (hk : knB n o W P1 P2 P3 rel) (hw : W γ.1) (hn : γ.1 n = true) : ∀ {k : Nat}, k ≤ n → D9 P1 P2 P3 rel k (lo9 n o (P2 n) γ) = (D9 P1 P2 P3 rel k γ).map (fun q => (q.1, lo9 n o (P2 n) q.2))
  | 0, _ => rfl
  | k + 1, h => by
    show D9 P1 P2 P3 rel k (lo9 n o (P2 n) γ) ++ (if (lo9 n o (P2 n) γ).1 k = true then [] else scf9 (par9 (lo9 n o (P2 n) γ).1 k) (Dx9 P1 P2 P3 rel k (lo9 n o (P2 n) γ))) = (D9 P1 P2 P3 rel k γ ++ (if γ.1 k = true then [] else scf9 (par9 γ.1 k) (Dx9 P1 P2 P3 rel k γ))).map _
    have e1 : (lo9 n o (P2 n) γ).1 k = γ.1 k := off_o (by omega)
    have e2 : par9 (lo9 n o (P2 n) γ).1 k = par9 γ.1 k := par_off (by omega)
    rw [List.map_append, DB_lo hC hk hw hn (by omega), e1, e2]
    refine congrArg _ ?_
    by_cases c : γ.1 k = true
    · rw [if_pos c, if_pos c]
      rfl
    · rw [if_neg c, if_neg c, DxB_lo hC hk hw hn (by omega) (ff_of c)]
      unfold scf9
      rw [List.map_map, List.map_map]
      rfl
theorem DxB_o (hk : knB n o W P1 P2 P3 rel) (hw : W γ.1) (hn : γ.1 n = true) {y : Nat} (hy : y < n) (sy : γ.1 y = false) {q : Int × gn9} (h : q ∈ Dx9 P1 P2 P3 rel y γ) : q.2.2 o = γ.2 o := by
  obtain ⟨p1, p2, p3⟩ := hk.2.2.1 y γ.1 hy hw sy
  have w2 := hk.2.2.2.1 γ.1 y (by omega) hw
  have n2 : (on9 γ.1 y) n = true := by rw [on_o (by omega)]; exact hn
  have no : ∀ a, a ≠ o → dcb (rel (on9 γ.1 y) o a) = false := fun a ha => dcb_f.mpr (fun h9 => ha (hk.1 _ w2 n2 a h9))
  unfold Dx9 at h
  split at h
  · split at h
    · rw [List.mem_singleton.mp h]
    · rcases List.mem_cons.mp h with e | e
      · rw [e]
        show (γ.2 o || dcb (rel (on9 γ.1 y) o (P1 y))) = γ.2 o
        rw [no _ p1, Bool.or_false]
      · rw [List.mem_singleton.mp e]
        show (γ.2 o || dcb (rel (on9 γ.1 y) o (P2 y))) = γ.2 o
        rw [no _ p2, Bool.or_false]
  · split at h
    · exact absurd h List.not_mem_nil
    · rw [List.mem_singleton.mp h]
      show (γ.2 o || ((γ.2 (P1 y) || γ.2 (P3 y)) && dcb (rel (on9 γ.1 y) o (P1 y)))) = γ.2 o
      rw [no _ p1, Bool.and_false, Bool.or_false]
/-- the turned crossing of what lies below -/
theorem DnB (hC : cub9 (n + 1) P1 P2 P3 rel) (hk : knB n o W P1 P2 P3 rel) (hw : W γ.1) (hn : γ.1 n = true) (hm : γ.2 o = true) : (1, γ) ∈ Dx9 P1 P2 P3 rel n (lo9 n o (P2 n) γ) ∧ ∀ δ : gn9, (δ.1 n = true → δ.2 o = true) → cf9 (Dx9 P1 P2 P3 rel n (lo9 n o (P2 n) γ)) δ = id9 δ γ := by
  have e := on_off hn
  obtain ⟨q1, q2, q3⟩ := knB_s hC hk hw hn
  have al := hk.1 γ.1 hw hn
  have q : Dx9 P1 P2 P3 rel n (lo9 n o (P2 n) γ) = (if stt9 γ.2 o (γ.2 (P2 n)) (P1 n) = true then [(1, (on9 (off9 γ.1 n) n, stt9 γ.2 o (γ.2 (P2 n))))] else [(1, (on9 (off9 γ.1 n) n, fun g => stt9 γ.2 o (γ.2 (P2 n)) g || dcb (rel (on9 (off9 γ.1 n) n) g (P1 n)))), (1, (on9 (off9 γ.1 n) n, fun g => stt9 γ.2 o (γ.2 (P2 n)) g || dcb (rel (on9 (off9 γ.1 n) n) g (P2 n))))]) := if_pos (dcb_t.mpr (by rw [hk.2.1]; exact q3))
  rw [q, e, hk.2.1, st_o]
  by_cases c : γ.2 (P2 n) = true
  · rw [if_pos c, c]
    have r : stt9 γ.2 o true = γ.2 := funext (fun g => by
      by_cases eg : g = o
      · rw [eg, st_o, hm]
      · rw [st_n eg])
    rw [r]
    refine ⟨List.mem_singleton.mpr rfl, fun δ _ => ?_⟩
    rw [cf_1, Int.one_mul]
  · rw [if_neg c]
    have r : (fun g => stt9 γ.2 o (γ.2 (P2 n)) g || dcb (rel γ.1 g o)) = γ.2 := funext (fun g => by
      by_cases eg : g = o
      · rw [eg, dcb_t.mpr ((hC.1 _).1 o), Bool.or_true, hm]
      · rw [st_n eg, dcb_f.mpr (fun h9 => eg (al g ((hC.1 _).2.1 _ _ h9))), Bool.or_false])
    rw [r]
    refine ⟨List.mem_cons_self, fun δ hδ => ?_⟩
    have ne : ((γ.1, fun g => stt9 γ.2 o (γ.2 (P2 n)) g || dcb (rel γ.1 g (P2 n))) : gn9) ≠ δ := fun h9 => by
      have h1 : δ.1 n = true := by rw [← h9]; exact hn
      have h2 := hδ h1
      rw [← h9] at h2
      have h2 : (stt9 γ.2 o (γ.2 (P2 n)) o || dcb (rel γ.1 o (P2 n))) = true := h2
      rw [st_o, ff_of c, dcb_f.mpr (fun h8 => q1 (al _ h8))] at h2
      cases h2
    show 1 * id9 δ γ + (1 * id9 δ (γ.1, fun g => stt9 γ.2 o (γ.2 (P2 n)) g || dcb (rel γ.1 g (P2 n))) + 0) = id9 δ γ
    rw [id_n ne]
    omega
theorem hB_1 (hC : cub9 (n + 1) P1 P2 P3 rel) (hk : knB n o W P1 P2 P3 rel) (hw : W γ.1) (hv : vl9 rel γ) (hg : γ.1 n = true → γ.2 o = true) (hd : δ.1 n = true → δ.2 o = true) : cf9 (bd9 (D9 P1 P2 P3 rel (n + 1)) (hB9 n o (P2 n) γ) ++ bd9 (hB9 n o (P2 n)) (D9 P1 P2 P3 rel (n + 1) γ)) δ = id9 δ γ := by
  have stn : ∀ q, q ∈ D9 P1 P2 P3 rel n γ → q.2.1 n = γ.1 n := fun q hq => by
    obtain ⟨y, h1, -, h2, -⟩ := D_st hq
    rw [h2]
    exact on_o (by omega)
  have e0 : ∀ δ, D9 P1 P2 P3 rel (n + 1) δ = D9 P1 P2 P3 rel n δ ++ (if δ.1 n = true then [] else scf9 (par9 δ.1 n) (Dx9 P1 P2 P3 rel n δ)) := fun _ => rfl
  by_cases c : γ.1 n = true
  · have hm := hg c
    have e1 : hB9 n o (P2 n) γ = [(par9 γ.1 n, lo9 n o (P2 n) γ)] := if_pos ⟨c, hm⟩
    have of0 : (lo9 n o (P2 n) γ).1 n = false := off_x
    have e2 : bd9 (D9 P1 P2 P3 rel (n + 1)) [(par9 γ.1 n, lo9 n o (P2 n) γ)] = scf9 (par9 γ.1 n) (D9 P1 P2 P3 rel (n + 1) (lo9 n o (P2 n) γ)) ++ [] := rfl
    have e4 : D9 P1 P2 P3 rel (n + 1) γ = D9 P1 P2 P3 rel n γ := by
      rw [e0, if_pos c, List.append_nil]
    have e3 : eq9 (bd9 (hB9 n o (P2 n)) (D9 P1 P2 P3 rel n γ)) (scf9 (-par9 γ.1 n) (D9 P1 P2 P3 rel n (lo9 n o (P2 n) γ))) := by
      rw [DB_lo hC hk hw c (Nat.le_refl n)]
      refine bd_map (c := -par9 γ.1 n) (κ := lo9 n o (P2 n)) (fun q hq => ?_)
      obtain ⟨y, h2, h3, h4, w, h5⟩ := D_st hq
      have h1 : hB9 n o (P2 n) q.2 = [(par9 q.2.1 n, lo9 n o (P2 n) q.2)] := if_pos ⟨(stn q hq).trans c, (DxB_o hk hw c h2 h3 h5).trans hm⟩
      rw [h1, h4, par_hi h3 h2]
    rw [e1, e2, e4, List.append_nil, cf_a, e3 δ, cf_sc, cf_sc, e0, cf_a, if_neg (by rw [of0]; decide), cf_sc, (DnB hC hk hw c hm).2 δ hd]
    have pe : par9 (lo9 n o (P2 n) γ).1 n = par9 γ.1 n := par_off (Nat.le_refl n)
    rw [pe, Int.mul_add, ← Int.mul_assoc, par_2, Int.neg_mul, Int.one_mul]
    omega
  · have cf := ff_of c
    have e1 : hB9 n o (P2 n) γ = [] := if_neg (fun h9 => c h9.1)
    have e2 : bd9 (D9 P1 P2 P3 rel (n + 1)) [] = [] := rfl
    rw [e1, e2, List.nil_append, e0, if_neg c]
    have z1 : eq9 (bd9 (hB9 n o (P2 n)) (D9 P1 P2 P3 rel n γ)) [] := bd_nil (fun q hq => if_neg (fun h9 => c ((stn q hq).symm.trans h9.1)))
    refine (bd_a rfl δ).trans ?_
    rw [cf_a, z1 δ]
    -- the state with n turned
    have w2 := hk.2.2.2.1 γ.1 n (Nat.le_refl n) hw
    have of_ : off9 (on9 γ.1 n) n = γ.1 := off_on2 cf
    obtain ⟨q1, q2, q3⟩ := knB_s hC hk w2 on_x
    rw [of_] at q2 q3
    have al := hk.1 _ w2 on_x
    have op : γ.2 o = γ.2 (P2 n) := hv _ _ ((q2 _ _).mpr (adr_ab (hC.1 _)))
    have q : Dx9 P1 P2 P3 rel n γ = (if γ.2 (P1 n) = true then [(1, (on9 γ.1 n, γ.2))] else [(1, (on9 γ.1 n, fun g => γ.2 g || dcb (rel (on9 γ.1 n) g (P1 n)))), (1, (on9 γ.1 n, fun g => γ.2 g || dcb (rel (on9 γ.1 n) g (P2 n))))]) := if_pos (dcb_t.mpr (by rw [hk.2.1]; exact q3))
    rw [q, hk.2.1]
    have pn : par9 (on9 γ.1 n) n = par9 γ.1 n := par_lo (Nat.le_refl n)
    by_cases c2 : γ.2 o = true
    · rw [if_pos c2]
      have hh : hB9 n o (P2 n) (on9 γ.1 n, γ.2) = [(par9 (on9 γ.1 n) n, γ)] := by
        refine (if_pos ⟨on_x, c2⟩).trans ?_
        have r : lo9 n o (P2 n) (on9 γ.1 n, γ.2) = γ := Prod.ext of_ (funext (fun g => by
          show stt9 γ.2 o (γ.2 (P2 n)) g = γ.2 g
          by_cases eg : g = o
          · rw [eg, st_o, op]
          · rw [st_n eg]))
        rw [r]
      rw [cf_bd]
      show 0 + (par9 γ.1 n * 1 * cf9 (hB9 n o (P2 n) (on9 γ.1 n, γ.2)) δ + 0) = id9 δ γ
      rw [hh, cf_1, pn, Int.mul_one, ← Int.mul_assoc, par_2]
      omega
    · rw [if_neg c2]
      have h1 : hB9 n o (P2 n) (on9 γ.1 n, fun g => γ.2 g || dcb (rel (on9 γ.1 n) g o)) = [(par9 (on9 γ.1 n) n, γ)] := by
        refine (if_pos ⟨on_x, by show (γ.2 o || dcb (rel (on9 γ.1 n) o o)) = true; rw [dcb_t.mpr ((hC.1 _).1 o), Bool.or_true]⟩).trans ?_
        have r : lo9 n o (P2 n) (on9 γ.1 n, fun g => γ.2 g || dcb (rel (on9 γ.1 n) g o)) = γ := Prod.ext of_ (funext (fun g => by
          show stt9 (fun g => γ.2 g || dcb (rel (on9 γ.1 n) g o)) o (γ.2 (P2 n) || dcb (rel (on9 γ.1 n) (P2 n) o)) g = γ.2 g
          have no : ∀ a, a ≠ o → dcb (rel (on9 γ.1 n) a o) = false := fun a ha => dcb_f.mpr (fun h9 => ha (al a ((hC.1 _).2.1 _ _ h9)))
          by_cases eg : g = o
          · rw [eg, st_o, no _ q1, Bool.or_false, op]
          · rw [st_n eg, no g eg, Bool.or_false]))
        rw [r]
      have h2 : hB9 n o (P2 n) (on9 γ.1 n, fun g => γ.2 g || dcb (rel (on9 γ.1 n) g (P2 n))) = [] := if_neg (fun h9 => by
        have h9 : (γ.2 o || dcb (rel (on9 γ.1 n) o (P2 n))) = true := h9.2
        rw [ff_of c2, dcb_f.mpr (fun h8 => q1 (al _ h8))] at h9
        cases h9)
      rw [cf_bd]
      show 0 + (par9 γ.1 n * 1 * cf9 (hB9 n o (P2 n) (on9 γ.1 n, fun g => γ.2 g || dcb (rel (on9 γ.1 n) g o))) δ + (par9 γ.1 n * 1 * cf9 (hB9 n o (P2 n) (on9 γ.1 n, fun g => γ.2 g || dcb (rel (on9 γ.1 n) g (P2 n)))) δ + 0)) = id9 δ γ
      rw [h1, h2, cf_1, pn, Int.mul_one, ← Int.mul_assoc, par_2]
      show 0 + (1 * id9 δ γ + (par9 γ.1 n * 0 + 0)) = id9 δ γ
      rw [Int.mul_zero]
      omega
/-- what lies below is a generator -/
theorem lo_ok {r : Nat} (hC : cu9 (n + 1) V G P1 P2 P3 rel) (ho : G o) (hk : knB n o W P1 P2 P3 rel) (hw : W γ.1) (hγ : Sg9 (n + 1) V G rel k d (r + 1) γ) (hn : γ.1 n = true) (hm : γ.2 o = true) : Sg9 (n + 1) V G rel k d r (lo9 n o (P2 n) γ) := by
  obtain ⟨z1, z2, z3, z4, z5⟩ := hγ
  obtain ⟨q1, q2, q3⟩ := knB_s hC.1 hk hw hn
  have of0 : (lo9 n o (P2 n) γ).1 n = false := off_x
  have a1 : ∀ y, n + 1 ≤ y → (lo9 n o (P2 n) γ).1 y = false := fun y hy => by
    show off9 γ.1 n y = false
    rw [off_o (by omega)]
    exact z1 y hy
  have a2 : ∀ g, ¬ G g → (lo9 n o (P2 n) γ).2 g = false := fun g hg => by
    show stt9 γ.2 o (γ.2 (P2 n)) g = false
    rw [st_n (show g ≠ o from fun h9 => hg (h9 ▸ ho))]
    exact z2 g hg
  have a3 : vl9 rel (lo9 n o (P2 n) γ) := fun g h h1 => by
    have h1 : rel (off9 γ.1 n) g h := h1
    show stt9 γ.2 o (γ.2 (P2 n)) g = stt9 γ.2 o (γ.2 (P2 n)) h
    by_cases e9 : g = o
    · rw [e9] at h1 ⊢
      by_cases e8 : h = o
      · rw [e8]
      · rw [st_o, st_n e8]
        exact z3 _ _ ((knB_o hC.1 hk hw hn e8).mp h1)
    · by_cases e8 : h = o
      · rw [e8] at h1 ⊢
        rw [st_o, st_n e9]
        exact (z3 _ _ ((knB_o hC.1 hk hw hn e9).mp ((hC.1.1 _).2.1 _ _ h1))).symm
      · rw [st_n e9, st_n e8]
        exact z3 g h ((knB_r hC.1 hk hw hn e9 e8).mp h1)
  have q := Dx_ok (c := 1) (δ := γ) (k := k) (d := dg9 rel G V (n + 1) (lo9 n o (P2 n) γ)) (r := ons9 (lo9 n o (P2 n) γ).1 (n + 1) + k) (x := n) hC (by omega) ⟨a1, a2, a3, rfl, rfl⟩ of0 (DnB hC.1 hk hw hn hm).1
  have q4 := q.2.2.2.1
  have q5 := q.2.2.2.2
  exact ⟨a1, a2, a3, by omega, by rw [← q5]; exact z5⟩
end XCHO
end
section
/-! 99zzzzzzzzzzzzzzzzys.xchh -/
-- CHAIN: a kink of type B goes; two crossings go
section XCHP
variable {n N x o V k : Nat} {G : Nat → Prop} {P1 P2 P3 : Nat → Nat} {rel : (Nat → Bool) → Nat → Nat → Prop} {γ δ : gn9} {d p b : Int}
/-- the states with x turned are a cube -/
theorem cu_on (hn : n ≤ x) (hx : x < N) (hC : cu9 N V G P1 P2 P3 rel) (hG : ∀ s, (∀ y, n ≤ y → s y = false) → ∀ g h, rel (on9 s x) g h → g ≠ h → G g ∧ G h) : cu9 n V G P1 P2 P3 (fun s => rel (on9 s x)) := by
  refine ⟨⟨fun s => hC.1.1 _, fun s y hy hs => ?_⟩, hG, hC.2.2.1, fun y hy => hC.2.2.2 y (by omega)⟩
  have := hC.1.2 (on9 s x) y (by omega) (by rw [on_o (by omega)]; exact hs)
  rw [on_c] at this
  exact this
theorem D_on (hx : n ≤ x) (hs : γ.1 x = true) : ∀ {k : Nat}, k ≤ n → D9 P1 P2 P3 (fun s => rel (on9 s x)) k (off9 γ.1 x, γ.2) = (D9 P1 P2 P3 rel k γ).map (fun q => (q.1, (off9 q.2.1 x, q.2.2)))
  | 0, _ => rfl
  | k + 1, h => by
    show D9 P1 P2 P3 (fun s => rel (on9 s x)) k (off9 γ.1 x, γ.2) ++ (if off9 γ.1 x k = true then [] else scf9 (par9 (off9 γ.1 x) k) (Dx9 P1 P2 P3 (fun s => rel (on9 s x)) k (off9 γ.1 x, γ.2))) = (D9 P1 P2 P3 rel k γ ++ (if γ.1 k = true then [] else scf9 (par9 γ.1 k) (Dx9 P1 P2 P3 rel k γ))).map _
    rw [List.map_append, D_on hx hs (k := k) (by omega), off_o (by omega), par_off (by omega)]
    refine congrArg _ ?_
    have e : Dx9 P1 P2 P3 (fun s => rel (on9 s x)) k (off9 γ.1 x, γ.2) = (Dx9 P1 P2 P3 rel k γ).map (fun q => (q.1, (off9 q.2.1 x, q.2.2))) := by
      show dxv9 (rel (on9 (off9 γ.1 x) x)) (rel (on9 (on9 (off9 γ.1 x) k) x)) (P1 k) (P2 k) (P3 k) (on9 (off9 γ.1 x) k) γ.2 = (dxv9 (rel γ.1) (rel (on9 γ.1 k)) (P1 k) (P2 k) (P3 k) (on9 γ.1 k) γ.2).map _
      rw [on_off hs, on_c, on_off hs, ← off_on (show k ≠ x by omega)]
      unfold dxv9
      split
      · split <;> rfl
      · split <;> rfl
    split
    · rfl
    · rw [e]
      unfold scf9
      rw [List.map_map, List.map_map]
      rfl
/-- a kink of type B goes -/
theorem r1B {r : Nat} (hp : pr9 p) (hi : iv9 p) (hk1 : 1 ≤ k) (hC : cu9 (n + 1) V G P1 P2 P3 rel) (ho : G o) (hk : knB n o (fun _ => True) P1 P2 P3 rel) (hb : be9 p (Sg9 (n + 1) V G rel k d) (D9 P1 P2 P3 rel (n + 1)) r b) : cu9 n V (fun g => G g ∧ g ≠ o) P1 P2 P3 (fun s => rel (on9 s n)) ∧ be9 p (Sg9 n V (fun g => G g ∧ g ≠ o) (fun s => rel (on9 s n)) (k + 1) (d - 2)) (D9 P1 P2 P3 (fun s => rel (on9 s n)) n) r b := by
  have al : ∀ s : Nat → Bool, s n = true → ∀ g, rel s o g → g = o := fun s => hk.1 s trivial
  have hC' : cu9 n V (fun g => G g ∧ g ≠ o) P1 P2 P3 (fun s => rel (on9 s n)) := by
    have h0 := cu_on (n := n) (x := n) (Nat.le_refl n) (by omega) hC (fun s hz g h h1 hne => hC.2.1 _ (fun y hy => by
      rw [on_o (by omega)]
      exact hz y (by omega)) g h h1 hne)
    refine ⟨h0.1, fun s hz g h h1 hne => ?_, fun g hg => hC.2.2.1 g hg.1, fun x hx => ?_⟩
    · obtain ⟨q1, q2⟩ := h0.2.1 s hz g h h1 hne
      have h1 : rel (on9 s n) g h := h1
      refine ⟨⟨q1, fun h9 => ?_⟩, q2, fun h9 => ?_⟩
      · rw [h9] at h1 hne
        exact hne (al _ on_x h h1).symm
      · rw [h9] at h1 hne
        exact hne (al _ on_x g ((hC.1.1 _).2.1 _ _ h1))
    · obtain ⟨a1, a2, a3⟩ := hC.2.2.2 x (by omega)
      obtain ⟨b1, b2, b3⟩ := hk.2.2.1 x (fun _ => false) hx trivial rfl
      exact ⟨⟨a1, b1⟩, ⟨a2, b2⟩, a3, b3⟩
  refine ⟨hC', ?_⟩
  obtain ⟨E2, N2, he2⟩ := fi_en (S := fun r γ => Sg9 (n + 1) V G rel k d r γ ∧ (γ.1 n = true ∧ γ.2 o = false)) (fun r => en_ex (n := n + 1) (V := V) (fun γ hγ => ⟨hγ.1.1, fun g hg => hγ.1.2.1 g (fun h9 => by
    have := hC.2.2.1 g h9
    omega)⟩))
  have nC : ∀ γ : gn9, ¬ (γ.1 n = true ∧ γ.2 o = false) → γ.1 n = true → γ.2 o = true := fun γ h h1 => by
    cases h9 : γ.2 o
    · exact absurd ⟨h1, h9⟩ h
    · rfl
  obtain ⟨hC2, hN2⟩ := subC (C := fun γ => γ.1 n = true ∧ γ.2 o = false) (h := hB9 n o (P2 n)) hp hi (cu_cg hC) (fun γ h9 => by
      have := h9.2.2.2.1
      omega) (fun r γ hγ hc δ hδ => by
      obtain ⟨q, q1, q2⟩ := cf_mem hδ
      obtain ⟨y, y1, y2, y3, c, y4⟩ := D_st q1
      have yn : y < n := by
        by_cases e : y = n
        · rw [e, hc.1] at y2
          cases y2
        · omega
      rw [← q2]
      refine ⟨by rw [y3, on_o (by omega)]; exact hc.1, (DxB_o hk trivial hc.1 yn y2 y4).trans hc.2⟩) (fun r γ hγ δ hδ => by
      unfold hB9 at hδ
      split at hδ
      · rename_i c
        rw [cf_1] at hδ
        by_cases e : lo9 n o (P2 n) γ = δ
        · rw [← e]
          exact lo_ok hC ho hk trivial hγ c.1 c.2
        · exact absurd (by rw [id_n e, Int.mul_zero]) hδ
      · exact absurd rfl hδ) (fun r γ hγ hc => by
      have : hB9 n o (P2 n) γ = [] := if_neg (fun h9 => by
        rw [hc.2] at h9
        cases h9.2)
      rw [this]
      exact eq_r) (fun r γ δ hγ hδ h1 h2 => hB_1 hC.1 hk trivial hγ.2.2.1 (nC γ h1) (nC δ h2)) r hb he2
  have hb2 : be9 p (fun r γ => Sg9 (n + 1) V G rel k d r γ ∧ (γ.1 n = true ∧ γ.2 o = false)) (D9 P1 P2 P3 rel (n + 1)) r b := ⟨E2, N2, he2, hN2⟩
  obtain ⟨E', N', he'⟩ := fi_en (Sg_en (k := k + 1) (d := d - 2) hC')
  refine ⟨E', N', he', ?_⟩
  have on_ : ∀ s : Nat → Bool, s n = true → ons9 s (n + 1) = ons9 (off9 s n) n + 1 := fun s h => by
    rw [ons_s, h, ons_cg (t := off9 s n) (fun z hz => (off_o (by omega)).symm)]
    rfl
  have deg : ∀ γ : gn9, γ.1 n = true → γ.2 o = false → dg9 (fun s => rel (on9 s n)) (fun g => G g ∧ g ≠ o) V n (off9 γ.1 n, γ.2) = dg9 rel G V (n + 1) γ - 2 := fun γ e3 e4 => by
    have L := (cls_o (Q := fun _ => True) hC.2.2.1 ho (hC.1.1 γ.1) (al _ e3)).1 trivial
    have M := (cls_o (Q := fun g => γ.2 g = true) hC.2.2.1 ho (hC.1.1 γ.1) (al _ e3)).2 (by rw [e4]; decide)
    unfold dg9
    show (cls9 (rel (on9 (off9 γ.1 n) n)) (fun g => G g ∧ g ≠ o) V (fun _ => True) : Int) - 2 * cls9 (rel (on9 (off9 γ.1 n) n)) (fun g => G g ∧ g ≠ o) V (fun g => γ.2 g = true) + ons9 (off9 γ.1 n) n = _
    rw [on_off e3, L, M, on_ _ e3]
    omega
  refine isoT hp hi hC2 (cu_cg hC') (fun γ => (off9 γ.1 n, γ.2)) (fun γ => (on9 γ.1 n, γ.2)) (fun _ => 1) (fun _ => rfl) (fun r γ hγ => ?_) (fun r γ hγ => ?_) (fun r γ hγ => ?_) r hb2 he'
  · obtain ⟨⟨z1, z2, z3, z4, z5⟩, f1, f2⟩ := hγ
    refine ⟨⟨fun y hy => ?_, fun g hg => ?_, fun g h h1 => ?_, ?_, ?_⟩, Prod.ext (on_off f1) rfl⟩
    · show off9 γ.1 n y = false
      by_cases e : y = n
      · rw [e, off_x]
      · rw [off_o e]
        exact z1 y (by omega)
    · show γ.2 g = false
      by_cases e : g = o
      · rw [e]
        exact f2
      · exact z2 g (fun h9 => hg ⟨h9, e⟩)
    · have h1 : rel (on9 (off9 γ.1 n) n) g h := h1
      rw [on_off f1] at h1
      exact z3 g h h1
    · show ons9 (off9 γ.1 n) n + (k + 1) = r
      have := on_ _ f1
      omega
    · rw [← z5]
      exact deg γ f1 f2
  · obtain ⟨z1, z2, z3, z4, z5⟩ := hγ
    have f1 := z1 n (Nat.le_refl n)
    have f2 : γ.2 o = false := z2 o (fun h9 => h9.2 rfl)
    have inv : ((off9 (on9 γ.1 n) n, γ.2) : gn9) = γ := Prod.ext (off_on2 f1) rfl
    refine ⟨⟨⟨fun y hy => ?_, fun g hg => z2 g (fun h9 => hg h9.1), fun g h h1 => z3 g h h1, ?_, ?_⟩, on_x, f2⟩, inv⟩
    · show on9 γ.1 n y = false
      rw [on_o (by omega)]
      exact z1 y (by omega)
    · show ons9 (on9 γ.1 n) (n + 1) + k = r
      rw [on_ _ on_x, off_on2 f1]
      omega
    · have := deg (on9 γ.1 n, γ.2) on_x f2
      rw [show ((off9 (on9 γ.1 n, γ.2).1 n, (on9 γ.1 n, γ.2).2) : gn9) = γ from inv, z5] at this
      omega
  · obtain ⟨⟨z1, z2, z3, z4, z5⟩, f1, f2⟩ := hγ
    have e0 : D9 P1 P2 P3 rel (n + 1) γ = D9 P1 P2 P3 rel n γ := by
      show D9 P1 P2 P3 rel n γ ++ (if γ.1 n = true then [] else scf9 (par9 γ.1 n) (Dx9 P1 P2 P3 rel n γ)) = _
      rw [if_pos f1, List.append_nil]
    rw [e0, D_on (Nat.le_refl n) f1 (Nat.le_refl n)]
    exact bd_map (c := 1) (κ := fun δ => (off9 δ.1 n, δ.2)) (fun q hq => rfl)
/-- two crossings go: n + 1 and n; o is alone where n is turned and n + 1 is not -/
theorem r2T {r : Nat} (hp : pr9 p) (hi : iv9 p) (hk1 : 1 ≤ k) (hC : cu9 (n + 2) V G P1 P2 P3 rel) (ho : G o) (hA : knW (n + 1) o (fun s => s n = true) P1 P2 P3 rel) (hB : knB n o (fun s => s (n + 1) = false) P1 P2 P3 rel) (hb : be9 p (Sg9 (n + 2) V G rel k d) (D9 P1 P2 P3 rel (n + 2)) r b) : cu9 n V G P1 P2 P3 (fun s => rel (on9 s (n + 1))) ∧ be9 p (Sg9 n V G (fun s => rel (on9 s (n + 1))) (k + 1) (d - 1)) (D9 P1 P2 P3 (fun s => rel (on9 s (n + 1))) n) r b := by
  have hC1 : cub9 (n + 1) P1 P2 P3 rel := ⟨hC.1.1, fun s x hx => hC.1.2 s x (by omega)⟩
  have hC' : cu9 n V G P1 P2 P3 (fun s => rel (on9 s (n + 1))) := cu_on (n := n) (x := n + 1) (by omega) (by omega) hC (fun s hz g h h1 hne => hC.2.1 _ (fun y hy => by
      rw [on_o (by omega)]
      exact hz y (by omega)) g h h1 hne)
  refine ⟨hC', ?_⟩
  have bd_ : ∀ {γ : gn9} {r : Nat}, Sg9 (n + 2) V G rel k d r γ → (∀ y, n + 2 ≤ y → γ.1 y = false) ∧ ∀ g, V ≤ g → γ.2 g = false := fun hγ => ⟨hγ.1, fun g hg => hγ.2.1 g (fun h9 => by
    have := hC.2.2.1 g h9
    omega)⟩
  -- first the quotient
  obtain ⟨E1, N1, he1⟩ := fi_en (S := fun r γ => Sg9 (n + 2) V G rel k d r γ ∧ ¬ KA9 (n + 1) o (fun s => s n = true) γ) (fun r => en_ex (n := n + 2) (V := V) (fun γ hγ => bd_ hγ.1))
  obtain ⟨hQ, hNQ⟩ := quoA (n := n + 1) hp hi hC hA hb he1
  have hbQ : be9 p (fun r γ => Sg9 (n + 2) V G rel k d r γ ∧ ¬ KA9 (n + 1) o (fun s => s n = true) γ) (fun γ => flt9 (KA9 (n + 1) o (fun s => s n = true)) (D9 P1 P2 P3 rel (n + 2) γ)) r b := ⟨E1, N1, he1, hNQ⟩
  -- who is not in K
  have nK : ∀ γ : gn9, ¬ KA9 (n + 1) o (fun s => s n = true) γ → γ.1 n = true → γ.1 (n + 1) = false ∧ γ.2 o = true := fun γ h h1 => by
    refine ⟨ff_of (fun h9 => h ⟨h1, Or.inl h9⟩), ?_⟩
    cases h9 : γ.2 o
    · exact absurd ⟨h1, Or.inr h9⟩ h
    · rfl
  -- then the subgroup
  obtain ⟨E2, N2, he2⟩ := fi_en (S := fun r γ => (Sg9 (n + 2) V G rel k d r γ ∧ ¬ KA9 (n + 1) o (fun s => s n = true) γ) ∧ (γ.1 n = false ∧ γ.1 (n + 1) = true)) (fun r => en_ex (n := n + 2) (V := V) (fun γ hγ => bd_ hγ.1.1))
  have st1 : ∀ γ : gn9, D9 P1 P2 P3 rel (n + 2) γ = D9 P1 P2 P3 rel (n + 1) γ ++ (if γ.1 (n + 1) = true then [] else scf9 (par9 γ.1 (n + 1)) (Dx9 P1 P2 P3 rel (n + 1) γ)) := fun _ => rfl
  have tn : ∀ (γ : gn9) q, q ∈ (if γ.1 (n + 1) = true then [] else scf9 (par9 γ.1 (n + 1)) (Dx9 P1 P2 P3 rel (n + 1) γ)) → q.2.1 (n + 1) = true := fun γ q hq => by
    split at hq
    · exact absurd hq List.not_mem_nil
    · obtain ⟨t, t1, t2⟩ := List.mem_map.mp hq
      rw [← t2]
      show t.2.1 (n + 1) = true
      rw [Dx_st t1, on_x]
  have hhz : ∀ γ : gn9, (if γ.1 (n + 1) = false then hB9 n o (P2 n) γ else []) ≠ [] → γ.1 (n + 1) = false ∧ γ.1 n = true ∧ γ.2 o = true := fun γ h => by
    split at h
    · rename_i c
      unfold hB9 at h
      split at h
      · rename_i c2
        exact ⟨c, c2⟩
      · exact absurd rfl h
    · exact absurd rfl h
  obtain ⟨hS, hNS⟩ := subC (S := fun r γ => Sg9 (n + 2) V G rel k d r γ ∧ ¬ KA9 (n + 1) o (fun s => s n = true) γ) (D := fun γ => flt9 (KA9 (n + 1) o (fun s => s n = true)) (D9 P1 P2 P3 rel (n + 2) γ)) (C := fun γ => γ.1 n = false ∧ γ.1 (n + 1) = true) (h := fun γ => if γ.1 (n + 1) = false then hB9 n o (P2 n) γ else []) hp hi hQ (fun γ h9 => by
      have := h9.1.2.2.2.1
      omega) (fun r γ hγ hc δ hδ => by
      by_cases kk : KA9 (n + 1) o (fun s => s n = true) δ
      · exact absurd (cf_fy kk) hδ
      · rw [cf_fn kk] at hδ
        obtain ⟨q, q1, q2⟩ := cf_mem hδ
        obtain ⟨y, y1, y2, y3, c, y4⟩ := D_st q1
        have y5 : y ≠ n + 1 := fun e => by
          rw [e, hc.2] at y2
          cases y2
        have d1 : δ.1 (n + 1) = true := by
          rw [← q2, y3, on_o (fun h9 => y5 h9.symm)]
          exact hc.2
        refine ⟨ff_of (fun h9 => kk ⟨h9, Or.inl d1⟩), d1⟩) (fun r γ hγ δ hδ => by
      have hne : (if γ.1 (n + 1) = false then hB9 n o (P2 n) γ else []) ≠ [] := fun h9 => by
        have hδ : cf9 (if γ.1 (n + 1) = false then hB9 n o (P2 n) γ else []) δ ≠ 0 := hδ
        rw [h9] at hδ
        exact hδ rfl
      obtain ⟨c0, c1, c2⟩ := hhz γ hne
      have e1 : (if γ.1 (n + 1) = false then hB9 n o (P2 n) γ else []) = [(par9 γ.1 n, lo9 n o (P2 n) γ)] := (if_pos c0).trans (if_pos ⟨c1, c2⟩)
      have hδ : cf9 (if γ.1 (n + 1) = false then hB9 n o (P2 n) γ else []) δ ≠ 0 := hδ
      rw [e1, cf_1] at hδ
      by_cases e : lo9 n o (P2 n) γ = δ
      · rw [← e]
        have of0 : (lo9 n o (P2 n) γ).1 n = false := off_x
        refine ⟨?_, fun h9 => ?_⟩
        · -- as a generator of the cube
          obtain ⟨z1, z2, z3, z4, z5⟩ := hγ.1
          obtain ⟨q1, q2, q3⟩ := knB_s hC1 hB c0 c1
          have a1 : ∀ y, n + 2 ≤ y → (lo9 n o (P2 n) γ).1 y = false := fun y hy => by
            show off9 γ.1 n y = false
            rw [off_o (by omega)]
            exact z1 y hy
          have a2 : ∀ g, ¬ G g → (lo9 n o (P2 n) γ).2 g = false := fun g hg => by
            show stt9 γ.2 o (γ.2 (P2 n)) g = false
            rw [st_n (show g ≠ o from fun h9 => hg (h9 ▸ ho))]
            exact z2 g hg
          have a3 : vl9 rel (lo9 n o (P2 n) γ) := fun g h h1 => by
            have h1 : rel (off9 γ.1 n) g h := h1
            show stt9 γ.2 o (γ.2 (P2 n)) g = stt9 γ.2 o (γ.2 (P2 n)) h
            by_cases e9 : g = o
            · rw [e9] at h1 ⊢
              by_cases e8 : h = o
              · rw [e8]
              · rw [st_o, st_n e8]
                exact z3 _ _ ((knB_o hC1 hB c0 c1 e8).mp h1)
            · by_cases e8 : h = o
              · rw [e8] at h1 ⊢
                rw [st_o, st_n e9]
                exact (z3 _ _ ((knB_o hC1 hB c0 c1 e9).mp ((hC.1.1 _).2.1 _ _ h1))).symm
              · rw [st_n e9, st_n e8]
                exact z3 g h ((knB_r hC1 hB c0 c1 e9 e8).mp h1)
          have q := Dx_ok (c := 1) (δ := γ) (k := k) (d := dg9 rel G V (n + 2) (lo9 n o (P2 n) γ)) (r := ons9 (lo9 n o (P2 n) γ).1 (n + 2) + k) (x := n) hC (by omega) ⟨a1, a2, a3, rfl, rfl⟩ of0 (DnB hC1 hB c0 c1 c2).1
          have q4 := q.2.2.2.1
          have q5 := q.2.2.2.2
          exact ⟨a1, a2, a3, by omega, by rw [← q5]; exact z5⟩
        · have h9 : (lo9 n o (P2 n) γ).1 n = true := h9.1
          rw [of0] at h9
          cases h9
      · exact absurd (by rw [id_n e, Int.mul_zero]) hδ) (fun r γ hγ hc => by
      have : (if γ.1 (n + 1) = false then hB9 n o (P2 n) γ else []) = [] := if_neg (by rw [hc.2]; decide)
      show eq9 (if γ.1 (n + 1) = false then hB9 n o (P2 n) γ else []) []
      rw [this]
      exact eq_r) (fun r γ δ hγ hδ h1 h2 => by
      -- n + 1 is not turned in either
      have f1 : ∀ ε : gn9, ¬ KA9 (n + 1) o (fun s => s n = true) ε → ¬ (ε.1 n = false ∧ ε.1 (n + 1) = true) → ε.1 (n + 1) = false := fun ε k1 k2 => by
        by_cases c : ε.1 n = true
        · exact (nK ε k1 c).1
        · exact ff_of (fun h9 => k2 ⟨ff_of c, h9⟩)
      have g1 := f1 γ hγ.2 h1
      have d1 := f1 δ hδ.2 h2
      have key := hB_1 (δ := δ) hC1 hB (γ := γ) g1 hγ.1.2.2.1 (fun h9 => (nK γ hγ.2 h9).2) (fun h9 => (nK δ hδ.2 h9).2)
      rw [cf_a] at key ⊢
      rw [← key]
      have hg : (if γ.1 (n + 1) = false then hB9 n o (P2 n) γ else []) = hB9 n o (P2 n) γ := if_pos g1
      have p1 : cf9 (bd9 (fun γ => flt9 (KA9 (n + 1) o (fun s => s n = true)) (D9 P1 P2 P3 rel (n + 2) γ)) (if γ.1 (n + 1) = false then hB9 n o (P2 n) γ else [])) δ = cf9 (bd9 (D9 P1 P2 P3 rel (n + 1)) (hB9 n o (P2 n) γ)) δ := by
        rw [hg]
        refine bd_su δ (fun ε _ => ?_)
        rw [cf_fn hδ.2, st1, cf_a]
        have : cf9 (if ε.1 (n + 1) = true then [] else scf9 (par9 ε.1 (n + 1)) (Dx9 P1 P2 P3 rel (n + 1) ε)) δ = 0 := by
          by_cases c : cf9 (if ε.1 (n + 1) = true then [] else scf9 (par9 ε.1 (n + 1)) (Dx9 P1 P2 P3 rel (n + 1) ε)) δ = 0
          · exact c
          · obtain ⟨q, q1, q2⟩ := cf_mem c
            have := tn ε q q1
            rw [q2, d1] at this
            cases this
        omega
      have p2 : cf9 (bd9 (fun γ => if γ.1 (n + 1) = false then hB9 n o (P2 n) γ else []) (flt9 (KA9 (n + 1) o (fun s => s n = true)) (D9 P1 P2 P3 rel (n + 2) γ))) δ = cf9 (bd9 (hB9 n o (P2 n)) (D9 P1 P2 P3 rel (n + 1) γ)) δ := by
        rw [← bd_q (flt_bd (K := KA9 (n + 1) o (fun s => s n = true)) (D9 P1 P2 P3 rel (n + 2) γ)) δ, bb_c]
        have a1 : cf9 (bd9 (fun ε => bd9 (fun γ => if γ.1 (n + 1) = false then hB9 n o (P2 n) γ else []) (flt9 (KA9 (n + 1) o (fun s => s n = true)) [(1, ε)])) (D9 P1 P2 P3 rel (n + 2) γ)) δ = cf9 (bd9 (fun ε => if ε.1 (n + 1) = false then hB9 n o (P2 n) ε else []) (D9 P1 P2 P3 rel (n + 2) γ)) δ := bd_su δ (fun ε _ => by
          by_cases c : KA9 (n + 1) o (fun s => s n = true) ε
          · have q : flt9 (KA9 (n + 1) o (fun s => s n = true)) [(1, ε)] = [] := List.filter_cons_of_neg (by rw [dcb_t.mpr c]; decide)
            rw [q]
            have q2 : (if ε.1 (n + 1) = false then hB9 n o (P2 n) ε else []) = [] := by
              by_cases c3 : (if ε.1 (n + 1) = false then hB9 n o (P2 n) ε else []) = []
              · exact c3
              · obtain ⟨w0, w1, w2⟩ := hhz ε c3
                rcases c.2 with h8 | h8
                · rw [w0] at h8
                  cases h8
                · rw [w2] at h8
                  cases h8
            rw [q2]
            rfl
          · have q : flt9 (KA9 (n + 1) o (fun s => s n = true)) [(1, ε)] = [(1, ε)] := List.filter_cons_of_pos (by rw [dcb_f.mpr c]; rfl)
            rw [q]
            exact bd_1 (f := fun γ => if γ.1 (n + 1) = false then hB9 n o (P2 n) γ else []) ε δ)
        rw [a1, st1, bd_a rfl δ, cf_a]
        have a2 : cf9 (bd9 (fun ε => if ε.1 (n + 1) = false then hB9 n o (P2 n) ε else []) (if γ.1 (n + 1) = true then [] else scf9 (par9 γ.1 (n + 1)) (Dx9 P1 P2 P3 rel (n + 1) γ))) δ = 0 := bd_nil (fun q hq => if_neg (by rw [tn γ q hq]; decide)) δ
        have a3 : cf9 (bd9 (fun ε => if ε.1 (n + 1) = false then hB9 n o (P2 n) ε else []) (D9 P1 P2 P3 rel (n + 1) γ)) δ = cf9 (bd9 (hB9 n o (P2 n)) (D9 P1 P2 P3 rel (n + 1) γ)) δ := bd_su δ (fun ε hε => by
          obtain ⟨q, q1, q2⟩ := cf_mem hε
          obtain ⟨y, y1, y2, y3, -⟩ := D_st q1
          rw [if_pos (by rw [← q2, y3, on_o (by omega)]; exact g1)])
        rw [a2, a3]
        omega
      rw [p1, p2]) r hbQ he2
  have hb2 : be9 p (fun r γ => (Sg9 (n + 2) V G rel k d r γ ∧ ¬ KA9 (n + 1) o (fun s => s n = true) γ) ∧ (γ.1 n = false ∧ γ.1 (n + 1) = true)) (fun γ => flt9 (KA9 (n + 1) o (fun s => s n = true)) (D9 P1 P2 P3 rel (n + 2) γ)) r b := ⟨E2, N2, he2, hNS⟩
  obtain ⟨E', N', he'⟩ := fi_en (Sg_en (k := k + 1) (d := d - 1) hC')
  refine ⟨E', N', he', ?_⟩
  have on_ : ∀ s : Nat → Bool, s n = false → s (n + 1) = true → ons9 s (n + 2) = ons9 (off9 s (n + 1)) n + 1 := fun s h h1 => by
    rw [ons_s, ons_s, h, h1, ons_cg (t := off9 s (n + 1)) (fun z hz => (off_o (by omega)).symm)]
    rfl
  have deg : ∀ γ : gn9, γ.1 n = false → γ.1 (n + 1) = true → dg9 (fun s => rel (on9 s (n + 1))) G V n (off9 γ.1 (n + 1), γ.2) = dg9 rel G V (n + 2) γ - 1 := fun γ e3 e4 => by
    unfold dg9
    show (cls9 (rel (on9 (off9 γ.1 (n + 1)) (n + 1))) G V (fun _ => True) : Int) - 2 * cls9 (rel (on9 (off9 γ.1 (n + 1)) (n + 1))) G V (fun g => γ.2 g = true) + ons9 (off9 γ.1 (n + 1)) n = _
    rw [on_off e4, on_ _ e3 e4]
    omega
  refine isoT hp hi hS (cu_cg hC') (fun γ => (off9 γ.1 (n + 1), γ.2)) (fun γ => (on9 γ.1 (n + 1), γ.2)) (fun _ => 1) (fun _ => rfl) (fun r γ hγ => ?_) (fun r γ hγ => ?_) (fun r γ hγ => ?_) r hb2 he'
  · obtain ⟨⟨⟨z1, z2, z3, z4, z5⟩, -⟩, f1, f2⟩ := hγ
    refine ⟨⟨fun y hy => ?_, z2, fun g h h1 => ?_, ?_, ?_⟩, Prod.ext (on_off f2) rfl⟩
    · show off9 γ.1 (n + 1) y = false
      by_cases e : y = n + 1
      · rw [e, off_x]
      · rw [off_o e]
        by_cases e2 : y = n
        · rw [e2]
          exact f1
        · exact z1 y (by omega)
    · have h1 : rel (on9 (off9 γ.1 (n + 1)) (n + 1)) g h := h1
      rw [on_off f2] at h1
      exact z3 g h h1
    · show ons9 (off9 γ.1 (n + 1)) n + (k + 1) = r
      have := on_ _ f1 f2
      omega
    · rw [← z5]
      exact deg γ f1 f2
  · obtain ⟨z1, z2, z3, z4, z5⟩ := hγ
    have f0 := z1 n (Nat.le_refl n)
    have f1 := z1 (n + 1) (by omega)
    have f2 : on9 γ.1 (n + 1) n = false := by rw [on_o (by omega)]; exact f0
    have inv : ((off9 (on9 γ.1 (n + 1)) (n + 1), γ.2) : gn9) = γ := Prod.ext (off_on2 f1) rfl
    refine ⟨⟨⟨⟨fun y hy => ?_, z2, fun g h h1 => z3 g h h1, ?_, ?_⟩, fun h9 => ?_⟩, f2, on_x⟩, inv⟩
    · show on9 γ.1 (n + 1) y = false
      rw [on_o (by omega)]
      exact z1 y (by omega)
    · show ons9 (on9 γ.1 (n + 1)) (n + 2) + k = r
      rw [on_ _ f2 on_x, off_on2 f1]
      omega
    · have := deg (on9 γ.1 (n + 1), γ.2) f2 on_x
      rw [show ((off9 (on9 γ.1 (n + 1), γ.2).1 (n + 1), (on9 γ.1 (n + 1), γ.2).2) : gn9) = γ from inv, z5] at this
      omega
    · have h9 : on9 γ.1 (n + 1) n = true := h9.1
      rw [f2] at h9
      cases h9
  · obtain ⟨⟨⟨z1, z2, z3, z4, z5⟩, -⟩, f1, f2⟩ := hγ
    have e0 : D9 P1 P2 P3 rel (n + 2) γ = D9 P1 P2 P3 rel n γ ++ scf9 (par9 γ.1 n) (Dx9 P1 P2 P3 rel n γ) := by
      rw [st1, if_pos f2, List.append_nil]
      show D9 P1 P2 P3 rel n γ ++ (if γ.1 n = true then [] else scf9 (par9 γ.1 n) (Dx9 P1 P2 P3 rel n γ)) = _
      rw [if_neg (by rw [f1]; decide)]
    have e1 : flt9 (KA9 (n + 1) o (fun s => s n = true)) (D9 P1 P2 P3 rel (n + 2) γ) = D9 P1 P2 P3 rel n γ := by
      rw [e0]
      unfold flt9
      rw [List.filter_append]
      have q1 : (D9 P1 P2 P3 rel n γ).filter (fun q => !dcb (KA9 (n + 1) o (fun s => s n = true) q.2)) = D9 P1 P2 P3 rel n γ := List.filter_eq_self.mpr (fun q hq => by
        obtain ⟨y, y1, y2, y3, c, y4⟩ := D_st hq
        rw [dcb_f.mpr (fun h9 => ?_)]
        · rfl
        · have h8 : q.2.1 n = true := h9.1
          rw [y3, on_o (by omega), f1] at h8
          cases h8)
      have q2 : (scf9 (par9 γ.1 n) (Dx9 P1 P2 P3 rel n γ)).filter (fun q => !dcb (KA9 (n + 1) o (fun s => s n = true) q.2)) = [] := List.filter_eq_nil_iff.mpr (fun q hq => by
        obtain ⟨t, t1, t2⟩ := List.mem_map.mp hq
        have := Dx_st t1
        rw [← t2]
        have kk : KA9 (n + 1) o (fun s => s n = true) t.2 := ⟨by show t.2.1 n = true; rw [this, on_x], Or.inl (by rw [this, on_o (by omega)]; exact f2)⟩
        rw [dcb_t.mpr kk]
        decide)
      rw [q1, q2, List.append_nil]
    show eq9 (bd9 (fun δ => [(1, (off9 δ.1 (n + 1), δ.2))]) (flt9 (KA9 (n + 1) o (fun s => s n = true)) (D9 P1 P2 P3 rel (n + 2) γ))) (scf9 1 (D9 P1 P2 P3 (fun s => rel (on9 s (n + 1))) n (off9 γ.1 (n + 1), γ.2)))
    rw [e1, D_on (n := n) (x := n + 1) (by omega) f2 (Nat.le_refl n)]
    exact bd_map (c := 1) (κ := fun δ => (off9 δ.1 (n + 1), δ.2)) (fun q hq => rfl)
end XCHP
end
section
/-! 99zzzzzzzzzzzzzzzzyt.xchi -/
-- CHAIN: two groups side by side; a circle more
section XCHQ
variable {p : Int} {n1 n2 m1 m2 : Nat} {d e1 e2 : Nat → vc9} {b1 b2 : Int} {S : Nat → gn9 → Prop} {D : gn9 → fc9} {C : gn9 → Prop}
theorem ap_sN {v : vc9} (j : Nat) : ∀ {n : Nat}, ap9 d n v j = sN9 (fun i => v i * d i j) n
  | 0 => rfl
  | n + 1 => by
    show ap9 d n v j + v n * d n j = sN9 (fun i => v i * d i j) n + v n * d n j
    rw [ap_sN (n := n)]
theorem sN_sp {f : Nat → Int} (a : Nat) : ∀ b, sN9 f (a + b) = sN9 f a + sN9 (fun i => f (a + i)) b
  | 0 => by
    show sN9 f a = sN9 f a + 0
    omega
  | b + 1 => by
    show sN9 f (a + b) + f (a + b) = sN9 f a + (sN9 (fun i => f (a + i)) b + f (a + b))
    rw [sN_sp a b]
    omega
/-- rows in two blocks -/
def blk9 (n1 n2 m1 m2 : Nat) (d e1 e2 : Nat → vc9) : Prop := (∀ i, i < n1 → (∀ j, j < m1 → d i j = e1 i j) ∧ ∀ j, j < m2 → d i (m1 + j) = 0) ∧ ∀ i, i < n2 → (∀ j, j < m1 → d (n1 + i) j = 0) ∧ ∀ j, j < m2 → d (n1 + i) (m1 + j) = e2 i j
theorem blk_rk (h : blk9 n1 n2 m1 m2 d e1 e2) : rk9 p (m1 + m2) (rwl9 d (n1 + n2)) = rk9 p m1 (rwl9 e1 n1) + rk9 p m2 (rwl9 e2 n2) := by
  have a1 : ∀ i, i ≤ n1 → rk9 p (m1 + m2) (rwl9 d i) = rk9 p m1 (rwl9 e1 i) := fun i => by
    induction i with
    | zero => intro _; rfl
    | succ i ih =>
      intro hi
      have ih := ih (by omega)
      have q : sp9 p (m1 + m2) (rwl9 d i) (d i) ↔ sp9 p m1 (rwl9 e1 i) (e1 i) := by
        rw [sp_ap, sp_ap]
        constructor
        · rintro ⟨v, hv⟩
          refine ⟨v, fun j hj => ?_⟩
          have := hv j (by omega)
          rw [ap_sN, (h.1 i (by omega)).1 j hj] at this
          rw [ap_sN, ← sN_cg (f := fun t => v t * d t j) (fun t ht => by rw [(h.1 t (by omega)).1 j hj])]
          exact this
        · rintro ⟨v, hv⟩
          refine ⟨v, fun j hj => ?_⟩
          rcases Nat.lt_or_ge j m1 with hj1 | hj1
          · have := hv j hj1
            rw [ap_sN] at this
            rw [ap_sN, (h.1 i (by omega)).1 j hj1, sN_cg (g := fun t => v t * e1 t j) (fun t ht => by rw [(h.1 t (by omega)).1 j hj1])]
            exact this
          · have ej : j = m1 + (j - m1) := by omega
            rw [ap_sN, ej, (h.1 i (by omega)).2 (j - m1) (by omega), sN_cg (g := fun _ => 0) (fun t ht => by rw [(h.1 t (by omega)).2 (j - m1) (by omega), Int.mul_zero]), sN_0]
            exact Int.dvd_zero p
      show rk9 p (m1 + m2) (d i :: rwl9 d i) = rk9 p m1 (e1 i :: rwl9 e1 i)
      by_cases c : sp9 p m1 (rwl9 e1 i) (e1 i)
      · rw [rk_y c, rk_y (q.mpr c), ih]
      · rw [rk_n c, rk_n (fun h9 => c (q.mp h9)), ih]
  have a2 : ∀ i, i ≤ n2 → rk9 p (m1 + m2) (rwl9 d (n1 + i)) = rk9 p m1 (rwl9 e1 n1) + rk9 p m2 (rwl9 e2 i) := fun i => by
    induction i with
    | zero => intro _; exact a1 n1 (Nat.le_refl n1)
    | succ i ih =>
      intro hi
      have ih := ih (by omega)
      have lo : ∀ (v : vc9) j, j < m2 → sN9 (fun t => v t * d t (m1 + j)) (n1 + i) = sN9 (fun t => v (n1 + t) * e2 t j) i := fun v j hj => by
        rw [sN_sp, sN_cg (f := fun t => v t * d t (m1 + j)) (g := fun _ => 0) (fun t ht => by rw [(h.1 t ht).2 j hj, Int.mul_zero]), sN_0, Int.zero_add]
        exact sN_cg (fun t ht => by rw [(h.2 t (by omega)).2 j hj])
      have q : sp9 p (m1 + m2) (rwl9 d (n1 + i)) (d (n1 + i)) ↔ sp9 p m2 (rwl9 e2 i) (e2 i) := by
        rw [sp_ap, sp_ap]
        constructor
        · rintro ⟨v, hv⟩
          refine ⟨fun t => v (n1 + t), fun j hj => ?_⟩
          have := hv (m1 + j) (by omega)
          rw [ap_sN, (h.2 i (by omega)).2 j hj, lo v j hj] at this
          rw [ap_sN]
          exact this
        · rintro ⟨v, hv⟩
          refine ⟨fun t => if t < n1 then 0 else v (t - n1), fun j hj => ?_⟩
          rcases Nat.lt_or_ge j m1 with hj1 | hj1
          · rw [ap_sN, (h.2 i (by omega)).1 j hj1, sN_cg (g := fun _ => 0) (fun t ht => ?_), sN_0]
            · exact Int.dvd_zero p
            · show (if t < n1 then 0 else v (t - n1)) * d t j = 0
              rcases Nat.lt_or_ge t n1 with ht1 | ht1
              · rw [if_pos ht1, Int.zero_mul]
              · have et : t = n1 + (t - n1) := by omega
                rw [et, (h.2 (t - n1) (by omega)).1 j hj1, Int.mul_zero]
          · have ej : j = m1 + (j - m1) := by omega
            have := hv (j - m1) (by omega)
            rw [ap_sN] at this
            rw [ap_sN, ej, (h.2 i (by omega)).2 (j - m1) (by omega), lo _ (j - m1) (by omega)]
            have e3 : sN9 (fun t => (if n1 + t < n1 then 0 else v (n1 + t - n1)) * e2 t (j - m1)) i = sN9 (fun t => v t * e2 t (j - m1)) i := sN_cg (fun t _ => by
              rw [if_neg (by omega), show n1 + t - n1 = t by omega])
            rw [e3]
            exact this
      show rk9 p (m1 + m2) (d (n1 + i) :: rwl9 d (n1 + i)) = rk9 p m1 (rwl9 e1 n1) + rk9 p m2 (e2 i :: rwl9 e2 i)
      by_cases c : sp9 p m2 (rwl9 e2 i) (e2 i)
      · rw [rk_y c, rk_y (q.mpr c), ih]
      · rw [rk_n c, rk_n (fun h9 => c (q.mp h9)), ih]
        omega
  exact a2 n2 (Nat.le_refl n2)
/-- one list behind the other -/
def cat9 (E1 : Nat → Nat → gn9) (N1 : Nat → Nat) (E2 : Nat → Nat → gn9) (r i : Nat) : gn9 := if i < N1 r then E1 r i else E2 r (i - N1 r)
/-- two groups side by side -/
theorem dirT {r : Nat} (k1 : ∀ r γ, S r γ → C γ → su9 (D γ) C) (k2 : ∀ r γ, S r γ → ¬ C γ → su9 (D γ) (fun δ => ¬ C δ)) (h1 : be9 p (fun r γ => S r γ ∧ C γ) D r b1) (h2 : be9 p (fun r γ => S r γ ∧ ¬ C γ) D r b2) : be9 p S D r (b1 + b2) := by
  obtain ⟨E1, N1, he1, hN1⟩ := h1
  obtain ⟨E2, N2, he2, hN2⟩ := h2
  have lo : ∀ r i, i < N1 r → cat9 E1 N1 E2 r i = E1 r i := fun r i hi => if_pos hi
  have hi : ∀ r i, cat9 E1 N1 E2 r (N1 r + i) = E2 r i := fun r i => by
    show (if N1 r + i < N1 r then E1 r (N1 r + i) else E2 r (N1 r + i - N1 r)) = E2 r i
    rw [if_neg (by omega), show N1 r + i - N1 r = i by omega]
  have en : ∀ r, en9 (S r) (cat9 E1 N1 E2 r) (N1 r + N2 r) := fun r => by
    refine ⟨fun i j h3 h4 h5 => ?_, fun γ => ⟨fun h => ?_, fun ⟨i, h3, h4⟩ => ?_⟩⟩
    · rcases Nat.lt_or_ge i (N1 r) with ci | ci
      · rcases Nat.lt_or_ge j (N1 r) with cj | cj
        · rw [lo r i ci, lo r j cj] at h5
          exact (he1 r).1 i j ci cj h5
        · rw [lo r i ci, show j = N1 r + (j - N1 r) by omega, hi] at h5
          have a := (en_at (he1 r) ci).2
          rw [h5] at a
          exact absurd a (en_at (he2 r) (i := j - N1 r) (by omega)).2
      · rcases Nat.lt_or_ge j (N1 r) with cj | cj
        · rw [lo r j cj, show i = N1 r + (i - N1 r) by omega, hi] at h5
          have a := (en_at (he1 r) cj).2
          rw [← h5] at a
          exact absurd a (en_at (he2 r) (i := i - N1 r) (by omega)).2
        · rw [show j = N1 r + (j - N1 r) by omega, show i = N1 r + (i - N1 r) by omega, hi, hi] at h5
          have := (he2 r).1 _ _ (by omega) (by omega) h5
          omega
    · by_cases c : C γ
      · obtain ⟨i, i1, i2⟩ := ((he1 r).2 γ).mp ⟨h, c⟩
        exact ⟨i, by omega, by rw [lo r i i1, i2]⟩
      · obtain ⟨i, i1, i2⟩ := ((he2 r).2 γ).mp ⟨h, c⟩
        exact ⟨N1 r + i, by omega, by rw [hi, i2]⟩
    · rcases Nat.lt_or_ge i (N1 r) with ci | ci
      · rw [lo r i ci] at h4
        rw [h4]
        exact (en_at (he1 r) ci).1
      · rw [show i = N1 r + (i - N1 r) by omega, hi] at h4
        rw [h4]
        exact (en_at (he2 r) (i := i - N1 r) (by omega)).1
  refine ⟨cat9 E1 N1 E2, fun r => N1 r + N2 r, en, ?_⟩
  have rk : ∀ r, rn9 p (cat9 E1 N1 E2) (fun r => N1 r + N2 r) D r = rn9 p E1 N1 D r + rn9 p E2 N2 D r := fun r => by
    unfold rn9
    refine blk_rk ⟨fun i hi9 => ⟨fun j hj => ?_, fun j hj => ?_⟩, fun i hi9 => ⟨fun j hj => ?_, fun j hj => ?_⟩⟩
    · show cf9 (D (cat9 E1 N1 E2 r i)) (cat9 E1 N1 E2 (r + 1) j) = _
      rw [lo r i hi9, lo (r + 1) j hj]
      rfl
    · show cf9 (D (cat9 E1 N1 E2 r i)) (cat9 E1 N1 E2 (r + 1) (N1 (r + 1) + j)) = _
      rw [lo r i hi9, hi (r + 1) j]
      by_cases c : cf9 (D (E1 r i)) (E2 (r + 1) j) = 0
      · exact c
      · obtain ⟨q1, q2⟩ := en_at (he1 r) hi9
        exact absurd (k1 r _ q1 q2 _ c) (en_at (he2 (r + 1)) hj).2
    · show cf9 (D (cat9 E1 N1 E2 r (N1 r + i))) (cat9 E1 N1 E2 (r + 1) j) = _
      rw [hi r i, lo (r + 1) j hj]
      by_cases c : cf9 (D (E2 r i)) (E1 (r + 1) j) = 0
      · exact c
      · obtain ⟨q1, q2⟩ := en_at (he2 r) hi9
        exact absurd (en_at (he1 (r + 1)) hj).2 (k2 r _ q1 q2 _ c)
    · show cf9 (D (cat9 E1 N1 E2 r (N1 r + i))) (cat9 E1 N1 E2 (r + 1) (N1 (r + 1) + j)) = _
      rw [hi r i, hi (r + 1) j]
      rfl
  rw [rk, rk]
  show ((N1 (r + 1) + N2 (r + 1) : Nat) : Int) = _
  omega
end XCHQ
section XCHR
variable {n o V k r : Nat} {G : Nat → Prop} {P1 P2 P3 : Nat → Nat} {rel : (Nat → Bool) → Nat → Nat → Prop} {d p b1 b2 : Int}
theorem D9_o {γ : gn9} (hal : ∀ s, (∀ y, n ≤ y → s y = false) → ∀ g, rel s o g → g = o) (hP : ∀ x, x < n → P1 x ≠ o ∧ P2 x ≠ o ∧ P3 x ≠ o) (z1 : ∀ y, n ≤ y → γ.1 y = false) {q : Int × gn9} (h : q ∈ D9 P1 P2 P3 rel n γ) : q.2.2 o = γ.2 o := by
  obtain ⟨y, y1, y2, y3, c, y4⟩ := D_st h
  obtain ⟨p1, p2, p3⟩ := hP y y1
  have no : ∀ a, a ≠ o → dcb (rel (on9 γ.1 y) o a) = false := fun a ha => dcb_f.mpr (fun h9 => ha (hal _ (on_z y1 z1) a h9))
  generalize e : (c, q.2) = t at y4
  have e2 : q.2.2 o = t.2.2 o := by rw [← e]
  rw [e2]
  unfold Dx9 at y4
  split at y4
  · split at y4
    · rw [List.mem_singleton.mp y4]
    · rcases List.mem_cons.mp y4 with e | e
      · rw [e]
        show (γ.2 o || dcb (rel (on9 γ.1 y) o (P1 y))) = γ.2 o
        rw [no _ p1, Bool.or_false]
      · rw [List.mem_singleton.mp e]
        show (γ.2 o || dcb (rel (on9 γ.1 y) o (P2 y))) = γ.2 o
        rw [no _ p2, Bool.or_false]
  · split at y4
    · exact absurd y4 List.not_mem_nil
    · rw [List.mem_singleton.mp y4]
      show (γ.2 o || ((γ.2 (P1 y) || γ.2 (P3 y)) && dcb (rel (on9 γ.1 y) o (P1 y)))) = γ.2 o
      rw [no _ p1, Bool.and_false, Bool.or_false]
/-- a circle more -/
theorem be_cir (hp : pr9 p) (hi : iv9 p) (hC : cu9 n V G P1 P2 P3 rel) (ho : G o) (hal : ∀ s, (∀ y, n ≤ y → s y = false) → ∀ g, rel s o g → g = o) (hP : ∀ x, x < n → P1 x ≠ o ∧ P2 x ≠ o ∧ P3 x ≠ o) (h1 : be9 p (Sg9 n V (fun g => G g ∧ g ≠ o) rel k (d - 1)) (D9 P1 P2 P3 rel n) r b1) (h2 : be9 p (Sg9 n V (fun g => G g ∧ g ≠ o) rel k (d + 1)) (D9 P1 P2 P3 rel n) r b2) : cu9 n V (fun g => G g ∧ g ≠ o) P1 P2 P3 rel ∧ be9 p (Sg9 n V G rel k d) (D9 P1 P2 P3 rel n) r (b1 + b2) := by
  have hC' : cu9 n V (fun g => G g ∧ g ≠ o) P1 P2 P3 rel := by
    refine ⟨hC.1, fun s hz g h h1 hne => ?_, fun g hg => hC.2.2.1 g hg.1, fun x hx => ?_⟩
    · obtain ⟨q1, q2⟩ := hC.2.1 s hz g h h1 hne
      refine ⟨⟨q1, fun h9 => ?_⟩, q2, fun h9 => ?_⟩
      · rw [h9] at h1 hne
        exact hne (hal s hz h h1).symm
      · rw [h9] at h1 hne
        exact hne (hal s hz g ((hC.1.1 s).2.1 _ _ h1))
    · obtain ⟨a1, a2, a3⟩ := hC.2.2.2 x hx
      obtain ⟨b1, b2, b3⟩ := hP x hx
      exact ⟨⟨a1, b1⟩, ⟨a2, b2⟩, a3, b3⟩
  refine ⟨hC', ?_⟩
  have deg : ∀ γ : gn9, (∀ y, n ≤ y → γ.1 y = false) → (γ.2 o = false → dg9 rel G V n γ = dg9 rel (fun g => G g ∧ g ≠ o) V n γ + 1) ∧ (γ.2 o = true → dg9 rel G V n γ = dg9 rel (fun g => G g ∧ g ≠ o) V n (γ.1, clr9 γ.2 o) - 1) := fun γ z1 => by
    have al := hal γ.1 z1
    have L := (cls_o (Q := fun _ => True) hC.2.2.1 ho (hC.1.1 γ.1) al).1 trivial
    have M := cls_o (Q := fun g => γ.2 g = true) hC.2.2.1 ho (hC.1.1 γ.1) al
    constructor
    · intro h
      have M2 := M.2 (by rw [h]; decide)
      unfold dg9
      rw [L, M2]
      omega
    · intro h
      have M2 := M.1 h
      have M3 : cls9 (rel γ.1) (fun g => G g ∧ g ≠ o) V (fun g => clr9 γ.2 o g = true) = cls9 (rel γ.1) (fun g => G g ∧ g ≠ o) V (fun g => γ.2 g = true) := cl_cg (fun g hg => by rw [clr_n hg.2])
      unfold dg9
      show _ = (cls9 (rel γ.1) (fun g => G g ∧ g ≠ o) V (fun _ => True) : Int) - 2 * cls9 (rel γ.1) (fun g => G g ∧ g ≠ o) V (fun g => clr9 γ.2 o g = true) + ons9 γ.1 n - 1
      rw [L, M2, M3]
      omega
  have bdd : ∀ {γ : gn9} {r : Nat}, Sg9 n V G rel k d r γ → (∀ y, n ≤ y → γ.1 y = false) ∧ ∀ g, V ≤ g → γ.2 g = false := fun hγ => ⟨hγ.1, fun g hg => hγ.2.1 g (fun h9 => by
    have := hC.2.2.1 g h9
    omega)⟩
  have hD := cu_cg (k := k) (d := d) hC
  have k1 : ∀ r γ, Sg9 n V G rel k d r γ → γ.2 o = false → su9 (D9 P1 P2 P3 rel n γ) (fun δ => δ.2 o = false) := fun r γ hγ hc δ hδ => by
    obtain ⟨q, q1, q2⟩ := cf_mem hδ
    rw [← q2]
    exact (D9_o hal hP hγ.1 q1).trans hc
  have k2 : ∀ r γ, Sg9 n V G rel k d r γ → ¬ γ.2 o = false → su9 (D9 P1 P2 P3 rel n γ) (fun δ => ¬ δ.2 o = false) := fun r γ hγ hc δ hδ => by
    obtain ⟨q, q1, q2⟩ := cf_mem hδ
    rw [← q2]
    show ¬ q.2.2 o = false
    rw [D9_o hal hP hγ.1 q1]
    exact hc
  refine dirT (C := fun γ => γ.2 o = false) k1 k2 ?_ ?_
  · -- plus
    obtain ⟨E', N', he'⟩ := fi_en (S := fun r γ => Sg9 n V G rel k d r γ ∧ γ.2 o = false) (fun r => en_ex (n := n) (V := V) (fun γ hγ => bdd hγ.1))
    refine ⟨E', N', he', ?_⟩
    refine isoT hp hi (cu_cg hC') ⟨fun r γ hγ δ hδ => ⟨hD.1 r γ hγ.1 δ hδ, k1 r γ hγ.1 hγ.2 δ hδ⟩, fun r γ hγ => hD.2 r γ hγ.1⟩ (fun γ => γ) (fun γ => γ) (fun _ => 1) (fun _ => rfl) (fun r γ hγ => ⟨?_, rfl⟩) (fun r γ hγ => ⟨?_, rfl⟩) (fun r γ _ δ => by rw [bd_id, cf_sc, Int.one_mul]) r h1 he'
    · obtain ⟨z1, z2, z3, z4, z5⟩ := hγ
      have f := z2 o (fun h9 => h9.2 rfl)
      have := (deg γ z1).1 f
      exact ⟨⟨z1, fun g hg => z2 g (fun h9 => hg h9.1), z3, z4, by omega⟩, f⟩
    · obtain ⟨⟨z1, z2, z3, z4, z5⟩, f⟩ := hγ
      have := (deg γ z1).1 f
      refine ⟨z1, fun g hg => ?_, z3, z4, by omega⟩
      by_cases e : g = o
      · rw [e]
        exact f
      · exact z2 g (fun h9 => hg ⟨h9, e⟩)
  · -- minus
    obtain ⟨E', N', he'⟩ := fi_en (S := fun r γ => Sg9 n V G rel k d r γ ∧ ¬ γ.2 o = false) (fun r => en_ex (n := n) (V := V) (fun γ hγ => bdd hγ.1))
    refine ⟨E', N', he', ?_⟩
    have tt_of : ∀ {c : Bool}, ¬ c = false → c = true := fun {c} h => by cases c <;> simp_all
    -- with minus at o
    have hph : ∀ (γ : gn9), (∀ y, n ≤ y → γ.1 y = false) → ∀ {k : Nat}, k ≤ n → D9 P1 P2 P3 rel k (γ.1, stt9 γ.2 o true) = (D9 P1 P2 P3 rel k γ).map (fun q => (q.1, (q.2.1, stt9 q.2.2 o true))) := fun γ z1 k => by
      induction k with
      | zero => intro _; rfl
      | succ k ih =>
        intro hk
        show D9 P1 P2 P3 rel k (γ.1, stt9 γ.2 o true) ++ (if γ.1 k = true then [] else scf9 (par9 γ.1 k) (Dx9 P1 P2 P3 rel k (γ.1, stt9 γ.2 o true))) = (D9 P1 P2 P3 rel k γ ++ (if γ.1 k = true then [] else scf9 (par9 γ.1 k) (Dx9 P1 P2 P3 rel k γ))).map _
        rw [List.map_append, ih (by omega)]
        refine congrArg _ ?_
        obtain ⟨p1, p2, p3⟩ := hP k (by omega)
        have zt := on_z (n := n) (x := k) (by omega) z1
        have bt : ∀ (b : Bool) (a : Nat), a ≠ o → (fun g => stt9 γ.2 o true g || (b && dcb (rel (on9 γ.1 k) g a))) = stt9 (fun g => γ.2 g || (b && dcb (rel (on9 γ.1 k) g a))) o true := fun b a ha => funext (fun g => by
          by_cases e : g = o
          · rw [e, st_o, st_o]
            rfl
          · rw [st_n e, st_n e])
        have bt1 : ∀ a : Nat, a ≠ o → (fun g => stt9 γ.2 o true g || dcb (rel (on9 γ.1 k) g a)) = stt9 (fun g => γ.2 g || dcb (rel (on9 γ.1 k) g a)) o true := fun a ha => by
          have := bt true a ha
          simp only [Bool.true_and] at this
          exact this
        have e : Dx9 P1 P2 P3 rel k (γ.1, stt9 γ.2 o true) = (Dx9 P1 P2 P3 rel k γ).map (fun q => (q.1, (q.2.1, stt9 q.2.2 o true))) := by
          show dxv9 (rel γ.1) (rel (on9 γ.1 k)) (P1 k) (P2 k) (P3 k) (on9 γ.1 k) (stt9 γ.2 o true) = (dxv9 (rel γ.1) (rel (on9 γ.1 k)) (P1 k) (P2 k) (P3 k) (on9 γ.1 k) γ.2).map _
          unfold dxv9
          rw [st_n p1, st_n p3, bt1 _ p1, bt1 _ p2, bt _ _ p1]
          split
          · split <;> rfl
          · split <;> rfl
        split
        · rfl
        · rw [e]
          unfold scf9
          rw [List.map_map, List.map_map]
          rfl
    refine isoT hp hi (cu_cg hC') ⟨fun r γ hγ δ hδ => ⟨hD.1 r γ hγ.1 δ hδ, k2 r γ hγ.1 hγ.2 δ hδ⟩, fun r γ hγ => hD.2 r γ hγ.1⟩ (fun γ => (γ.1, stt9 γ.2 o true)) (fun γ => (γ.1, clr9 γ.2 o)) (fun _ => 1) (fun _ => rfl) (fun r γ hγ => ?_) (fun r γ hγ => ?_) (fun r γ hγ => ?_) r h2 he'
    · obtain ⟨z1, z2, z3, z4, z5⟩ := hγ
      have f := z2 o (fun h9 => h9.2 rfl)
      have al := hal γ.1 z1
      have inv : ((γ.1, clr9 (stt9 γ.2 o true) o) : gn9) = γ := Prod.ext rfl (funext (fun g => by
        show clr9 (stt9 γ.2 o true) o g = γ.2 g
        by_cases e : g = o
        · rw [e, clr_o, f]
        · rw [clr_n e, st_n e]))
      refine ⟨⟨⟨z1, fun g hg => ?_, fun g h h1 => ?_, z4, ?_⟩, ?_⟩, inv⟩
      · show stt9 γ.2 o true g = false
        rw [st_n (show g ≠ o from fun h9 => hg (h9 ▸ ho))]
        exact z2 g (fun h9 => hg h9.1)
      · show stt9 γ.2 o true g = stt9 γ.2 o true h
        have h1 : rel γ.1 g h := h1
        by_cases e : g = o
        · rw [e] at h1 ⊢
          rw [al h h1]
        · by_cases e2 : h = o
          · rw [e2] at h1
            exact absurd (al g ((hC.1.1 _).2.1 _ _ h1)) e
          · rw [st_n e, st_n e2]
            exact z3 g h h1
      · have := (deg (γ.1, stt9 γ.2 o true) z1).2 (st_o _ _ _)
        rw [show (((γ.1, stt9 γ.2 o true) : gn9).1, clr9 ((γ.1, stt9 γ.2 o true) : gn9).2 o) = γ from inv] at this
        omega
      · show ¬ stt9 γ.2 o true o = false
        rw [st_o]
        decide
    · obtain ⟨⟨z1, z2, z3, z4, z5⟩, f⟩ := hγ
      have f := tt_of f
      have al := hal γ.1 z1
      have inv : ((γ.1, stt9 (clr9 γ.2 o) o true) : gn9) = γ := Prod.ext rfl (funext (fun g => by
        show stt9 (clr9 γ.2 o) o true g = γ.2 g
        by_cases e : g = o
        · rw [e, st_o, f]
        · rw [st_n e, clr_n e]))
      refine ⟨⟨z1, fun g hg => ?_, fun g h h1 => ?_, z4, ?_⟩, inv⟩
      · show clr9 γ.2 o g = false
        by_cases e : g = o
        · rw [e, clr_o]
        · rw [clr_n e]
          exact z2 g (fun h9 => hg ⟨h9, e⟩)
      · show clr9 γ.2 o g = clr9 γ.2 o h
        have h1 : rel γ.1 g h := h1
        by_cases e : g = o
        · rw [e] at h1 ⊢
          rw [al h h1]
        · by_cases e2 : h = o
          · rw [e2] at h1
            exact absurd (al g ((hC.1.1 _).2.1 _ _ h1)) e
          · rw [clr_n e, clr_n e2]
            exact z3 g h h1
      · have := (deg γ z1).2 f
        omega
    · show eq9 (bd9 (fun δ => [(1, (δ.1, stt9 δ.2 o true))]) (D9 P1 P2 P3 rel n γ)) (scf9 1 (D9 P1 P2 P3 rel n (γ.1, stt9 γ.2 o true)))
      rw [hph γ hγ.1 (Nat.le_refl n)]
      exact bd_map (c := 1) (κ := fun δ => (δ.1, stt9 δ.2 o true)) (fun q hq => rfl)
end XCHR
end
section
/-! 99zzzzzzzzzzzzzzzzyu.xchj -/
-- CHAIN: the cube of a list of components
def gV9 (p : vT) : Nat := 2 * p.1 + p.2
noncomputable def prA9 (A : rn_L) (p : vT) : vT := @dite _ (∃ q, ∃ L, L ∈ A ∧ q ∈ L ∧ sc L q = p) (Classical.propDecidable _) (fun h => h.choose) (fun _ => p)
/-- the least likeness with these pairs -/
def lst9 (Pr : Nat → Nat → Prop) (g h : Nat) : Prop := ∀ E : Nat → Nat → Prop, eqv9 E → (∀ a b, Pr a b → E a b) → E g h
section XCHS
variable {A : rn_L} {L : List vT} {p q : vT} {Pr Pr' : Nat → Nat → Prop}
theorem gA_inj (hp : p.2 < 2) (hq : q.2 < 2) (e : gV9 p = gV9 q) : p = q := by
  unfold gV9 at e
  exact Prod.ext (by omega) (by omega)
theorem prA_of (hn : A.flatten.Nodup) (hL : L ∈ A) (hp : p ∈ L) : prA9 A p ∈ L ∧ sc L (prA9 A p) = p := by
  obtain ⟨q, q1, q2⟩ := sc_pre (L_nd hn hL) hp
  have ex : ∃ q, ∃ L, L ∈ A ∧ q ∈ L ∧ sc L q = p := ⟨q, L, hL, q1, q2⟩
  have e : prA9 A p = ex.choose := dif_pos ex
  obtain ⟨L', a1, a2, a3⟩ := ex.choose_spec
  have e2 : L' = L := same_L hn hL a1 hp (by rw [← a3]; exact sc_in a2 (L_nd hn a1))
  rw [e2] at a2 a3
  rw [e]
  exact ⟨a2, a3⟩
theorem prA_in (hn : A.flatten.Nodup) (hp : p ∈ A.flatten) : prA9 A p ∈ A.flatten := by
  obtain ⟨L, hL, h1⟩ := List.mem_flatten.mp hp
  exact List.mem_flatten.mpr ⟨L, hL, (prA_of hn hL h1).1⟩
theorem prA_eq (hn : A.flatten.Nodup) (hL : L ∈ A) (hq : q ∈ L) (e : sc L q = p) : prA9 A p = q := by
  have hp : p ∈ L := by rw [← e]; exact sc_in hq (L_nd hn hL)
  obtain ⟨a1, a2⟩ := prA_of hn hL hp
  exact sc_inj (L_nd hn hL) a1 hq (a2.trans e.symm)
theorem lst_e (Pr : Nat → Nat → Prop) : eqv9 (lst9 Pr) := ⟨fun g E hE _ => hE.1 g, fun g h h1 E hE hP => hE.2.1 _ _ (h1 E hE hP), fun g h k h1 h2 E hE hP => hE.2.2 _ _ _ (h1 E hE hP) (h2 E hE hP)⟩
theorem lst_i {a b : Nat} (h : Pr a b) : lst9 Pr a b := fun _ _ hP => hP a b h
theorem lst_m {g h : Nat} (h1 : ∀ a b, Pr a b → lst9 Pr' a b) (h2 : lst9 Pr g h) : lst9 Pr' g h := h2 _ (lst_e Pr') h1
theorem lst_iff (h1 : ∀ a b, Pr a b → lst9 Pr' a b) (h2 : ∀ a b, Pr' a b → lst9 Pr a b) (g h : Nat) : lst9 Pr g h ↔ lst9 Pr' g h := ⟨lst_m h1, lst_m h2⟩
/-- pulled back along a map -/
theorem eqv_pb {E : Nat → Nat → Prop} (hE : eqv9 E) (ψ : Nat → Nat) : eqv9 (fun g h => E (ψ g) (ψ h)) := ⟨fun g => hE.1 _, fun g h => hE.2.1 _ _, fun g h k => hE.2.2 _ _ _⟩
end XCHS
/-- what crossing y joins in state s -/
def jc9 (A : rn_L) (sg : Nat → Bool) (x : Nat) (t : Bool) (a b : Nat) : Prop := (sg x = t ∧ ((a = gV9 (prA9 A (x, 0)) ∧ b = gV9 (x, 1)) ∨ (a = gV9 (x, 0) ∧ b = gV9 (prA9 A (x, 1))))) ∨ (sg x ≠ t ∧ ((a = gV9 (prA9 A (x, 0)) ∧ b = gV9 (prA9 A (x, 1))) ∨ (a = gV9 (x, 0) ∧ b = gV9 (x, 1))))
def jp9 (A : rn_L) (sg : Nat → Bool) (nm : Nat → Nat) (c : Nat) (s : Nat → Bool) (a b : Nat) : Prop := ∃ y, y < c ∧ jc9 A sg (nm y) (s y) a b
def relL9 (A : rn_L) (sg : Nat → Bool) (nm : Nat → Nat) (c : Nat) (s : Nat → Bool) : Nat → Nat → Prop := lst9 (jp9 A sg nm c s)
def gG9 (A : rn_L) (g : Nat) : Prop := (∃ p, p ∈ A.flatten ∧ g = gV9 p) ∨ ∃ i, i < A.length ∧ A[i]? = some [] ∧ g = 1000 + i
/-- the numbers of the crossings of A -/
def nmO (A : rn_L) (nm : Nat → Nat) (c : Nat) : Prop := (∀ y, y < c → (nm y, 0) ∈ A.flatten ∧ (nm y, 1) ∈ A.flatten) ∧ (∀ y y', y < c → y' < c → nm y = nm y' → y = y') ∧ ∀ p, p ∈ A.flatten → ∃ y, y < c ∧ nm y = p.1
section XCHT
variable {A : rn_L} {sg : Nat → Bool} {f nm : Nat → Nat} {T : ow_NT} {s : Nat → Bool} {p q : vT} {c : Nat}
theorem jc_in {x : Nat} {t : Bool} {a b : Nat} (hn : A.flatten.Nodup) (h0 : (x, 0) ∈ A.flatten) (h1 : (x, 1) ∈ A.flatten) (h : jc9 A sg x t a b) : (∃ p, p ∈ A.flatten ∧ a = gV9 p) ∧ ∃ p, p ∈ A.flatten ∧ b = gV9 p := by
  have q0 := prA_in hn h0
  have q1 := prA_in hn h1
  rcases h with ⟨-, ⟨e1, e2⟩ | ⟨e1, e2⟩⟩ | ⟨-, ⟨e1, e2⟩ | ⟨e1, e2⟩⟩
  · exact ⟨⟨_, q0, e1⟩, _, h1, e2⟩
  · exact ⟨⟨_, h0, e1⟩, _, q1, e2⟩
  · exact ⟨⟨_, q0, e1⟩, _, q1, e2⟩
  · exact ⟨⟨_, h0, e1⟩, _, h1, e2⟩
theorem relL_out {g h : Nat} (hn : A.flatten.Nodup) (hm : nmO A nm c) (h1 : relL9 A sg nm c s g h) : g = h ∨ ((∃ p, p ∈ A.flatten ∧ g = gV9 p) ∧ ∃ p, p ∈ A.flatten ∧ h = gV9 p) := by
  refine h1 (fun g h => g = h ∨ ((∃ p, p ∈ A.flatten ∧ g = gV9 p) ∧ ∃ p, p ∈ A.flatten ∧ h = gV9 p)) ⟨fun g => Or.inl rfl, fun g h h9 => ?_, fun g h k h9 h8 => ?_⟩ (fun a b ⟨y, y1, y2⟩ => ?_)
  · rcases h9 with h9 | h9
    · exact Or.inl h9.symm
    · exact Or.inr ⟨h9.2, h9.1⟩
  · rcases h9 with h9 | h9
    · rw [h9]
      exact h8
    · rcases h8 with h8 | h8
      · rw [← h8]
        exact Or.inr h9
      · exact Or.inr ⟨h9.1, h8.2⟩
  · exact Or.inr (jc_in hn (hm.1 y y1).1 (hm.1 y y1).2 y2)
/-- the numbers of a net that shows A -/
def nmT (A : rn_L) (f nm : Nat → Nat) (c : Nat) : Prop := ∀ y, y < c → f (nm y) = y ∧ (nm y, 0) ∈ A.flatten
theorem nm_f (h : isoV A sg f T) (hm : nmT A f nm T.1) (hp : p ∈ A.flatten) : nm (f p.1) = p.1 := by
  have h4 := h.1.2.2.2.1 p hp
  obtain ⟨a, b⟩ := hm _ h4
  exact h.1.2.2.2.2.1 _ p b hp a
theorem nm_O (h : isoV A sg f T) (hm : nmT A f nm T.1) : nmO A nm T.1 := by
  refine ⟨fun y hy => ⟨(hm y hy).2, (h.1.1.2 _ (hm y hy).2).2.2⟩, fun y y' hy hy' e => ?_, fun p hp => ⟨f p.1, h.1.2.2.2.1 p hp, nm_f h hm hp⟩⟩
  rw [← (hm y hy).1, e, (hm y' hy').1]
theorem pv_gl (h : isoV A sg f T) (hp : p ∈ A.flatten) : T.2.2.1.2 (gl f p) = gl f (prA9 A p) := by
  obtain ⟨L, hL, h1⟩ := List.mem_flatten.mp hp
  obtain ⟨a1, a2⟩ := prA_of h.1.1.1 hL h1
  have := (h.2 L hL _ a1).2
  rw [a2] at this
  exact this
theorem al_sg (h : isoV A sg f T) (hz : ∀ x, x < T.1 → T.2.2.2 x ≠ 0) (hm : nmT A f nm T.1) {y : Nat} (hy : y < T.1) : alB T.2.2.2 s y = decide (sg (nm y) = s y) := by
  obtain ⟨e, m⟩ := hm y hy
  have h7 := h.1.2.2.2.2.2.2.1 _ m
  have h7 : T.2.2.2 (f (nm y)) < 0 ↔ sg (nm y) = true := h7
  rw [e] at h7
  have z := hz y hy
  unfold alB sgP
  by_cases c : sg (nm y) = true
  · have := h7.mpr c
    have np : ¬ 0 < T.2.2.2 y := fun h9 => by
      rw [Int32.lt_iff_toInt_lt] at this h9
      simp at this h9
      omega
    rw [decide_eq_false np, c]
    cases s y <;> rfl
  · have np : 0 < T.2.2.2 y := by
      have n1 : ¬ T.2.2.2 y < 0 := fun h9 => c (h7.mp h9)
      rw [Int32.lt_iff_toInt_lt] at n1 ⊢
      have z2 : (T.2.2.2 y).toInt ≠ 0 := fun h9 => z (Int32.toInt_inj.mp (by rw [h9]; rfl))
      simp at n1 ⊢
      omega
    rw [decide_eq_true np, ff_of c]
    cases s y <;> rfl
theorem jn_T (h : isoV A sg f T) (hz : ∀ x, x < T.1 → T.2.2.2 x ≠ 0) (hm : nmT A f nm T.1) {y : Nat} (hy : y < T.1) : (sg (nm y) = s y → egp T.2.2.1 (toI T.2.2.2 s y) = gl f (nm y, 1) ∧ egp T.2.2.1 (toO T.2.2.2 s y) = gl f (prA9 A (nm y, 1))) ∧ (sg (nm y) ≠ s y → egp T.2.2.1 (toI T.2.2.2 s y) = gl f (prA9 A (nm y, 1)) ∧ egp T.2.2.1 (toO T.2.2.2 s y) = gl f (nm y, 1)) ∧ egp T.2.2.1 (4 * y + 1) = gl f (prA9 A (nm y, 0)) ∧ egp T.2.2.1 (4 * y) = gl f (nm y, 0) := by
  obtain ⟨e, m0⟩ := hm y hy
  have m1 : (nm y, 1) ∈ A.flatten := (h.1.1.2 _ m0).2.2
  have g0 : gl f (nm y, 0) = 2 * y := by
    show 2 * f (nm y) + 0 = _
    rw [e]
    rfl
  have g1 : gl f (nm y, 1) = 2 * y + 1 := by
    show 2 * f (nm y) + 1 = _
    rw [e]
  have v0 := pv_gl h m0
  have v1 := pv_gl h m1
  rw [g0] at v0
  rw [g1] at v1
  have e1 : egp T.2.2.1 (4 * y + 1) = T.2.2.1.2 (2 * y) := by
    unfold egp
    rw [if_neg (by omega), show (4 * y + 1) / 2 = 2 * y by omega]
  have e0 : egp T.2.2.1 (4 * y) = 2 * y := by
    unfold egp
    rw [if_pos (by omega), show 4 * y / 2 = 2 * y by omega]
  have e2 : egp T.2.2.1 (4 * y + 2) = 2 * y + 1 := by
    unfold egp
    rw [if_pos (by omega), show (4 * y + 2) / 2 = 2 * y + 1 by omega]
  have e3 : egp T.2.2.1 (4 * y + 3) = T.2.2.1.2 (2 * y + 1) := by
    unfold egp
    rw [if_neg (by omega), show (4 * y + 3) / 2 = 2 * y + 1 by omega]
  have al := al_sg (s := s) h hz hm hy
  refine ⟨fun c => ?_, fun c => ?_, by rw [e1, v0], by rw [e0, g0]⟩
  · unfold toI toO
    rw [al, decide_eq_true c, if_pos rfl, if_pos rfl, e2, e3, g1, v1]
    exact ⟨rfl, rfl⟩
  · unfold toI toO
    rw [al, decide_eq_false c, if_neg (by decide), if_neg (by decide), e2, e3, g1, v1]
    exact ⟨rfl, rfl⟩
theorem relL_T (h : isoV A sg f T) (hz : ∀ x, x < T.1 → T.2.2.2 x ≠ 0) (hm : nmT A f nm T.1) (hp : p ∈ A.flatten) (hq : q ∈ A.flatten) : relL9 A sg nm T.1 s (gV9 p) (gV9 q) ↔ rt (uPx T.2.2.1 T.2.2.2 s T.1) (gl f p) = rt (uPx T.2.2.1 T.2.2.2 s T.1) (gl f q) := by
  have u2 : ∀ p, p ∈ A.flatten → p.2 < 2 := fun p hp => (h.1.1.2 p hp).2.1
  have hn := h.1.1.1
  constructor
  · intro h1
    have key := h1 (fun g h => g = h ∨ ∃ p q, p ∈ A.flatten ∧ q ∈ A.flatten ∧ g = gV9 p ∧ h = gV9 q ∧ rt (uPx T.2.2.1 T.2.2.2 s T.1) (gl f p) = rt (uPx T.2.2.1 T.2.2.2 s T.1) (gl f q)) ⟨fun g => Or.inl rfl, fun g k h9 => ?_, fun g k l h9 h8 => ?_⟩ (fun a b ⟨y, y1, y2⟩ => ?_)
    · rcases key with e | ⟨p', q', a1, a2, a3, a4, a5⟩
      · rw [gA_inj (u2 p hp) (u2 q hq) e]
      · rw [gA_inj (u2 p hp) (u2 p' a1) a3, gA_inj (u2 q hq) (u2 q' a2) a4]
        exact a5
    · rcases h9 with e | ⟨p', q', a1, a2, a3, a4, a5⟩
      · exact Or.inl e.symm
      · exact Or.inr ⟨q', p', a2, a1, a4, a3, a5.symm⟩
    · rcases h9 with e | ⟨p', q', a1, a2, a3, a4, a5⟩
      · rw [e]
        exact h8
      · rcases h8 with e | ⟨p2, q2, b1, b2, b3, b4, b5⟩
        · rw [← e]
          exact Or.inr ⟨p', q', a1, a2, a3, a4, a5⟩
        · refine Or.inr ⟨p', q2, a1, b2, a3, b4, ?_⟩
          rw [a5, gA_inj (u2 q' a2) (u2 p2 b1) (a4.symm.trans b3)]
          exact b5
    · obtain ⟨j1, j2⟩ := uPx_j (S := T.2.2.1) (G := T.2.2.2) (b := s) T.1 y y1
      obtain ⟨t1, t2, t3, t4⟩ := jn_T (s := s) h hz hm y1
      have m0 := (hm y y1).2
      have m1 : (nm y, 1) ∈ A.flatten := (h.1.1.2 _ m0).2.2
      have q0 := prA_in hn m0
      have q1 := prA_in hn m1
      rw [t3] at j1
      rw [t4] at j2
      rcases y2 with ⟨c, y2⟩ | ⟨c, y2⟩
      · rw [(t1 c).1] at j1
        rw [(t1 c).2] at j2
        rcases y2 with ⟨e1, e2⟩ | ⟨e1, e2⟩
        · exact Or.inr ⟨_, _, q0, m1, e1, e2, j1⟩
        · exact Or.inr ⟨_, _, m0, q1, e1, e2, j2⟩
      · rw [(t2 c).1] at j1
        rw [(t2 c).2] at j2
        rcases y2 with ⟨e1, e2⟩ | ⟨e1, e2⟩
        · exact Or.inr ⟨_, _, q0, q1, e1, e2, j1⟩
        · exact Or.inr ⟨_, _, m0, m1, e1, e2, j2⟩
  · intro h1
    have hR := lst_e (jp9 A sg nm T.1 s)
    have ch : ∀ v : Nat, ∃ l, ld9 (relL9 A sg nm T.1 s) (fun _ => True) l ∧ relL9 A sg nm T.1 s l (gV9 (nm (v / 2), v % 2)) := fun v => by
      obtain ⟨l, l1, l2, -⟩ := ld_ex (G := fun _ => True) hR (gV9 (nm (v / 2), v % 2)) trivial
      exact ⟨l, l1, l2⟩
    have gf : ∀ p, p ∈ A.flatten → gV9 (nm (gl f p / 2), gl f p % 2) = gV9 p := fun p hp => by
      have := u2 p hp
      have e1 : gl f p / 2 = f p.1 := by
        unfold gl
        omega
      have e2 : gl f p % 2 = p.2 := by
        unfold gl
        omega
      rw [e1, e2, nm_f h hm hp]
    have me : ∀ p q, p ∈ A.flatten → q ∈ A.flatten → (relL9 A sg nm T.1 s (gV9 p) (gV9 q) ↔ (ch (gl f p)).choose = (ch (gl f q)).choose) := fun p q hp hq => by
      obtain ⟨a1, a2⟩ := (ch (gl f p)).choose_spec
      obtain ⟨b1, b2⟩ := (ch (gl f q)).choose_spec
      have t3 : ∀ r, r ∈ A.flatten → ∀ l, relL9 A sg nm T.1 s l (gV9 (nm (gl f r / 2), gl f r % 2)) → relL9 A sg nm T.1 s l (gV9 r) := fun r hr l h9 => by
        rw [gf r hr] at h9
        exact h9
      have a2 := t3 p hp _ a2
      have b2 := t3 q hq _ b2
      constructor
      · intro h9
        exact ld_un hR a1 b1 (hR.2.2 _ _ _ a2 (hR.2.2 _ _ _ h9 (hR.2.1 _ _ b2)))
      · intro h9
        rw [h9] at a2
        exact hR.2.2 _ _ _ (hR.2.1 _ _ a2) b2
    refine (me p q hp hq).mpr (uPx_min (M := fun v => (ch v).choose) (S := T.2.2.1) (G := T.2.2.2) (b := s) (isoV_vn h) (fun y y1 => ?_) T.1 (Nat.le_refl _) _ _ (gl_lt h hp) (gl_lt h hq) h1)
    obtain ⟨t1, t2, t3, t4⟩ := jn_T (s := s) h hz hm y1
    have m0 := (hm y y1).2
    have m1 : (nm y, 1) ∈ A.flatten := (h.1.1.2 _ m0).2.2
    have q0 := prA_in hn m0
    have q1 := prA_in hn m1
    rw [t3, t4]
    by_cases c : sg (nm y) = s y
    · rw [(t1 c).1, (t1 c).2]
      exact ⟨(me _ _ q0 m1).mp (lst_i ⟨y, y1, Or.inl ⟨c, Or.inl ⟨rfl, rfl⟩⟩⟩), (me _ _ m0 q1).mp (lst_i ⟨y, y1, Or.inl ⟨c, Or.inr ⟨rfl, rfl⟩⟩⟩)⟩
    · rw [(t2 c).1, (t2 c).2]
      exact ⟨(me _ _ q0 q1).mp (lst_i ⟨y, y1, Or.inr ⟨c, Or.inl ⟨rfl, rfl⟩⟩⟩), (me _ _ m0 m1).mp (lst_i ⟨y, y1, Or.inr ⟨c, Or.inr ⟨rfl, rfl⟩⟩⟩)⟩
/-- the cube of a list -/
theorem cuL {w : vT → Bool} (h : isoV A sg f T) (hz : ∀ x, x < T.1 → T.2.2.2 x ≠ 0) (hw : gaA A w) (hm : nmT A f nm T.1) (hl : A.length ≤ 900) : cu9 T.1 2000 (gG9 A) (fun y => gV9 (nm y, 0)) (fun y => gV9 (prA9 A (nm y, 0))) (fun y => gV9 (prA9 A (nm y, 0))) (relL9 A sg nm T.1) := by
  have hn := h.1.1.1
  have hO := nm_O h hm
  obtain ⟨w', hw'⟩ := gaT_of h hw
  have hv := isoV_vn h
  refine ⟨⟨fun s => lst_e _, fun s x hx hs => ?_⟩, fun s _ g k h1 hne => ?_, fun g hg => ?_, fun x hx => ?_⟩
  · have m0 := (hO.1 x hx).1
    have q0 := prA_in hn m0
    have e0 : gl f (nm x, 0) = 2 * x := by
      show 2 * f (nm x) + 0 = _
      rw [(hm x hx).1]
      rfl
    have e1 : gl f (prA9 A (nm x, 0)) = T.2.2.1.2 (2 * x) := by
      rw [← e0]
      exact (pv_gl h m0).symm
    have es : seB s x true = on9 s x := rfl
    -- one state's loops out of the other's
    have tr : ∀ s t : Nat → Bool, mgX T.2.2.1 T.1 x (uPx T.2.2.1 T.2.2.2 s T.1) (uPx T.2.2.1 T.2.2.2 t T.1) → ¬ relL9 A sg nm T.1 s (gV9 (nm x, 0)) (gV9 (prA9 A (nm x, 0))) ∧ ∀ g k, relL9 A sg nm T.1 t g k ↔ adr (relL9 A sg nm T.1 s) (gV9 (nm x, 0)) (gV9 (prA9 A (nm x, 0))) g k := fun s t hmg => by
      obtain ⟨k1, k2, -⟩ := hmg
      rw [← e1, ← e0] at k1
      refine ⟨fun h9 => k1 ((relL_T h hz hm m0 q0).mp h9), fun g k => ?_⟩
      have hs := lst_e (jp9 A sg nm T.1 s)
      constructor
      · intro h9
        rcases relL_out hn hO h9 with e | ⟨⟨p, p1, p2⟩, q, q1, q2⟩
        · rw [e]
          exact Or.inl (hs.1 k)
        · rw [p2, q2] at h9 ⊢
          have h9 := (relL_T h hz hm p1 q1).mp h9
          rw [k2 _ _ (gl_lt h p1) (gl_lt h q1), ← e1, ← e0] at h9
          rcases h9 with h9 | ⟨h9 | h9, h8 | h8⟩
          · exact Or.inl ((relL_T h hz hm p1 q1).mpr h9)
          · exact Or.inl ((relL_T h hz hm p1 q1).mpr (h9.trans h8.symm))
          · exact Or.inr (Or.inl ⟨(relL_T h hz hm p1 m0).mpr h9, (relL_T h hz hm q1 q0).mpr h8⟩)
          · exact Or.inr (Or.inr ⟨(relL_T h hz hm p1 q0).mpr h9, (relL_T h hz hm q1 m0).mpr h8⟩)
          · exact Or.inl ((relL_T h hz hm p1 q1).mpr (h9.trans h8.symm))
      · -- a gap joined with a visit's gap is a visit's gap
        have vis : ∀ g a, (∃ p, p ∈ A.flatten ∧ a = gV9 p) → relL9 A sg nm T.1 s g a → ∃ p, p ∈ A.flatten ∧ g = gV9 p := fun g a ha h9 => by
          rcases relL_out hn hO h9 with e | ⟨e, -⟩
          · rw [e]
            exact ha
          · exact e
        intro h9
        have lift : ∀ p q, p ∈ A.flatten → q ∈ A.flatten → (rt (uPx T.2.2.1 T.2.2.2 s T.1) (gl f p) = rt (uPx T.2.2.1 T.2.2.2 s T.1) (gl f q) ∨ ((rt (uPx T.2.2.1 T.2.2.2 s T.1) (gl f p) = rt (uPx T.2.2.1 T.2.2.2 s T.1) (2 * x) ∨ rt (uPx T.2.2.1 T.2.2.2 s T.1) (gl f p) = rt (uPx T.2.2.1 T.2.2.2 s T.1) (T.2.2.1.2 (2 * x))) ∧ (rt (uPx T.2.2.1 T.2.2.2 s T.1) (gl f q) = rt (uPx T.2.2.1 T.2.2.2 s T.1) (2 * x) ∨ rt (uPx T.2.2.1 T.2.2.2 s T.1) (gl f q) = rt (uPx T.2.2.1 T.2.2.2 s T.1) (T.2.2.1.2 (2 * x))))) → relL9 A sg nm T.1 t (gV9 p) (gV9 q) := fun p q p1 q1 h8 => (relL_T h hz hm p1 q1).mpr ((k2 _ _ (gl_lt h p1) (gl_lt h q1)).mpr h8)
        rcases h9 with h9 | ⟨h9, h8⟩ | ⟨h9, h8⟩
        · rcases relL_out hn hO h9 with e | ⟨⟨p, p1, p2⟩, q, q1, q2⟩
          · rw [e]
            exact (lst_e (jp9 A sg nm T.1 t)).1 k
          · rw [p2, q2] at h9 ⊢
            exact lift p q p1 q1 (Or.inl ((relL_T h hz hm p1 q1).mp h9))
        · obtain ⟨p, p1, p2⟩ := vis g _ ⟨_, m0, rfl⟩ h9
          obtain ⟨q, q1, q2⟩ := vis k _ ⟨_, q0, rfl⟩ h8
          rw [p2] at h9 ⊢
          rw [q2] at h8 ⊢
          have u1 := (relL_T h hz hm p1 m0).mp h9
          have u2 := (relL_T h hz hm q1 q0).mp h8
          rw [e0] at u1
          rw [e1] at u2
          exact lift p q p1 q1 (Or.inr ⟨Or.inl u1, Or.inr u2⟩)
        · obtain ⟨p, p1, p2⟩ := vis g _ ⟨_, q0, rfl⟩ h9
          obtain ⟨q, q1, q2⟩ := vis k _ ⟨_, m0, rfl⟩ h8
          rw [p2] at h9 ⊢
          rw [q2] at h8 ⊢
          have u1 := (relL_T h hz hm p1 q0).mp h9
          have u2 := (relL_T h hz hm q1 m0).mp h8
          rw [e1] at u1
          rw [e0] at u2
          exact lift p q p1 q1 (Or.inr ⟨Or.inr u1, Or.inl u2⟩)
    rcases st_kind (S := T.2.2.1) (G := T.2.2.2) hv hw' hx hs with k | k
    · rw [es] at k
      exact Or.inl (tr _ _ k)
    · rw [es] at k
      have k2 := tr _ _ k
      have hab : relL9 A sg nm T.1 s (gV9 (nm x, 0)) (gV9 (prA9 A (nm x, 0))) := (k2.2 _ _).mpr (adr_ab (lst_e _))
      exact Or.inr ⟨hab, k2.1, k2.2⟩
  · rcases relL_out hn hO h1 with e | ⟨e1, e2⟩
    · exact absurd e hne
    · exact ⟨Or.inl e1, Or.inl e2⟩
  · rcases hg with ⟨p, p1, p2⟩ | ⟨i, i1, -, i3⟩
    · have := h.1.1.2 p p1
      unfold gV9 at p2
      omega
    · omega
  · have m0 := (hO.1 x hx).1
    have q0 := prA_in hn m0
    exact ⟨Or.inl ⟨_, m0, rfl⟩, Or.inl ⟨_, q0, rfl⟩, Or.inl ⟨_, q0, rfl⟩⟩
end XCHT
end
section
/-! 99zzzzzzzzzzzzzzzzyv.xchk -/
-- CHAIN: two visits that follow each other taken out of a list
/-- as relL9, and for each pair the gap before it with the gap behind it -/
def relX9 (A : rn_L) (sg : Nat → Bool) (nm : Nat → Nat) (n : Nat) (ps : List (vT × vT)) (s : Nat → Bool) : Nat → Nat → Prop := lst9 (fun a b => jp9 A sg nm n s a b ∨ ∃ z, z ∈ ps ∧ a = gV9 (prA9 A z.1) ∧ b = gV9 z.2)
def gX9 (A : rn_L) (ps : List (vT × vT)) (g : Nat) : Prop := (∃ p, p ∈ A.flatten ∧ (∀ z, z ∈ ps → p ≠ z.1) ∧ g = gV9 p) ∨ ∃ i, i < A.length ∧ A[i]? = some [] ∧ g = 1000 + i
/-- pairs of visits that follow each other -/
def prO (A : rn_L) (ps : List (vT × vT)) : Prop := ∀ z, z ∈ ps → ∃ L, L ∈ A ∧ z.1 ∈ L ∧ sc L z.1 = z.2 ∧ z.1 ≠ z.2
def bdA (A : rn_L) : Prop := A.flatten.Nodup ∧ (∀ p, p ∈ A.flatten → p.1 < 400 ∧ p.2 < 2) ∧ A.length ≤ 900
noncomputable def fmv9 (A : rn_L) (r' : vT) (g : Nat) : Nat := if dcb (1000 ≤ g ∧ A[g - 1000]? ≠ some []) = true then gV9 r' else g
section XCHU
variable {A : rn_L} {sg : Nat → Bool} {nm : Nat → Nat} {n : Nat} {ps : List (vT × vT)} {s : Nat → Bool} {L : List vT} {r r' p q : vT}
theorem rm_bd (h : bdA A) : bdA (rmv (rmv A r) r') := ⟨rmv_nd (rmv_nd h.1), fun p hp => h.2.1 p (rmv_mem.mp (rmv_mem.mp hp).1).1, by
  unfold rmv
  rw [List.length_map, List.length_map]
  exact h.2.2⟩
theorem rm_in : p ∈ (rmv (rmv A r) r').flatten ↔ p ∈ A.flatten ∧ p ≠ r ∧ p ≠ r' := by
  rw [rmv_mem, rmv_mem]
  exact ⟨fun h => ⟨h.1.1, h.1.2, h.2⟩, fun h => ⟨⟨h.1, h.2.1⟩, h.2.2⟩⟩
/-- who comes before, when r and r' are out -/
theorem prA_rm (hn : A.flatten.Nodup) (hL : L ∈ A) (hr : r ∈ L) (e : sc L r = r') (hne : r ≠ r') (hp : p ∈ A.flatten) (h1 : p ≠ r) (h2 : p ≠ r') : prA9 A p ≠ r ∧ (prA9 A p = r' → prA9 A r ≠ r ∧ prA9 A r ≠ r') ∧ prA9 (rmv (rmv A r) r') p = if prA9 A p = r' then prA9 A r else prA9 A p := by
  obtain ⟨M, hM, p1⟩ := List.mem_flatten.mp hp
  obtain ⟨q1, q2⟩ := prA_of hn hM p1
  have nM := L_nd hn hM
  have hr' : r' ∈ L := by rw [← e]; exact sc_in hr (L_nd hn hL)
  have a1 : prA9 A p ≠ r := fun h9 => by
    rw [h9] at q1 q2
    have : M = L := same_L hn hL hM hr q1
    rw [this, e] at q2
    exact h2 q2.symm
  have a2 : prA9 A p = r' → prA9 A r ≠ r ∧ prA9 A r ≠ r' := fun h9 => by
    rw [h9] at q1 q2
    have eM : M = L := same_L hn hL hM hr' q1
    rw [eM] at q2
    obtain ⟨w1, w2⟩ := prA_of hn hL hr
    refine ⟨fun h8 => ?_, fun h8 => ?_⟩
    · rw [h8, e] at w2
      exact hne w2.symm
    · rw [h8] at w2
      exact h1 (q2.symm.trans w2)
  refine ⟨a1, a2, ?_⟩
  have nN : (rmv A r).flatten.Nodup := rmv_nd hn
  have nP : (rmv (rmv A r) r').flatten.Nodup := rmv_nd nN
  have hM2 : ((M.filter (fun q => decide (q ≠ r))).filter (fun q => decide (q ≠ r'))) ∈ rmv (rmv A r) r' := List.mem_map.mpr ⟨_, List.mem_map.mpr ⟨M, hM, rfl⟩, rfl⟩
  have n1 : (M.filter (fun q => decide (q ≠ r))).Nodup := List.Pairwise.filter _ nM
  have inF : ∀ t, t ∈ M → t ≠ r → t ∈ M.filter (fun q => decide (q ≠ r)) := fun t t1 t2 => List.mem_filter.mpr ⟨t1, decide_eq_true t2⟩
  have inF2 : ∀ t, t ∈ M → t ≠ r → t ≠ r' → t ∈ (M.filter (fun q => decide (q ≠ r))).filter (fun q => decide (q ≠ r')) := fun t t1 t2 t3 => List.mem_filter.mpr ⟨inF t t1 t2, decide_eq_true t3⟩
  -- a step in the list with both out
  have stp : ∀ t, t ∈ M → t ≠ r → t ≠ r' → sc ((M.filter (fun q => decide (q ≠ r))).filter (fun q => decide (q ≠ r'))) t = if (if sc M t = r then sc M r else sc M t) = r' then (if sc M r' = r then sc M r else sc M r') else (if sc M t = r then sc M r else sc M t) := fun t t1 t2 t3 => by
    rw [sc_fil n1 (inF t t1 t2) t3, sc_fil nM t1 t2]
    by_cases c : (if sc M t = r then sc M r else sc M t) = r'
    · rw [if_pos c, if_pos c]
      have r'M : r' ∈ M := by
        rw [← c]
        split
        · rename_i h9
          have : r ∈ M := by rw [← h9]; exact sc_in t1 nM
          exact sc_in this nM
        · exact sc_in t1 nM
      exact sc_fil nM r'M (fun h9 => hne h9.symm)
    · rw [if_neg c, if_neg c]
  by_cases c : prA9 A p = r'
  · rw [if_pos c]
    obtain ⟨b1, b2⟩ := a2 c
    rw [c] at q1 q2
    have eM : M = L := same_L hn hL hM hr' q1
    obtain ⟨w1, w2⟩ := prA_of hn hL hr
    rw [← eM] at w1 w2 e
    refine prA_eq nP hM2 (inF2 _ w1 b1 b2) ?_
    rw [stp _ w1 b1 b2, w2, if_pos rfl, e, if_pos rfl, q2, if_neg h1]
  · rw [if_neg c]
    refine prA_eq nP hM2 (inF2 _ q1 a1 c) ?_
    rw [stp _ q1 a1 c, q2, if_neg h1, if_neg h2]
theorem gV_lt (h : bdA A) (hp : p ∈ A.flatten) : gV9 p < 1000 := by
  have := h.2.1 p hp
  unfold gV9
  omega
theorem fm_v (h : bdA A) (hp : p ∈ A.flatten) : fmv9 A r' (gV9 p) = gV9 p := if_neg (fun h9 => by
  have := (dcb_t.mp h9).1
  have := gV_lt h hp
  omega)
theorem rmv_ix {i : Nat} : (rmv (rmv A r) r')[i]? = (A[i]?).map (fun M => (M.filter (fun q => decide (q ≠ r))).filter (fun q => decide (q ≠ r'))) := by
  unfold rmv
  rw [List.getElem?_map, List.getElem?_map, Option.map_map]
  rfl
theorem nd_ix {i j : Nat} (hn : A.flatten.Nodup) (h1 : A[i]? = some L) (h2 : A[j]? = some L) (hr : r ∈ L) : i = j := by
  have key : ∀ (A : rn_L) (i j : Nat), A.flatten.Nodup → A[i]? = some L → A[j]? = some L → i < j → False := fun A => by
    induction A with
    | nil =>
      intro i j _ h1
      cases h1
    | cons M A ih =>
      intro i j hn h1 h2 hl
      have hn2 : (M ++ A.flatten).Nodup := hn
      cases j with
      | zero => omega
      | succ j =>
        have h2 : A[j]? = some L := h2
        cases i with
        | zero =>
          have h1 : some M = some L := h1
          have e : M = L := Option.some.inj h1
          have d := (List.nodup_append.mp hn2).2.2
          exact d r (by rw [e]; exact hr) r (List.mem_flatten.mpr ⟨L, List.mem_of_getElem? h2, hr⟩) rfl
        | succ i => exact ih i j (List.nodup_append.mp hn2).2.1 h1 h2 (by omega)
  rcases Nat.lt_trichotomy i j with c | c | c
  · exact absurd (key A i j hn h1 h2 c) id
  · exact c
  · exact absurd (key A j i hn h2 h1 c) id
/-- one pair out -/
theorem rmP (hb : bdA A) (hL : L ∈ A) (hr : r ∈ L) (e : sc L r = r') (hne : r ≠ r') (hps : prO A ps) (hpd : ∀ z, z ∈ ps → (z.1 ≠ r ∧ z.1 ≠ r') ∧ z.2 ≠ r ∧ z.2 ≠ r') (hnm : ∀ y u, y < n → u < 2 → (nm y, u) ∈ A.flatten ∧ (nm y, u) ≠ r ∧ (nm y, u) ≠ r') : phi9 n (gX9 A ((r, r') :: ps)) (gX9 (rmv (rmv A r) r') ps) (fun y => gV9 (nm y, 0)) (fun y => gV9 (prA9 A (nm y, 0))) (fun y => gV9 (prA9 A (nm y, 0))) (fun y => gV9 (nm y, 0)) (fun y => gV9 (prA9 (rmv (rmv A r) r') (nm y, 0))) (fun y => gV9 (prA9 (rmv (rmv A r) r') (nm y, 0))) (relX9 A sg nm n ((r, r') :: ps)) (relX9 (rmv (rmv A r) r') sg nm n ps) (fmv9 A r') := by
  have hn := hb.1
  have u2 : ∀ p, p ∈ A.flatten → p.2 < 2 := fun p hp => (hb.2.1 p hp).2
  have hr' : r' ∈ L := by rw [← e]; exact sc_in hr (L_nd hn hL)
  have rA : r ∈ A.flatten := List.mem_flatten.mpr ⟨L, hL, hr⟩
  have rA' : r' ∈ A.flatten := List.mem_flatten.mpr ⟨L, hL, hr'⟩
  have qA := prA_in hn rA
  obtain ⟨w1, w2⟩ := prA_of hn hL hr
  have qr : prA9 A r ≠ r := fun h9 => by
    rw [h9, e] at w2
    exact hne w2.symm
  obtain ⟨i0, hi0, ei0⟩ := List.mem_iff_getElem.mp hL
  have ei : A[i0]? = some L := by rw [List.getElem?_eq_getElem hi0, ei0]
  have zA : ∀ z, z ∈ ps → z.1 ∈ A.flatten ∧ z.2 ∈ A.flatten := fun z hz => by
    obtain ⟨M, m1, m2, m3, -⟩ := hps z hz
    exact ⟨List.mem_flatten.mpr ⟨M, m1, m2⟩, List.mem_flatten.mpr ⟨M, m1, by rw [← m3]; exact sc_in m2 (L_nd hn m1)⟩⟩
  -- if r and r' are all
  have all : prA9 A r = r' → (L.filter (fun q => decide (q ≠ r))).filter (fun q => decide (q ≠ r')) = [] := fun h9 => by
    rw [h9] at w2
    have n1 : (L.filter (fun q => decide (q ≠ r))).Nodup := List.Pairwise.filter _ (L_nd hn hL)
    have m1 : r' ∈ L.filter (fun q => decide (q ≠ r)) := List.mem_filter.mpr ⟨hr', decide_eq_true (fun h8 => hne h8.symm)⟩
    have s1 : sc (L.filter (fun q => decide (q ≠ r))) r' = r' := by
      rw [sc_fil (L_nd hn hL) hr' (fun h8 => hne h8.symm), w2, if_pos rfl, e]
    rw [sc_self n1 m1 s1]
    exact List.filter_cons_of_neg (by rw [decide_eq_false (fun h8 => h8 rfl)]; decide)
  have cir : ∀ i, (rmv (rmv A r) r')[i]? = some [] → A[i]? ≠ some [] → i < A.length := fun i h1 h2 => by
    rw [rmv_ix] at h1
    cases h3 : A[i]? with
    | none =>
      rw [h3] at h1
      cases h1
    | some M => exact (List.getElem?_eq_some_iff.mp h3).1
  refine ⟨fun g hg => ?_, fun s _ => ?_⟩
  · rcases hg with ⟨p, p1, p2, p3⟩ | ⟨i, i1, i2, i3⟩
    · obtain ⟨a1, a2, a3⟩ := rm_in.mp p1
      rw [p3, fm_v hb a1]
      exact Or.inl ⟨p, a1, fun z hz => (List.mem_cons.mp hz).elim (fun h9 => by rw [h9]; exact a2) (p2 z), rfl⟩
    · by_cases c : A[i]? = some []
      · have q : fmv9 A r' g = g := if_neg (fun h9 => (dcb_t.mp h9).2 (by rw [i3, show 1000 + i - 1000 = i by omega]; exact c))
        rw [q]
        refine Or.inr ⟨i, (List.getElem?_eq_some_iff.mp c).1, c, i3⟩
      · have q : fmv9 A r' g = gV9 r' := if_pos (dcb_t.mpr ⟨by omega, by rw [i3, show 1000 + i - 1000 = i by omega]; exact c⟩)
        rw [q]
        exact Or.inl ⟨r', rA', fun z hz => (List.mem_cons.mp hz).elim (fun h9 => by rw [h9]; exact fun h8 => hne h8.symm) (fun h9 h8 => (hpd z h9).1.2 h8.symm), rfl⟩
  · have hX := lst_e (fun a b => jp9 A sg nm n s a b ∨ ∃ z, z ∈ (r, r') :: ps ∧ a = gV9 (prA9 A z.1) ∧ b = gV9 z.2)
    have hX1 := lst_e (fun a b => jp9 (rmv (rmv A r) r') sg nm n s a b ∨ ∃ z, z ∈ ps ∧ a = gV9 (prA9 (rmv (rmv A r) r') z.1) ∧ b = gV9 z.2)
    have par : relX9 A sg nm n ((r, r') :: ps) s (gV9 (prA9 A r)) (gV9 r') := lst_i (Or.inr ⟨(r, r'), List.mem_cons_self, rfl, rfl⟩)
    -- the gap before p, old and new
    have L1 : ∀ p, p ∈ A.flatten → p ≠ r → p ≠ r' → relX9 A sg nm n ((r, r') :: ps) s (gV9 (prA9 (rmv (rmv A r) r') p)) (gV9 (prA9 A p)) := fun p p1 p2 p3 => by
      obtain ⟨a1, a2, a3⟩ := prA_rm hn hL hr e hne p1 p2 p3
      rw [a3]
      by_cases c : prA9 A p = r'
      · rw [if_pos c, c]
        exact par
      · rw [if_neg c]
        exact hX.1 _
    have fp : ∀ p, p ∈ (rmv (rmv A r) r').flatten → fmv9 A r' (gV9 p) = gV9 p := fun p hp => fm_v hb (rm_in.mp hp).1
    have nm1 : ∀ y u, y < n → u < 2 → (nm y, u) ∈ (rmv (rmv A r) r').flatten := fun y u hy hu => rm_in.mpr (hnm y u hy hu)
    have n1 := (rm_bd (r := r) (r' := r') hb).1
    -- there and back
    have fwd : ∀ g h, relX9 (rmv (rmv A r) r') sg nm n ps s g h → relX9 A sg nm n ((r, r') :: ps) s (fmv9 A r' g) (fmv9 A r' h) := fun g h h1 => by
      refine h1 _ (eqv_pb hX (fmv9 A r')) (fun a b hab => ?_)
      show relX9 A sg nm n ((r, r') :: ps) s (fmv9 A r' a) (fmv9 A r' b)
      rcases hab with ⟨y, y1, y2⟩ | ⟨z, z1, z2, z3⟩
      · have m0 := nm1 y 0 y1 (by omega)
        have m1 := nm1 y 1 y1 (by omega)
        obtain ⟨o0, o1, o2⟩ := hnm y 0 y1 (by omega)
        obtain ⟨v0, v1, v2⟩ := hnm y 1 y1 (by omega)
        have l0 := L1 _ o0 o1 o2
        have l1 := L1 _ v0 v1 v2
        have jj : ∀ a b, jc9 A sg (nm y) (s y) a b → relX9 A sg nm n ((r, r') :: ps) s a b := fun a b h9 => lst_i (Or.inl ⟨y, y1, h9⟩)
        rcases y2 with ⟨c, ⟨e1, e2⟩ | ⟨e1, e2⟩⟩ | ⟨c, ⟨e1, e2⟩ | ⟨e1, e2⟩⟩
        · rw [e1, e2, fp _ (prA_in n1 m0), fp _ m1]
          exact hX.2.2 _ _ _ l0 (jj _ _ (Or.inl ⟨c, Or.inl ⟨rfl, rfl⟩⟩))
        · rw [e1, e2, fp _ (prA_in n1 m1), fp _ m0]
          exact hX.2.2 _ _ _ (jj _ _ (Or.inl ⟨c, Or.inr ⟨rfl, rfl⟩⟩)) (hX.2.1 _ _ l1)
        · rw [e1, e2, fp _ (prA_in n1 m0), fp _ (prA_in n1 m1)]
          exact hX.2.2 _ _ _ l0 (hX.2.2 _ _ _ (jj _ _ (Or.inr ⟨c, Or.inl ⟨rfl, rfl⟩⟩)) (hX.2.1 _ _ l1))
        · rw [e1, e2, fp _ m0, fp _ m1]
          exact jj _ _ (Or.inr ⟨c, Or.inr ⟨rfl, rfl⟩⟩)
      · obtain ⟨⟨d1, d2⟩, d3, d4⟩ := hpd z z1
        obtain ⟨t1, t2⟩ := zA z z1
        have m1 : z.1 ∈ (rmv (rmv A r) r').flatten := rm_in.mpr ⟨t1, d1, d2⟩
        have m2 : z.2 ∈ (rmv (rmv A r) r').flatten := rm_in.mpr ⟨t2, d3, d4⟩
        rw [z2, z3, fp _ (prA_in n1 m1), fp _ m2]
        exact hX.2.2 _ _ _ (L1 _ t1 d1 d2) (lst_i (Or.inr ⟨z, List.mem_cons_of_mem _ z1, rfl, rfl⟩))
    -- back
    have ex : ∃ ψ : Nat → Nat, (∀ p, p ∈ A.flatten → p ≠ r → p ≠ r' → ψ (gV9 p) = gV9 p) ∧ (ψ (gV9 r') = if prA9 A r = r' then 1000 + i0 else gV9 (prA9 A r)) ∧ ∀ g, 1000 ≤ g → ψ g = g := by
      refine ⟨fun g => if g = gV9 r' then (if prA9 A r = r' then 1000 + i0 else gV9 (prA9 A r)) else g, fun p p1 p2 p3 => if_neg (fun h9 => p3 (gA_inj (u2 p p1) (u2 r' rA') h9)), if_pos rfl, fun g hg => if_neg (fun h9 => ?_)⟩
      have := gV_lt hb rA'
      omega
    obtain ⟨ψ, ψ1, ψ2, ψ3⟩ := ex
    have ψp : ∀ p, p ∈ A.flatten → p ≠ r → p ≠ r' → ψ (gV9 (prA9 A p)) = gV9 (prA9 (rmv (rmv A r) r') p) := fun p p1 p2 p3 => by
      obtain ⟨a1, a2, a3⟩ := prA_rm hn hL hr e hne p1 p2 p3
      rw [a3]
      by_cases c : prA9 A p = r'
      · rw [if_pos c, c, ψ2, if_neg (a2 c).2]
      · rw [if_neg c]
        exact ψ1 _ (prA_in hn p1) a1 c
    have bwd : ∀ g h, relX9 A sg nm n ((r, r') :: ps) s g h → relX9 (rmv (rmv A r) r') sg nm n ps s (ψ g) (ψ h) := fun g h h1 => by
      refine h1 _ (eqv_pb hX1 ψ) (fun a b hab => ?_)
      show relX9 (rmv (rmv A r) r') sg nm n ps s (ψ a) (ψ b)
      rcases hab with ⟨y, y1, y2⟩ | ⟨z, z1, z2, z3⟩
      · obtain ⟨o0, o1, o2⟩ := hnm y 0 y1 (by omega)
        obtain ⟨v0, v1, v2⟩ := hnm y 1 y1 (by omega)
        have p0 := ψp _ o0 o1 o2
        have p1 := ψp _ v0 v1 v2
        have s0 := ψ1 _ o0 o1 o2
        have s1 := ψ1 _ v0 v1 v2
        rcases y2 with ⟨c, ⟨e1, e2⟩ | ⟨e1, e2⟩⟩ | ⟨c, ⟨e1, e2⟩ | ⟨e1, e2⟩⟩
        · rw [e1, e2, p0, s1]
          exact lst_i (Or.inl ⟨y, y1, Or.inl ⟨c, Or.inl ⟨rfl, rfl⟩⟩⟩)
        · rw [e1, e2, s0, p1]
          exact lst_i (Or.inl ⟨y, y1, Or.inl ⟨c, Or.inr ⟨rfl, rfl⟩⟩⟩)
        · rw [e1, e2, p0, p1]
          exact lst_i (Or.inl ⟨y, y1, Or.inr ⟨c, Or.inl ⟨rfl, rfl⟩⟩⟩)
        · rw [e1, e2, s0, s1]
          exact lst_i (Or.inl ⟨y, y1, Or.inr ⟨c, Or.inr ⟨rfl, rfl⟩⟩⟩)
      · rcases List.mem_cons.mp z1 with ez | ez
        · rw [z2, z3, ez]
          show relX9 (rmv (rmv A r) r') sg nm n ps s (ψ (gV9 (prA9 A r))) (ψ (gV9 r'))
          by_cases c : prA9 A r = r'
          · rw [c]
            exact hX1.1 _
          · rw [ψ2, if_neg c, ψ1 _ qA qr c]
            exact hX1.1 _
        · obtain ⟨⟨d1, d2⟩, d3, d4⟩ := hpd z ez
          obtain ⟨t1, t2⟩ := zA z ez
          rw [z2, z3, ψp _ t1 d1 d2, ψ1 _ t2 d3 d4]
          exact lst_i (Or.inr ⟨z, ez, rfl, rfl⟩)
    have inv : ∀ g, gX9 (rmv (rmv A r) r') ps g → ψ (fmv9 A r' g) = g := fun g hg => by
      rcases hg with ⟨p, p1, p2, p3⟩ | ⟨i, i1, i2, i3⟩
      · obtain ⟨a1, a2, a3⟩ := rm_in.mp p1
        rw [p3, fp p p1, ψ1 p a1 a2 a3]
      · by_cases c : A[i]? = some []
        · have q : fmv9 A r' g = g := if_neg (fun h9 => (dcb_t.mp h9).2 (by rw [i3, show 1000 + i - 1000 = i by omega]; exact c))
          rw [q, ψ3 g (by omega)]
        · have q : fmv9 A r' g = gV9 r' := if_pos (dcb_t.mpr ⟨by omega, by rw [i3, show 1000 + i - 1000 = i by omega]; exact c⟩)
          -- the component is L
          have i2' := i2
          rw [rmv_ix] at i2
          cases h3 : A[i]? with
          | none =>
            rw [h3] at i2
            cases i2
          | some M =>
            rw [h3] at i2 c
            have i4 : (M.filter (fun q => decide (q ≠ r))).filter (fun q => decide (q ≠ r')) = [] := Option.some.inj i2
            have hM : M ∈ A := List.mem_of_getElem? h3
            cases M with
            | nil => exact absurd rfl c
            | cons t M =>
              have ht : t = r ∨ t = r' := by
                by_cases c1 : t = r
                · exact Or.inl c1
                · by_cases c2 : t = r'
                  · exact Or.inr c2
                  · have : t ∈ ((t :: M).filter (fun q => decide (q ≠ r))).filter (fun q => decide (q ≠ r')) := List.mem_filter.mpr ⟨List.mem_filter.mpr ⟨List.mem_cons_self, decide_eq_true c1⟩, decide_eq_true c2⟩
                    rw [i4] at this
                    exact absurd this List.not_mem_nil
              have eM : t :: M = L := by
                rcases ht with h9 | h9
                · exact same_L hn hL hM hr (by rw [← h9]; exact List.mem_cons_self)
                · exact same_L hn hL hM hr' (by rw [← h9]; exact List.mem_cons_self)
              have ii : i = i0 := by
                rw [eM] at h3
                -- the component stands at one place
                refine nd_ix hn h3 ei hr
              have c9 : prA9 A r = r' := by
                rw [eM] at i4
                by_cases c1 : prA9 A r = r'
                · exact c1
                · have : prA9 A r ∈ (L.filter (fun q => decide (q ≠ r))).filter (fun q => decide (q ≠ r')) := List.mem_filter.mpr ⟨List.mem_filter.mpr ⟨w1, decide_eq_true qr⟩, decide_eq_true c1⟩
                  rw [i4] at this
                  exact absurd this List.not_mem_nil
              rw [q, ψ2, if_pos c9, i3, ii]
    refine ⟨fun g h hg hh => ⟨fwd g h, fun h9 => ?_⟩, fun g hg => ?_, fun x hx => ?_⟩
    · have := bwd _ _ h9
      rw [inv g hg, inv h hh] at this
      exact this
    · rcases hg with ⟨p, p1, p2, p3⟩ | ⟨i, i1, i2, i3⟩
      · have pr : p ≠ r := p2 (r, r') List.mem_cons_self
        by_cases c : p = r'
        · by_cases c2 : prA9 A r = r'
          · have i2 : (rmv (rmv A r) r')[i0]? = some [] := by
              rw [rmv_ix, ei]
              exact congrArg some (all c2)
            refine ⟨1000 + i0, Or.inr ⟨i0, (List.getElem?_eq_some_iff.mp i2).1, i2, rfl⟩, ?_⟩
            have q : fmv9 A r' (1000 + i0) = gV9 r' := if_pos (dcb_t.mpr ⟨by omega, by
              rw [show 1000 + i0 - 1000 = i0 by omega, ei]
              intro h9
              rw [Option.some.inj h9] at hr
              exact absurd hr List.not_mem_nil⟩)
            rw [q, p3, c]
            exact hX.1 _
          · have m : prA9 A r ∈ (rmv (rmv A r) r').flatten := rm_in.mpr ⟨qA, qr, c2⟩
            refine ⟨gV9 (prA9 A r), Or.inl ⟨_, m, fun z hz h9 => ?_, rfl⟩, ?_⟩
            · obtain ⟨M, m1, m2, m3, -⟩ := hps z hz
              rw [← h9] at m2 m3
              have : M = L := same_L hn hL m1 w1 m2
              rw [this, w2] at m3
              exact (hpd z hz).2.1 m3.symm
            · rw [fp _ m, p3, c]
              exact hX.2.1 _ _ par
        · have m : p ∈ (rmv (rmv A r) r').flatten := rm_in.mpr ⟨p1, pr, c⟩
          refine ⟨gV9 p, Or.inl ⟨p, m, fun z hz => p2 z (List.mem_cons_of_mem _ hz), rfl⟩, ?_⟩
          rw [fp p m, p3]
          exact hX.1 _
      · have i4 : (rmv (rmv A r) r')[i]? = some [] := by
          rw [rmv_ix, i2]
          rfl
        refine ⟨g, Or.inr ⟨i, (List.getElem?_eq_some_iff.mp i4).1, i4, i3⟩, ?_⟩
        have q : fmv9 A r' g = g := if_neg (fun h9 => (dcb_t.mp h9).2 (by rw [i3, show 1000 + i - 1000 = i by omega]; exact i2))
        rw [q]
        exact hX.1 _
    · obtain ⟨o0, o1, o2⟩ := hnm x 0 hx (by omega)
      have m0 := nm1 x 0 hx (by omega)
      have l0 := hX.2.1 _ _ (L1 _ o0 o1 o2)
      rw [fp _ m0, fp _ (prA_in n1 m0)]
      exact ⟨hX.1 _, l0, l0⟩
/-- maps of gaps one behind the other -/
theorem ph_cmp {n : Nat} {G G' G'' : Nat → Prop} {P1 P2 P3 P1' P2' P3' P1'' P2'' P3'' : Nat → Nat} {rel rel' rel'' : (Nat → Bool) → Nat → Nat → Prop} {φ φ' : Nat → Nat} (hE : ∀ s, eqv9 (rel s)) (h1 : phi9 n G G' P1 P2 P3 P1' P2' P3' rel rel' φ) (h2 : phi9 n G' G'' P1' P2' P3' P1'' P2'' P3'' rel' rel'' φ') (hP : ∀ x, x < n → G' (P1' x) ∧ G' (P2' x) ∧ G' (P3' x)) (hP' : ∀ x, x < n → G'' (P1'' x) ∧ G'' (P2'' x) ∧ G'' (P3'' x)) : phi9 n G G'' P1 P2 P3 P1'' P2'' P3'' rel rel'' (fun g => φ (φ' g)) := by
  refine ⟨fun g hg => h1.1 _ (h2.1 g hg), fun s hs => ?_⟩
  obtain ⟨a1, a2, a3⟩ := h1.2 s hs
  obtain ⟨b1, b2, b3⟩ := h2.2 s hs
  refine ⟨fun g h hg hh => (b1 g h hg hh).trans (a1 _ _ (h2.1 g hg) (h2.1 h hh)), fun g hg => ?_, fun x hx => ?_⟩
  · obtain ⟨g', g1, g2⟩ := a2 g hg
    obtain ⟨g'', k1, k2⟩ := b2 g' g1
    exact ⟨g'', k1, (hE s).2.2 _ _ _ g2 ((a1 _ _ g1 (h2.1 _ k1)).mp k2)⟩
  · obtain ⟨p1, p2, p3⟩ := a3 x hx
    obtain ⟨q1, q2, q3⟩ := b3 x hx
    obtain ⟨g1, g2, g3⟩ := hP x hx
    obtain ⟨k1, k2, k3⟩ := hP' x hx
    exact ⟨(hE s).2.2 _ _ _ p1 ((a1 _ _ g1 (h2.1 _ k1)).mp q1), (hE s).2.2 _ _ _ p2 ((a1 _ _ g2 (h2.1 _ k2)).mp q2), (hE s).2.2 _ _ _ p3 ((a1 _ _ g3 (h2.1 _ k3)).mp q3)⟩
end XCHU
end
section
/-! 99zzzzzzzzzzzzzzzzyw.xchl -/
-- CHAIN: a kink goes out of a list
def bL9 (p : Int) (A : rn_L) (sg : Nat → Bool) (nm : Nat → Nat) (c k : Nat) (d : Int) (r : Nat) (b : Int) : Prop := be9 p (Sg9 c 2000 (gG9 A) (relL9 A sg nm c) k d) (D9 (fun y => gV9 (nm y, 0)) (fun y => gV9 (prA9 A (nm y, 0))) (fun y => gV9 (prA9 A (nm y, 0))) (relL9 A sg nm c) c) r b
def cuL9 (A : rn_L) (sg : Nat → Bool) (nm : Nat → Nat) (c : Nat) : Prop := cu9 c 2000 (gG9 A) (fun y => gV9 (nm y, 0)) (fun y => gV9 (prA9 A (nm y, 0))) (fun y => gV9 (prA9 A (nm y, 0))) (relL9 A sg nm c)
section XCHV
variable {A : rn_L} {sg : Nat → Bool} {nm : Nat → Nat} {n k : Nat} {s : Nat → Bool} {L : List vT} {r r' : vT} {p d b : Int}
theorem ph_cg {G G' G1 G1' : Nat → Prop} {P1 P2 P3 P1' P2' P3' Q1 Q2 Q3 Q1' Q2' Q3' : Nat → Nat} {rel rel' rel1 rel1' : (Nat → Bool) → Nat → Nat → Prop} {φ : Nat → Nat} (hG : ∀ g, G1 g ↔ G g) (hG' : ∀ g, G1' g ↔ G' g) (hP : ∀ x, x < n → Q1 x = P1 x ∧ Q2 x = P2 x ∧ Q3 x = P3 x) (hP' : ∀ x, x < n → Q1' x = P1' x ∧ Q2' x = P2' x ∧ Q3' x = P3' x) (hr : ∀ s, (∀ y, n ≤ y → s y = false) → ∀ g h, rel1 s g h ↔ rel s g h) (hr' : ∀ s, (∀ y, n ≤ y → s y = false) → ∀ g h, rel1' s g h ↔ rel' s g h) (h : phi9 n G G' P1 P2 P3 P1' P2' P3' rel rel' φ) : phi9 n G1 G1' Q1 Q2 Q3 Q1' Q2' Q3' rel1 rel1' φ := by
  refine ⟨fun g hg => (hG _).mpr (h.1 g ((hG' g).mp hg)), fun s hs => ?_⟩
  obtain ⟨a1, a2, a3⟩ := h.2 s hs
  refine ⟨fun g k hg hk => ?_, fun g hg => ?_, fun x hx => ?_⟩
  · rw [hr s hs, hr' s hs]
    exact a1 g k ((hG' g).mp hg) ((hG' k).mp hk)
  · obtain ⟨g', g1, g2⟩ := a2 g ((hG g).mp hg)
    exact ⟨g', (hG' g').mpr g1, (hr s hs _ _).mpr g2⟩
  · obtain ⟨e1, e2, e3⟩ := hP x hx
    obtain ⟨f1, f2, f3⟩ := hP' x hx
    rw [e1, e2, e3, f1, f2, f3, hr s hs, hr s hs, hr s hs]
    exact a3 x hx
/-- the kink at the last crossing -/
def kkO (A : rn_L) (L : List vT) (x : Nat) (r r' : vT) : Prop := L ∈ A ∧ r ∈ L ∧ sc L r = r' ∧ ((r = (x, 0) ∧ r' = (x, 1)) ∨ (r = (x, 1) ∧ r' = (x, 0)))
theorem kk_ne {x : Nat} (h : kkO A L x r r') : r ≠ r' := by
  rcases h.2.2.2 with ⟨e1, e2⟩ | ⟨e1, e2⟩
  · rw [e1, e2]
    exact fun h9 => by cases h9
  · rw [e1, e2]
    exact fun h9 => by cases h9
theorem kk_nm (hO : nmO A nm (n + 1)) (h : kkO A L (nm n) r r') {y u : Nat} (hy : y < n) (hu : u < 2) : (nm y, u) ∈ A.flatten ∧ (nm y, u) ≠ r ∧ (nm y, u) ≠ r' := by
  have ne : nm y ≠ nm n := fun h9 => by
    have := hO.2.1 y n (by omega) (by omega) h9
    omega
  have m : (nm y, u) ∈ A.flatten := by
    obtain ⟨a, b⟩ := hO.1 y (by omega)
    rcases Nat.lt_or_ge u 1 with c | c
    · rw [show u = 0 by omega]
      exact a
    · rw [show u = 1 by omega]
      exact b
  refine ⟨m, ?_, ?_⟩
  · rcases h.2.2.2 with ⟨e1, e2⟩ | ⟨e1, e2⟩
    · rw [e1]
      exact fun h9 => ne (congrArg Prod.fst h9)
    · rw [e1]
      exact fun h9 => ne (congrArg Prod.fst h9)
  · rcases h.2.2.2 with ⟨e1, e2⟩ | ⟨e1, e2⟩
    · rw [e2]
      exact fun h9 => ne (congrArg Prod.fst h9)
    · rw [e2]
      exact fun h9 => ne (congrArg Prod.fst h9)
/-- what the kink joins where its gap is alone -/
theorem kk_jc (hb : bdA A) (h : kkO A L (nm n) r r') {t : Bool} (ht : sg (nm n) = t) {a c : Nat} (hj : jc9 A sg (nm n) t a c) : (a = gV9 r ∧ c = gV9 r) ∨ (a = gV9 (prA9 A r) ∧ c = gV9 r') ∨ (a = gV9 r' ∧ c = gV9 (prA9 A r)) := by
  obtain ⟨hL, hr, e, hc⟩ := h
  have pr' : prA9 A r' = r := prA_eq hb.1 hL hr e
  rcases hj with ⟨-, hj⟩ | ⟨c9, -⟩
  · rcases hc with ⟨e1, e2⟩ | ⟨e1, e2⟩
    · rw [← e1, ← e2, pr'] at hj
      rcases hj with h9 | h9
      · exact Or.inr (Or.inl h9)
      · exact Or.inl h9
    · rw [← e1, ← e2, pr'] at hj
      rcases hj with h9 | h9
      · exact Or.inl h9
      · exact Or.inr (Or.inr h9)
  · exact absurd ht c9
theorem kk_has (hb : bdA A) (h : kkO A L (nm n) r r') {t : Bool} (ht : sg (nm n) = t) : jc9 A sg (nm n) t (gV9 (prA9 A r)) (gV9 r') ∨ jc9 A sg (nm n) t (gV9 r') (gV9 (prA9 A r)) := by
  obtain ⟨hL, hr, e, hc⟩ := h
  rcases hc with ⟨e1, e2⟩ | ⟨e1, e2⟩
  · left
    rw [e1, e2]
    exact Or.inl ⟨ht, Or.inl ⟨rfl, rfl⟩⟩
  · right
    rw [e1, e2]
    exact Or.inl ⟨ht, Or.inr ⟨rfl, rfl⟩⟩
theorem kk_qr (hb : bdA A) {x : Nat} (h : kkO A L x r r') : prA9 A r ≠ r := fun h9 => by
  obtain ⟨-, w2⟩ := prA_of hb.1 h.1 h.2.1
  rw [h9, h.2.2.1] at w2
  exact kk_ne h w2.symm
theorem kk_in (hb : bdA A) {x : Nat} (h : kkO A L x r r') : r ∈ A.flatten ∧ r' ∈ A.flatten := ⟨List.mem_flatten.mpr ⟨L, h.1, h.2.1⟩, List.mem_flatten.mpr ⟨L, h.1, by rw [← h.2.2.1]; exact sc_in h.2.1 (L_nd hb.1 h.1)⟩⟩
/-- ends of the other crossings are other gaps -/
theorem kk_end (hb : bdA A) (hO : nmO A nm (n + 1)) (h : kkO A L (nm n) r r') {y u : Nat} (hy : y < n) (hu : u < 2) : gV9 (nm y, u) ≠ gV9 r ∧ gV9 (prA9 A (nm y, u)) ≠ gV9 r := by
  have u2 : ∀ p, p ∈ A.flatten → p.2 < 2 := fun p hp => (hb.2.1 p hp).2
  obtain ⟨m0, m1, m2⟩ := kk_nm hO h hy hu
  obtain ⟨rA, rA'⟩ := kk_in hb h
  obtain ⟨a1, -, -⟩ := prA_rm hb.1 h.1 h.2.1 h.2.2.1 (kk_ne h) m0 m1 m2
  exact ⟨fun h9 => m1 (gA_inj (u2 _ m0) (u2 _ rA) h9), fun h9 => a1 (gA_inj (u2 _ (prA_in hb.1 m0)) (u2 _ rA) h9)⟩
theorem jc_ends {x : Nat} {t : Bool} {a c o : Nat} (h : ∀ u, u < 2 → gV9 (x, u) ≠ o ∧ gV9 (prA9 A (x, u)) ≠ o) (hj : jc9 A sg x t a c) : a ≠ o ∧ c ≠ o := by
  obtain ⟨h1, h2⟩ := h 0 (by omega)
  obtain ⟨h3, h4⟩ := h 1 (by omega)
  rcases hj with ⟨-, ⟨e1, e2⟩ | ⟨e1, e2⟩⟩ | ⟨-, ⟨e1, e2⟩ | ⟨e1, e2⟩⟩ <;> rw [e1, e2]
  · exact ⟨h2, h3⟩
  · exact ⟨h1, h4⟩
  · exact ⟨h2, h4⟩
  · exact ⟨h1, h3⟩
theorem kk_al (hb : bdA A) (hO : nmO A nm (n + 1)) (h : kkO A L (nm n) r r') (hs : sg (nm n) = s n) : ∀ g, relL9 A sg nm (n + 1) s (gV9 r) g → g = gV9 r := fun g h1 => by
  have u2 : ∀ p, p ∈ A.flatten → p.2 < 2 := fun p hp => (hb.2.1 p hp).2
  obtain ⟨rA, rA'⟩ := kk_in hb h
  have ne1 : gV9 r' ≠ gV9 r := fun h9 => kk_ne h (gA_inj (u2 _ rA) (u2 _ rA') h9.symm)
  have ne2 : gV9 (prA9 A r) ≠ gV9 r := fun h9 => kk_qr hb h (gA_inj (u2 _ (prA_in hb.1 rA)) (u2 _ rA) h9)
  have key := h1 (fun g k => g = k ∨ (g ≠ gV9 r ∧ k ≠ gV9 r)) ⟨fun g => Or.inl rfl, fun g k h9 => h9.elim (fun e => Or.inl e.symm) (fun e => Or.inr e.symm), fun g k l h9 h8 => ?_⟩ (fun a c ⟨y, y1, y2⟩ => ?_)
  · rcases key with e | ⟨e, -⟩
    · exact e.symm
    · exact absurd rfl e
  · rcases h9 with e | ⟨e, e'⟩
    · rw [e]
      exact h8
    · rcases h8 with e2 | ⟨-, e2⟩
      · rw [← e2]
        exact Or.inr ⟨e, e'⟩
      · exact Or.inr ⟨e, e2⟩
  · by_cases c9 : y = n
    · rw [c9] at y2
      rcases kk_jc hb h hs y2 with ⟨e1, e2⟩ | ⟨e1, e2⟩ | ⟨e1, e2⟩
      · left
        rw [e1, e2]
      · right
        rw [e1, e2]
        exact ⟨ne2, ne1⟩
      · right
        rw [e1, e2]
        exact ⟨ne1, ne2⟩
    · exact Or.inr (jc_ends (fun u hu => kk_end hb hO h (by omega) hu) y2)
/-- the relation without the kink's crossing -/
theorem kk_rel (hb : bdA A) (h : kkO A L (nm n) r r') {t : Nat → Bool} (hs : sg (nm n) = s n) (ht : ∀ y, y < n → t y = s y) (g k : Nat) : relL9 A sg nm (n + 1) s g k ↔ relX9 A sg nm n [(r, r')] t g k := by
  constructor
  · refine lst_m (Pr := jp9 A sg nm (n + 1) s) (Pr' := fun a b => jp9 A sg nm n t a b ∨ ∃ z, z ∈ [(r, r')] ∧ a = gV9 (prA9 A z.1) ∧ b = gV9 z.2) ?_
    rintro a c ⟨y, y1, y2⟩
    have hX := lst_e (fun a b => jp9 A sg nm n t a b ∨ ∃ z, z ∈ [(r, r')] ∧ a = gV9 (prA9 A z.1) ∧ b = gV9 z.2)
    have par : relX9 A sg nm n [(r, r')] t (gV9 (prA9 A r)) (gV9 r') := lst_i (Or.inr ⟨(r, r'), List.mem_cons_self, rfl, rfl⟩)
    by_cases c9 : y = n
    · rw [c9] at y2
      rcases kk_jc hb h hs y2 with ⟨e1, e2⟩ | ⟨e1, e2⟩ | ⟨e1, e2⟩
      · rw [e1, e2]
        exact hX.1 _
      · rw [e1, e2]
        exact par
      · rw [e1, e2]
        exact hX.2.1 _ _ par
    · rw [← ht y (by omega)] at y2
      exact lst_i (Or.inl ⟨y, by omega, y2⟩)
  · refine lst_m (Pr := fun a b => jp9 A sg nm n t a b ∨ ∃ z, z ∈ [(r, r')] ∧ a = gV9 (prA9 A z.1) ∧ b = gV9 z.2) (Pr' := jp9 A sg nm (n + 1) s) ?_
    intro a c hac
    have hR := lst_e (jp9 A sg nm (n + 1) s)
    rcases hac with ⟨y, y1, y2⟩ | ⟨z, z1, z2, z3⟩
    · rw [ht y y1] at y2
      exact lst_i ⟨y, by omega, y2⟩
    · rw [List.mem_singleton.mp z1] at z2 z3
      rw [z2, z3]
      rcases kk_has hb h hs with j | j
      · exact lst_i ⟨n, by omega, j⟩
      · exact hR.2.1 _ _ (lst_i ⟨n, by omega, j⟩)
theorem gX_1 (hb : bdA A) (hr : r ∈ A.flatten) (g : Nat) : (gG9 A g ∧ g ≠ gV9 r) ↔ gX9 A [(r, r')] g := by
  have u2 : ∀ p, p ∈ A.flatten → p.2 < 2 := fun p hp => (hb.2.1 p hp).2
  constructor
  · rintro ⟨⟨p, p1, p2⟩ | ⟨i, i1, i2, i3⟩, ho⟩
    · refine Or.inl ⟨p, p1, fun z hz => ?_, p2⟩
      rw [List.mem_singleton.mp hz]
      intro h9
      rw [h9] at p2
      exact ho p2
    · exact Or.inr ⟨i, i1, i2, i3⟩
  · rintro (⟨p, p1, p2, p3⟩ | ⟨i, i1, i2, i3⟩)
    · refine ⟨Or.inl ⟨p, p1, p3⟩, fun h9 => p2 (r, r') List.mem_cons_self (gA_inj (u2 p p1) (u2 r hr) (p3.symm.trans h9))⟩
    · have := gV_lt hb hr
      exact ⟨Or.inr ⟨i, i1, i2, i3⟩, by omega⟩
theorem gX_0 (g : Nat) : gG9 A g ↔ gX9 A [] g := by
  constructor
  · rintro (⟨p, p1, p2⟩ | h)
    · exact Or.inl ⟨p, p1, fun z hz => absurd hz List.not_mem_nil, p2⟩
    · exact Or.inr h
  · rintro (⟨p, p1, -, p2⟩ | h)
    · exact Or.inl ⟨p, p1, p2⟩
    · exact Or.inr h
theorem rX_0 (s : Nat → Bool) (g h : Nat) : relL9 A sg nm n s g h ↔ relX9 A sg nm n [] s g h := lst_iff (fun a b h9 => lst_i (Or.inl h9)) (fun a b h9 => h9.elim lst_i (fun ⟨z, hz, _⟩ => absurd hz List.not_mem_nil)) g h
/-- R1 in lists -/
theorem cR1 {r0 : Nat} (hp : pr9 p) (hi : iv9 p) (hb : bdA A) (hO : nmO A nm (n + 1)) (h : kkO A L (nm n) r r') (hC : cuL9 A sg nm (n + 1)) (hC' : cuL9 (rmv (rmv A r) r') sg nm n) (hB : bL9 p A sg nm (n + 1) k d r0 b) : (sg (nm n) = false → bL9 p (rmv (rmv A r) r') sg nm n k (d + 1) r0 b) ∧ (sg (nm n) = true → 1 ≤ k → bL9 p (rmv (rmv A r) r') sg nm n (k + 1) (d - 2) r0 b) := by
  have u2 : ∀ p, p ∈ A.flatten → p.2 < 2 := fun p hp => (hb.2.1 p hp).2
  obtain ⟨rA, rA'⟩ := kk_in hb h
  have ne1 : gV9 r' ≠ gV9 r := fun h9 => kk_ne h (gA_inj (u2 _ rA) (u2 _ rA') h9.symm)
  have ne2 : gV9 (prA9 A r) ≠ gV9 r := fun h9 => kk_qr hb h (gA_inj (u2 _ (prA_in hb.1 rA)) (u2 _ rA) h9)
  have pr' : prA9 A r' = r := prA_eq hb.1 h.1 h.2.1 h.2.2.1
  -- the ends of the kink, its own gap first
  obtain ⟨Q1, Q2, hq, q1, q2, q3⟩ : ∃ Q1 Q2 : Nat → Nat, (∀ x, x < n + 1 → flp9 (fun y => gV9 (nm y, 0)) (fun y => gV9 (prA9 A (nm y, 0))) (fun y => gV9 (prA9 A (nm y, 0))) Q1 Q2 Q2 x) ∧ Q1 n = gV9 r ∧ Q2 n ≠ gV9 r ∧ ∀ y, y < n → Q1 y = gV9 (nm y, 0) ∧ Q2 y = gV9 (prA9 A (nm y, 0)) := by
    rcases h.2.2.2 with ⟨e1, e2⟩ | ⟨e1, e2⟩
    · refine ⟨fun y => gV9 (nm y, 0), fun y => gV9 (prA9 A (nm y, 0)), fun x _ => Or.inl ⟨rfl, rfl, rfl⟩, by rw [e1], ?_, fun y _ => ⟨rfl, rfl⟩⟩
      show gV9 (prA9 A (nm n, 0)) ≠ gV9 r
      rw [← e1]
      exact ne2
    · refine ⟨fun y => if y = n then gV9 r else gV9 (nm y, 0), fun y => if y = n then gV9 r' else gV9 (prA9 A (nm y, 0)), fun x _ => ?_, if_pos rfl, ?_, fun y hy => ⟨if_neg (by omega), if_neg (by omega)⟩⟩
      · by_cases c : x = n
        · right
          refine ⟨rfl, ?_, ?_, ?_⟩
          · show (if x = n then gV9 r else gV9 (nm x, 0)) = gV9 (prA9 A (nm x, 0))
            rw [if_pos c, c, ← e2, pr']
          · show (if x = n then gV9 r' else gV9 (prA9 A (nm x, 0))) = gV9 (nm x, 0)
            rw [if_pos c, c, ← e2]
          · show (if x = n then gV9 r' else gV9 (prA9 A (nm x, 0))) = gV9 (nm x, 0)
            rw [if_pos c, c, ← e2]
        · left
          exact ⟨if_neg c, if_neg c, if_neg c⟩
      · show (if n = n then gV9 r' else gV9 (prA9 A (nm n, 0))) ≠ gV9 r
        rw [if_pos rfl]
        exact ne1
  have hCq := flp_cu hq hC
  have hBq := be_flp hq hC hB
  have pq : ∀ y, y < n → Q1 y ≠ gV9 r ∧ Q2 y ≠ gV9 r ∧ Q2 y ≠ gV9 r := fun y hy => by
    obtain ⟨e1, e2⟩ := q3 y hy
    obtain ⟨f1, f2⟩ := kk_end hb hO h hy (show 0 < 2 by omega)
    rw [e1, e2]
    exact ⟨f1, f2, f2⟩
  have gr : gG9 A (gV9 r) := Or.inl ⟨r, rA, rfl⟩
  have q3' : ∀ x, x < n → Q1 x = gV9 (nm x, 0) ∧ Q2 x = gV9 (prA9 A (nm x, 0)) ∧ Q2 x = gV9 (prA9 A (nm x, 0)) := fun x hx => ⟨(q3 x hx).1, (q3 x hx).2, (q3 x hx).2⟩
  have R := rmP (sg := sg) (nm := nm) (n := n) (ps := []) hb h.1 h.2.1 h.2.2.1 (kk_ne h) (fun z hz => absurd hz List.not_mem_nil) (fun z hz => absurd hz List.not_mem_nil) (fun y u hy hu => kk_nm hO h hy hu)
  constructor
  · intro hsg
    have kn : knW n (gV9 r) (fun _ => True) Q1 Q2 Q2 (relL9 A sg nm (n + 1)) := ⟨fun s _ hs => kk_al hb hO h (hsg.trans hs.symm), q1, q2, fun y s hy _ _ => pq y hy, fun _ _ _ => trivial, fun _ _ => trivial⟩
    obtain ⟨c1, c2⟩ := r1A hp hi hCq gr kn hBq
    refine be_ph hp hi c1 hC' (ph_cg (gX_1 hb rA) gX_0 q3' (fun x _ => ⟨rfl, rfl, rfl⟩) (fun s hs g k => ?_) (fun s _ => rX_0 s) R) c2
    exact kk_rel hb h (hsg.trans (hs n (Nat.le_refl n)).symm) (fun y _ => rfl) g k
  · intro hsg hk
    have kn : knB n (gV9 r) (fun _ => True) Q1 Q2 Q2 (relL9 A sg nm (n + 1)) := ⟨fun s _ hs => kk_al hb hO h (hsg.trans hs.symm), q1, fun y s hy _ _ => pq y hy, fun _ _ _ _ => trivial, fun _ _ => trivial⟩
    obtain ⟨c1, c2⟩ := r1B hp hi hk hCq gr kn hBq
    refine be_ph hp hi c1 hC' (ph_cg (gX_1 hb rA) gX_0 q3' (fun x _ => ⟨rfl, rfl, rfl⟩) (fun s hs g k => ?_) (fun s _ => rX_0 s) R) c2
    exact kk_rel hb h (hsg.trans on_x.symm) (fun y hy => (on_o (by omega)).symm) g k
end XCHV
end
section
/-! 99zzzzzzzzzzzzzzzzyx.xchm -/
-- CHAIN: a pair of crossings goes out of a list
/-- one gap left out of the labels -/
def rdp9 (o : Nat) (rel : (Nat → Bool) → Nat → Nat → Prop) (s : Nat → Bool) (g h : Nat) : Prop := g = h ∨ (g ≠ o ∧ h ≠ o ∧ rel s g h)
section XCHW
variable {n V o : Nat} {G : Nat → Prop} {P1 P2 P3 : Nat → Nat} {rel : (Nat → Bool) → Nat → Nat → Prop} {s : Nat → Bool}
theorem rdp_y {g h : Nat} (hE : eqv9 (rel s)) (hg : g ≠ o) (hh : h ≠ o) : rdp9 o rel s g h ↔ rel s g h := ⟨fun h9 => h9.elim (fun e => e ▸ hE.1 g) (fun e => e.2.2), fun h9 => Or.inr ⟨hg, hh, h9⟩⟩
theorem rdp_e (hE : eqv9 (rel s)) : eqv9 (rdp9 o rel s) := by
  refine ⟨fun g => Or.inl rfl, fun g h h9 => ?_, fun g h k h9 h8 => ?_⟩
  · rcases h9 with e | ⟨e1, e2, e3⟩
    · exact Or.inl e.symm
    · exact Or.inr ⟨e2, e1, hE.2.1 _ _ e3⟩
  · rcases h9 with e | ⟨e1, e2, e3⟩
    · rw [e]
      exact h8
    · rcases h8 with e | ⟨f1, f2, f3⟩
      · rw [← e]
        exact Or.inr ⟨e1, e2, e3⟩
      · exact Or.inr ⟨e1, f2, hE.2.2 _ _ _ e3 f3⟩
theorem adr_dp {a b g h : Nat} (hE : eqv9 (rel s)) (ha : a ≠ o) (hb : b ≠ o) : adr (rdp9 o rel s) a b g h ↔ (g = h ∨ (g ≠ o ∧ h ≠ o ∧ adr (rel s) a b g h)) := by
  have k : ∀ u c, c ≠ o → rdp9 o rel s u c → u ≠ o ∧ rel s u c := fun u c hc h9 => by
    rcases h9 with e | ⟨e1, e2, e3⟩
    · rw [e]
      exact ⟨hc, hE.1 c⟩
    · exact ⟨e1, e3⟩
  constructor
  · rintro (h9 | ⟨h8, h9⟩ | ⟨h8, h9⟩)
    · rcases h9 with e | ⟨e1, e2, e3⟩
      · exact Or.inl e
      · exact Or.inr ⟨e1, e2, Or.inl e3⟩
    · exact Or.inr ⟨(k _ _ ha h8).1, (k _ _ hb h9).1, Or.inr (Or.inl ⟨(k _ _ ha h8).2, (k _ _ hb h9).2⟩)⟩
    · exact Or.inr ⟨(k _ _ hb h8).1, (k _ _ ha h9).1, Or.inr (Or.inr ⟨(k _ _ hb h8).2, (k _ _ ha h9).2⟩)⟩
  · rintro (e | ⟨e1, e2, h9 | ⟨h8, h9⟩ | ⟨h8, h9⟩⟩)
    · exact Or.inl (Or.inl e)
    · exact Or.inl (Or.inr ⟨e1, e2, h9⟩)
    · exact Or.inr (Or.inl ⟨Or.inr ⟨e1, ha, h8⟩, Or.inr ⟨e2, hb, h9⟩⟩)
    · exact Or.inr (Or.inr ⟨Or.inr ⟨e1, hb, h8⟩, Or.inr ⟨e2, ha, h9⟩⟩)
theorem cu_dp (hC : cu9 n V G P1 P2 P3 rel) (hP : ∀ x, x < n → P1 x ≠ o ∧ P2 x ≠ o ∧ P3 x ≠ o) : cu9 n V (fun g => G g ∧ g ≠ o) P1 P2 P3 (rdp9 o rel) := by
  obtain ⟨⟨hE, hx⟩, h2, h3, h4⟩ := hC
  refine ⟨⟨fun s => rdp_e (hE s), fun s x x1 sx => ?_⟩, fun s hs g h h9 hne => ?_, fun g hg => h3 g hg.1, fun x x1 => ?_⟩
  · obtain ⟨p1, p2, p3⟩ := hP x x1
    rcases hx s x x1 sx with ⟨a, b⟩ | ⟨a, b, c⟩
    · left
      refine ⟨fun h9 => a ((rdp_y (hE s) p1 p3).mp h9), fun g h => ?_⟩
      rw [adr_dp (hE s) p1 p3, ← b g h]
      rfl
    · right
      refine ⟨(rdp_y (hE s) p1 p3).mpr a, fun h9 => b ((rdp_y (hE _) p1 p2).mp h9), fun g h => ?_⟩
      rw [adr_dp (hE _) p1 p2, ← c g h]
      rfl
  · rcases h9 with e | ⟨e1, e2, e3⟩
    · exact absurd e hne
    · obtain ⟨a, b⟩ := h2 s hs g h e3 hne
      exact ⟨⟨a, e1⟩, b, e2⟩
  · obtain ⟨p1, p2, p3⟩ := hP x x1
    obtain ⟨q1, q2, q3⟩ := h4 x x1
    exact ⟨⟨q1, p1⟩, ⟨q2, p2⟩, q3, p3⟩
theorem ph_dp (hE : ∀ s, eqv9 (rel s)) (hal : ∀ s, (∀ y, n ≤ y → s y = false) → ∃ g, G g ∧ g ≠ o ∧ rel s o g) : phi9 n G (fun g => G g ∧ g ≠ o) P1 P2 P3 P1 P2 P3 rel (rdp9 o rel) (fun g => g) := by
  refine ⟨fun g hg => hg.1, fun s hs => ⟨fun g h hg hh => rdp_y (hE s) hg.2 hh.2, fun g hg => ?_, fun x _ => ⟨(hE s).1 _, (hE s).1 _, (hE s).1 _⟩⟩⟩
  by_cases c : g = o
  · obtain ⟨g', a, b, e⟩ := hal s hs
    exact ⟨g', ⟨a, b⟩, by rw [c]; exact e⟩
  · exact ⟨g, ⟨hg, c⟩, (hE s).1 g⟩
end XCHW
/-- the pair -/
def bgO (A : rn_L) (L0 L1 : List vT) (X Y : Nat) (r0 r0' r1 r1' : vT) : Prop := (L0 ∈ A ∧ r0 ∈ L0 ∧ sc L0 r0 = r0') ∧ (L1 ∈ A ∧ r1 ∈ L1 ∧ sc L1 r1 = r1') ∧ X ≠ Y ∧ ((r0 = (X, 0) ∧ r0' = (Y, 0)) ∨ (r0 = (Y, 0) ∧ r0' = (X, 0))) ∧ ((r1 = (X, 1) ∧ r1' = (Y, 1)) ∨ (r1 = (Y, 1) ∧ r1' = (X, 1)))
/-- which of the two is turned where there is a loop between -/
def bgS (sg : Nat → Bool) (X Y : Nat) (r0 r1 : vT) : Prop := (r1.1 = r0.1 ∧ sg X = false ∧ sg Y = true) ∨ (r1.1 ≠ r0.1 ∧ sg X = true ∧ sg Y = false)
section XCHX
variable {A : rn_L} {sg : Nat → Bool} {nm : Nat → Nat} {n k X Y : Nat} {s : Nat → Bool} {L0 L1 : List vT} {r0 r0' r1 r1' : vT} {p d b : Int}
theorem bg_pr (hb : bdA A) (h : bgO A L0 L1 X Y r0 r0' r1 r1') : prA9 A r0' = r0 ∧ prA9 A r1' = r1 := ⟨prA_eq hb.1 h.1.1 h.1.2.1 h.1.2.2, prA_eq hb.1 h.2.1.1 h.2.1.2.1 h.2.1.2.2⟩
theorem bg_lp (hb : bdA A) (h : bgO A L0 L1 X Y r0 r0' r1 r1') (hs : bgS sg X Y r0 r1) {a c : Nat} (hj : jc9 A sg X true a c ∨ jc9 A sg Y false a c) : (a = gV9 r0 ∧ c = gV9 r1) ∨ ((a = gV9 (prA9 A r0) ∨ a = gV9 r0') ∧ (c = gV9 (prA9 A r1) ∨ c = gV9 r1')) := by
  obtain ⟨p0, p1⟩ := bg_pr hb h
  obtain ⟨-, -, hne, c0, c1⟩ := h
  have hne' : ¬ Y = X := fun h9 => hne h9.symm
  rcases c0 with ⟨rfl, rfl⟩ | ⟨rfl, rfl⟩ <;> rcases c1 with ⟨rfl, rfl⟩ | ⟨rfl, rfl⟩ <;> rcases hs with ⟨e, e1, e2⟩ | ⟨e, e1, e2⟩ <;> first | exact absurd rfl e | exact absurd e hne | exact absurd e hne' | (simp only [jc9, e1, e2, p0, p1] at hj; simp at hj; rcases hj with (⟨e3, e4⟩ | ⟨e3, e4⟩) | (⟨e3, e4⟩ | ⟨e3, e4⟩) <;> rw [e3, e4] <;> simp)
theorem bg_th (hb : bdA A) (h : bgO A L0 L1 X Y r0 r0' r1 r1') (hs : bgS sg X Y r0 r1) {a c : Nat} (hj : jc9 A sg X false a c ∨ jc9 A sg Y true a c) : ((a = gV9 (prA9 A r0) ∨ a = gV9 r0') ∧ c = gV9 r1) ∨ (a = gV9 r0 ∧ (c = gV9 (prA9 A r1) ∨ c = gV9 r1')) := by
  obtain ⟨p0, p1⟩ := bg_pr hb h
  obtain ⟨-, -, hne, c0, c1⟩ := h
  have hne' : ¬ Y = X := fun h9 => hne h9.symm
  rcases c0 with ⟨rfl, rfl⟩ | ⟨rfl, rfl⟩ <;> rcases c1 with ⟨rfl, rfl⟩ | ⟨rfl, rfl⟩ <;> rcases hs with ⟨e, e1, e2⟩ | ⟨e, e1, e2⟩ <;> first | exact absurd rfl e | exact absurd e hne | exact absurd e hne' | (simp only [jc9, e1, e2, p0, p1] at hj; simp at hj; rcases hj with (⟨e3, e4⟩ | ⟨e3, e4⟩) | (⟨e3, e4⟩ | ⟨e3, e4⟩) <;> rw [e3, e4] <;> simp)
/-- all four joins of the way through -/
theorem bg_ht (hb : bdA A) (h : bgO A L0 L1 X Y r0 r0' r1 r1') (hs : bgS sg X Y r0 r1) : (jc9 A sg X false (gV9 (prA9 A r0)) (gV9 r1) ∨ jc9 A sg Y true (gV9 (prA9 A r0)) (gV9 r1)) ∧ (jc9 A sg X false (gV9 r0') (gV9 r1) ∨ jc9 A sg Y true (gV9 r0') (gV9 r1)) ∧ (jc9 A sg X false (gV9 r0) (gV9 (prA9 A r1)) ∨ jc9 A sg Y true (gV9 r0) (gV9 (prA9 A r1))) ∧ (jc9 A sg X false (gV9 r0) (gV9 r1') ∨ jc9 A sg Y true (gV9 r0) (gV9 r1')) := by
  obtain ⟨p0, p1⟩ := bg_pr hb h
  obtain ⟨-, -, hne, c0, c1⟩ := h
  have hne' : ¬ Y = X := fun h9 => hne h9.symm
  rcases c0 with ⟨rfl, rfl⟩ | ⟨rfl, rfl⟩ <;> rcases c1 with ⟨rfl, rfl⟩ | ⟨rfl, rfl⟩ <;> rcases hs with ⟨e, e1, e2⟩ | ⟨e, e1, e2⟩ <;> first | exact absurd rfl e | exact absurd e hne | exact absurd e hne' | (simp only [jc9, e1, e2, p0, p1]; simp)
/-- the gap between the visits under is never alone -/
theorem bg_g1 (hb : bdA A) (h : bgO A L0 L1 X Y r0 r0' r1 r1') (t : Bool) : ∃ a, (a = gV9 (X, 0) ∨ a = gV9 (prA9 A (X, 0))) ∧ jc9 A sg X t a (gV9 r1) := by
  obtain ⟨p0, p1⟩ := bg_pr hb h
  obtain ⟨-, -, hne, c0, c1⟩ := h
  rcases c1 with ⟨rfl, rfl⟩ | ⟨rfl, rfl⟩
  · by_cases c : sg X = t
    · exact ⟨_, Or.inr rfl, Or.inl ⟨c, Or.inl ⟨rfl, rfl⟩⟩⟩
    · exact ⟨_, Or.inl rfl, Or.inr ⟨c, Or.inr ⟨rfl, rfl⟩⟩⟩
  · by_cases c : sg X = t
    · exact ⟨_, Or.inl rfl, Or.inl ⟨c, Or.inr ⟨rfl, by rw [p1]⟩⟩⟩
    · exact ⟨_, Or.inr rfl, Or.inr ⟨c, Or.inl ⟨rfl, by rw [p1]⟩⟩⟩
theorem bg_in (hb : bdA A) (h : bgO A L0 L1 X Y r0 r0' r1 r1') : (r0 ∈ A.flatten ∧ r0' ∈ A.flatten) ∧ r1 ∈ A.flatten ∧ r1' ∈ A.flatten := by
  obtain ⟨⟨a1, a2, a3⟩, ⟨b1, b2, b3⟩, -⟩ := h
  refine ⟨⟨List.mem_flatten.mpr ⟨L0, a1, a2⟩, List.mem_flatten.mpr ⟨L0, a1, ?_⟩⟩, List.mem_flatten.mpr ⟨L1, b1, b2⟩, List.mem_flatten.mpr ⟨L1, b1, ?_⟩⟩
  · rw [← a3]
    exact sc_in a2 (L_nd hb.1 a1)
  · rw [← b3]
    exact sc_in b2 (L_nd hb.1 b1)
/-- the kinds of the four visits -/
theorem bg_kd (h : bgO A L0 L1 X Y r0 r0' r1 r1') : r0.2 = 0 ∧ r0'.2 = 0 ∧ r1.2 = 1 ∧ r1'.2 = 1 ∧ r0 ≠ r0' ∧ r1 ≠ r1' ∧ (r0.1 = X ∨ r0.1 = Y) ∧ (r0'.1 = X ∨ r0'.1 = Y) ∧ (r1.1 = X ∨ r1.1 = Y) ∧ (r1'.1 = X ∨ r1'.1 = Y) := by
  obtain ⟨-, -, hne, c0, c1⟩ := h
  have hne' : ¬ Y = X := fun h9 => hne h9.symm
  rcases c0 with ⟨rfl, rfl⟩ | ⟨rfl, rfl⟩ <;> rcases c1 with ⟨rfl, rfl⟩ | ⟨rfl, rfl⟩ <;> simp [hne, hne']
/-- a gap before a visit is one of the two between only before the second visit -/
theorem bg_bf (hb : bdA A) (h : bgO A L0 L1 X Y r0 r0' r1 r1') {q : vT} (hq : q ∈ A.flatten) : (gV9 (prA9 A q) = gV9 r0 → q = r0') ∧ (gV9 (prA9 A q) = gV9 r1 → q = r1') := by
  have u2 : ∀ p, p ∈ A.flatten → p.2 < 2 := fun p hp => (hb.2.1 p hp).2
  obtain ⟨⟨i0, -⟩, i1, -⟩ := bg_in hb h
  obtain ⟨L, hL, hqL⟩ := List.mem_flatten.mp hq
  obtain ⟨m1, m2⟩ := prA_of hb.1 hL hqL
  constructor
  · intro e
    have e := gA_inj (u2 _ (prA_in hb.1 hq)) (u2 _ i0) e
    rw [e] at m1 m2
    rw [← m2, same_L hb.1 h.1.1 hL h.1.2.1 m1]
    exact h.1.2.2
  · intro e
    have e := gA_inj (u2 _ (prA_in hb.1 hq)) (u2 _ i1) e
    rw [e] at m1 m2
    rw [← m2, same_L hb.1 h.2.1.1 hL h.2.1.2.1 m1]
    exact h.2.1.2.2
/-- the ends of other crossings -/
theorem bg_end (hb : bdA A) (hO : nmO A nm (n + 2)) (h : bgO A L0 L1 (nm n) (nm (n + 1)) r0 r0' r1 r1') {y u : Nat} (hy : y < n) (hu : u < 2) : (nm y, u) ∈ A.flatten ∧ ((nm y, u) ≠ r0 ∧ (nm y, u) ≠ r0' ∧ (nm y, u) ≠ r1 ∧ (nm y, u) ≠ r1') ∧ (gV9 (nm y, u) ≠ gV9 r0 ∧ gV9 (nm y, u) ≠ gV9 r1) ∧ gV9 (prA9 A (nm y, u)) ≠ gV9 r0 ∧ gV9 (prA9 A (nm y, u)) ≠ gV9 r1 := by
  have u2 : ∀ p, p ∈ A.flatten → p.2 < 2 := fun p hp => (hb.2.1 p hp).2
  have ne1 : nm y ≠ nm n := fun h9 => by
    have := hO.2.1 y n (by omega) (by omega) h9
    omega
  have ne2 : nm y ≠ nm (n + 1) := fun h9 => by
    have := hO.2.1 y (n + 1) (by omega) (by omega) h9
    omega
  have m : (nm y, u) ∈ A.flatten := by
    obtain ⟨a, b⟩ := hO.1 y (by omega)
    rcases Nat.lt_or_ge u 1 with c | c
    · rw [show u = 0 by omega]
      exact a
    · rw [show u = 1 by omega]
      exact b
  obtain ⟨-, -, -, -, -, -, k0, k0', k1, k1'⟩ := bg_kd h
  have nq : ∀ q : vT, (q.1 = nm n ∨ q.1 = nm (n + 1)) → (nm y, u) ≠ q := fun q hq h9 => by
    rw [← h9] at hq
    exact hq.elim ne1 ne2
  obtain ⟨⟨i0, -⟩, i1, -⟩ := bg_in hb h
  obtain ⟨f0, f1⟩ := bg_bf hb h m
  exact ⟨m, ⟨nq _ k0, nq _ k0', nq _ k1, nq _ k1'⟩, ⟨fun h9 => nq _ k0 (gA_inj (u2 _ m) (u2 _ i0) h9), fun h9 => nq _ k1 (gA_inj (u2 _ m) (u2 _ i1) h9)⟩, fun h9 => nq _ k0' (f0 h9), fun h9 => nq _ k1' (f1 h9)⟩
/-- the six gaps -/
theorem bg_six (hb : bdA A) (h : bgO A L0 L1 X Y r0 r0' r1 r1') : gV9 r0 ≠ gV9 r1 ∧ (gV9 (prA9 A r0) ≠ gV9 r0 ∧ gV9 (prA9 A r0) ≠ gV9 r1) ∧ (gV9 r0' ≠ gV9 r0 ∧ gV9 r0' ≠ gV9 r1) ∧ (gV9 (prA9 A r1) ≠ gV9 r0 ∧ gV9 (prA9 A r1) ≠ gV9 r1) ∧ gV9 r1' ≠ gV9 r0 ∧ gV9 r1' ≠ gV9 r1 := by
  have u2 : ∀ p, p ∈ A.flatten → p.2 < 2 := fun p hp => (hb.2.1 p hp).2
  obtain ⟨⟨i0, i0'⟩, i1, i1'⟩ := bg_in hb h
  obtain ⟨z0, z0', z1, z1', n0, n1, -⟩ := bg_kd h
  have nv : ∀ q q' : vT, q ∈ A.flatten → q' ∈ A.flatten → q ≠ q' → gV9 q ≠ gV9 q' := fun q q' h1 h2 h3 h9 => h3 (gA_inj (u2 _ h1) (u2 _ h2) h9)
  have n2 : ∀ q q' : vT, q.2 ≠ q'.2 → q ≠ q' := fun q q' h1 h9 => h1 (congrArg Prod.snd h9)
  obtain ⟨a0, a1⟩ := bg_bf hb h i0
  obtain ⟨b0, b1⟩ := bg_bf hb h i1
  exact ⟨nv _ _ i0 i1 (n2 _ _ (by omega)), ⟨fun h9 => n0 (a0 h9), fun h9 => n2 r0 r1' (by omega) (a1 h9)⟩, ⟨nv _ _ i0' i0 (fun h9 => n0 h9.symm), nv _ _ i0' i1 (n2 _ _ (by omega))⟩, ⟨fun h9 => n2 r1 r0' (by omega) (b0 h9), fun h9 => n1 (b1 h9)⟩, nv _ _ i1' i0 (n2 _ _ (by omega)), nv _ _ i1' i1 (fun h9 => n1 h9.symm)⟩
/-- the loop between the two -/
theorem bg_al (hb : bdA A) (hO : nmO A nm (n + 2)) (h : bgO A L0 L1 (nm n) (nm (n + 1)) r0 r0' r1 r1') (hs : bgS sg (nm n) (nm (n + 1)) r0 r1) (s1 : s n = true) (s2 : s (n + 1) = false) : ∀ g, relL9 A sg nm (n + 2) s (gV9 r0) g → g = gV9 r0 ∨ g = gV9 r1 := fun g h1 => by
  obtain ⟨x1, ⟨x2, x3⟩, ⟨x4, x5⟩, ⟨x6, x7⟩, x8, x9⟩ := bg_six hb h
  have key := h1 (fun u v => (u = gV9 r0 ∨ u = gV9 r1) ↔ (v = gV9 r0 ∨ v = gV9 r1)) ⟨fun _ => Iff.rfl, fun _ _ h9 => h9.symm, fun _ _ _ h9 h8 => h9.trans h8⟩ (fun a c ⟨y, y1, y2⟩ => ?_)
  · exact key.mp (Or.inl rfl)
  · by_cases c1 : y < n
    · have en := jc_ends (o := gV9 r0) (fun u hu => ⟨(bg_end hb hO h c1 hu).2.2.1.1, (bg_end hb hO h c1 hu).2.2.2.1⟩) y2
      have en' := jc_ends (o := gV9 r1) (fun u hu => ⟨(bg_end hb hO h c1 hu).2.2.1.2, (bg_end hb hO h c1 hu).2.2.2.2⟩) y2
      exact ⟨fun h9 => absurd h9 (fun h8 => h8.elim en.1 en'.1), fun h9 => absurd h9 (fun h8 => h8.elim en.2 en'.2)⟩
    · have hj : jc9 A sg (nm n) true a c ∨ jc9 A sg (nm (n + 1)) false a c := by
        rcases (show y = n ∨ y = n + 1 by omega) with e | e
        · rw [e, s1] at y2
          exact Or.inl y2
        · rw [e, s2] at y2
          exact Or.inr y2
      rcases bg_lp hb h hs hj with ⟨e1, e2⟩ | ⟨e1, e2⟩
      · rw [e1, e2]
        exact ⟨fun _ => Or.inr rfl, fun _ => Or.inl rfl⟩
      · have na : ¬ (a = gV9 r0 ∨ a = gV9 r1) := by
          rcases e1 with e | e <;> rw [e]
          · exact fun h8 => h8.elim x2 x3
          · exact fun h8 => h8.elim x4 x5
        have nc : ¬ (c = gV9 r0 ∨ c = gV9 r1) := by
          rcases e2 with e | e <;> rw [e]
          · exact fun h8 => h8.elim x6 x7
          · exact fun h8 => h8.elim x8 x9
        exact ⟨fun h9 => absurd h9 na, fun h9 => absurd h9 nc⟩
/-- the way through -/
theorem bg_rel (hb : bdA A) (hO : nmO A nm (n + 2)) (h : bgO A L0 L1 (nm n) (nm (n + 1)) r0 r0' r1 r1') (hs : bgS sg (nm n) (nm (n + 1)) r0 r1) {t : Nat → Bool} (s1 : s n = false) (s2 : s (n + 1) = true) (ht : ∀ y, y < n → t y = s y) {g k : Nat} (g1 : g ≠ gV9 r0 ∧ g ≠ gV9 r1) (k1 : k ≠ gV9 r0 ∧ k ≠ gV9 r1) : relX9 A sg nm n [(r0, r0'), (r1, r1')] t g k ↔ relL9 A sg nm (n + 2) s g k := by
  obtain ⟨x1, ⟨x2, x3⟩, ⟨x4, x5⟩, ⟨x6, x7⟩, x8, x9⟩ := bg_six hb h
  obtain ⟨j1, j2, j3, j4⟩ := bg_ht hb h hs
  have up : ∀ {a c : Nat}, (jc9 A sg (nm n) false a c ∨ jc9 A sg (nm (n + 1)) true a c) → relL9 A sg nm (n + 2) s a c := fun {a c} h9 => by
    rcases h9 with h9 | h9
    · exact lst_i ⟨n, by omega, by rw [s1]; exact h9⟩
    · exact lst_i ⟨n + 1, by omega, by rw [s2]; exact h9⟩
  have E := lst_e (jp9 A sg nm (n + 2) s)
  have E' := lst_e (fun a b => jp9 A sg nm n t a b ∨ ∃ z, z ∈ [(r0, r0'), (r1, r1')] ∧ a = gV9 (prA9 A z.1) ∧ b = gV9 z.2)
  have q0 : relX9 A sg nm n [(r0, r0'), (r1, r1')] t (gV9 (prA9 A r0)) (gV9 r0') := lst_i (Or.inr ⟨(r0, r0'), List.mem_cons_self, rfl, rfl⟩)
  have q1 : relX9 A sg nm n [(r0, r0'), (r1, r1')] t (gV9 (prA9 A r1)) (gV9 r1') := lst_i (Or.inr ⟨(r1, r1'), List.mem_cons_of_mem _ List.mem_cons_self, rfl, rfl⟩)
  constructor
  · refine lst_m (Pr := fun a b => jp9 A sg nm n t a b ∨ ∃ z, z ∈ [(r0, r0'), (r1, r1')] ∧ a = gV9 (prA9 A z.1) ∧ b = gV9 z.2) (Pr' := jp9 A sg nm (n + 2) s) ?_
    intro a c h9
    rcases h9 with ⟨y, y1, y2⟩ | ⟨z, z1, z2, z3⟩
    · exact lst_i ⟨y, by omega, by rw [← ht y y1]; exact y2⟩
    · rcases List.mem_cons.mp z1 with e | e
      · rw [z2, z3, e]
        exact E.2.2 _ _ _ (up j1) (E.2.1 _ _ (up j2))
      · rw [List.mem_singleton.mp e] at z2 z3
        rw [z2, z3]
        exact E.2.2 _ _ _ (E.2.1 _ _ (up j3)) (up j4)
  · intro h1
    have key := h1 (fun u v => relX9 A sg nm n [(r0, r0'), (r1, r1')] t (if u = gV9 r0 then gV9 r1' else if u = gV9 r1 then gV9 r0' else u) (if v = gV9 r0 then gV9 r1' else if v = gV9 r1 then gV9 r0' else v)) (eqv_pb E' (fun u => if u = gV9 r0 then gV9 r1' else if u = gV9 r1 then gV9 r0' else u)) (fun a c ⟨y, y1, y2⟩ => ?_)
    · rw [if_neg g1.1, if_neg g1.2, if_neg k1.1, if_neg k1.2] at key
      exact key
    · by_cases c1 : y < n
      · have en := jc_ends (o := gV9 r0) (fun u hu => ⟨(bg_end hb hO h c1 hu).2.2.1.1, (bg_end hb hO h c1 hu).2.2.2.1⟩) y2
        have en' := jc_ends (o := gV9 r1) (fun u hu => ⟨(bg_end hb hO h c1 hu).2.2.1.2, (bg_end hb hO h c1 hu).2.2.2.2⟩) y2
        show relX9 A sg nm n [(r0, r0'), (r1, r1')] t (if a = gV9 r0 then gV9 r1' else if a = gV9 r1 then gV9 r0' else a) (if c = gV9 r0 then gV9 r1' else if c = gV9 r1 then gV9 r0' else c)
        rw [if_neg en.1, if_neg en'.1, if_neg en.2, if_neg en'.2]
        exact lst_i (Or.inl ⟨y, c1, by rw [ht y c1]; exact y2⟩)
      · have hj : jc9 A sg (nm n) false a c ∨ jc9 A sg (nm (n + 1)) true a c := by
          rcases (show y = n ∨ y = n + 1 by omega) with e | e
          · rw [e, s1] at y2
            exact Or.inl y2
          · rw [e, s2] at y2
            exact Or.inr y2
        show relX9 A sg nm n [(r0, r0'), (r1, r1')] t (if a = gV9 r0 then gV9 r1' else if a = gV9 r1 then gV9 r0' else a) (if c = gV9 r0 then gV9 r1' else if c = gV9 r1 then gV9 r0' else c)
        rcases bg_th hb h hs hj with ⟨e1, e2⟩ | ⟨e1, e2⟩
        · have x1' : ¬ gV9 r1 = gV9 r0 := fun h9 => x1 h9.symm
          rcases e1 with e | e
          · rw [e, e2, if_neg x2, if_neg x3, if_neg x1', if_pos rfl]
            exact q0
          · rw [e, e2, if_neg x4, if_neg x5, if_neg x1', if_pos rfl]
            exact E'.1 _
        · rw [e1, if_pos rfl]
          rcases e2 with e | e
          · rw [e, if_neg x6, if_neg x7]
            exact E'.2.1 _ _ q1
          · rw [e, if_neg x8, if_neg x9]
            exact E'.1 _
end XCHX
end
section
/-! 99zzzzzzzzzzzzzzzzyy.xchn -/
-- CHAIN: R2 in lists
section XCHY
variable {A : rn_L} {sg : Nat → Bool} {nm : Nat → Nat} {n k X Y : Nat} {s : Nat → Bool} {L L0 L1 : List vT} {r r' r0 r0' r1 r1' q : vT} {p d b : Int}
theorem pr_bf (hn : A.flatten.Nodup) (hL : L ∈ A) (hr : r ∈ L) (e : sc L r = r') (hq : q ∈ A.flatten) (h : prA9 A q = r) : q = r' := by
  obtain ⟨N, hN, hqN⟩ := List.mem_flatten.mp hq
  obtain ⟨m1, m2⟩ := prA_of hn hN hqN
  rw [h] at m1 m2
  rw [← m2, same_L hn hL hN hr m1]
  exact e
theorem gX_n (hb : bdA A) (h : bgO A L0 L1 X Y r0 r0' r1 r1') {g : Nat} (hg : gX9 A [(r0, r0'), (r1, r1')] g) : gG9 A g ∧ g ≠ gV9 r0 ∧ g ≠ gV9 r1 := by
  have u2 : ∀ p, p ∈ A.flatten → p.2 < 2 := fun p hp => (hb.2.1 p hp).2
  obtain ⟨⟨i0, -⟩, i1, -⟩ := bg_in hb h
  rcases hg with ⟨p, p1, p2, p3⟩ | ⟨i, i1', i2, i3⟩
  · rw [p3]
    exact ⟨Or.inl ⟨p, p1, rfl⟩, fun h9 => p2 (r0, r0') List.mem_cons_self (gA_inj (u2 _ p1) (u2 _ i0) h9), fun h9 => p2 (r1, r1') (List.mem_cons_of_mem _ List.mem_cons_self) (gA_inj (u2 _ p1) (u2 _ i1) h9)⟩
  · have := gV_lt hb i0
    have := gV_lt hb i1
    exact ⟨Or.inr ⟨i, i1', i2, i3⟩, by omega, by omega⟩
theorem bg_pa (hb : bdA A) (hO : nmO A nm (n + 2)) (h : bgO A L0 L1 (nm n) (nm (n + 1)) r0 r0' r1 r1') (hs : bgS sg (nm n) (nm (n + 1)) r0 r1) {Q1 Q2 : Nat → Nat} (hQ : ∀ y, y < n → Q1 y = gV9 (nm y, 0) ∧ Q2 y = gV9 (prA9 A (nm y, 0))) : phi9 n (fun g => gG9 A g ∧ g ≠ gV9 r1) (gX9 A [(r0, r0'), (r1, r1')]) Q1 Q2 Q2 (fun y => gV9 (nm y, 0)) (fun y => gV9 (prA9 A (nm y, 0))) (fun y => gV9 (prA9 A (nm y, 0))) (fun s => rdp9 (gV9 r1) (relL9 A sg nm (n + 2)) (on9 s (n + 1))) (relX9 A sg nm n [(r0, r0'), (r1, r1')]) (fun g => g) := by
  obtain ⟨x1, -, -, -, x8, x9⟩ := bg_six hb h
  obtain ⟨⟨i0, -⟩, i1, i1'⟩ := bg_in hb h
  obtain ⟨z0, z0', z1, z1', n0, n1, -⟩ := bg_kd h
  have u2 : ∀ p, p ∈ A.flatten → p.2 < 2 := fun p hp => (hb.2.1 p hp).2
  refine ⟨fun g hg => ⟨(gX_n hb h hg).1, (gX_n hb h hg).2.2⟩, fun s hs0 => ?_⟩
  have E := lst_e (jp9 A sg nm (n + 2) (on9 s (n + 1)))
  have s1 : on9 s (n + 1) n = false := by
    rw [on_o (by omega)]
    exact hs0 n (Nat.le_refl n)
  have s2 : on9 s (n + 1) (n + 1) = true := on_x
  refine ⟨fun g k hg hk => ?_, fun g hg => ?_, fun x hx => ?_⟩
  · obtain ⟨-, g1, g2⟩ := gX_n hb h hg
    obtain ⟨-, k1, k2⟩ := gX_n hb h hk
    rw [bg_rel hb hO h hs s1 s2 (fun y hy => (on_o (by omega)).symm) ⟨g1, g2⟩ ⟨k1, k2⟩]
    exact (rdp_y (rel := relL9 A sg nm (n + 2)) (s := on9 s (n + 1)) E g2 k2).symm
  · by_cases c : g = gV9 r0
    · refine ⟨gV9 r1', Or.inl ⟨r1', i1', fun z hz => ?_, rfl⟩, ?_⟩
      · rcases List.mem_cons.mp hz with e | e
        · rw [e]
          exact fun h9 => by
            have := congrArg Prod.snd h9
            simp only [] at this
            omega
        · rw [List.mem_singleton.mp e]
          exact fun h9 => n1 h9.symm
      · obtain ⟨-, -, -, j4⟩ := bg_ht hb h hs
        rw [c]
        refine Or.inr ⟨x1, x9, ?_⟩
        rcases j4 with j | j
        · exact lst_i ⟨n, by omega, by rw [s1]; exact j⟩
        · exact lst_i ⟨n + 1, by omega, by rw [s2]; exact j⟩
    · refine ⟨g, ?_, Or.inl rfl⟩
      rcases hg with ⟨⟨p, p1, p2⟩ | h9, hne⟩
      · refine Or.inl ⟨p, p1, fun z hz => ?_, p2⟩
        rcases List.mem_cons.mp hz with e | e
        · rw [e]
          exact fun h9 => c (by rw [p2, h9])
        · rw [List.mem_singleton.mp e]
          exact fun h9 => hne (by rw [p2, h9])
      · exact Or.inr h9
  · obtain ⟨e1, e2⟩ := hQ x hx
    exact ⟨Or.inl e1, Or.inl e2, Or.inl e2⟩
/-- both pairs of visits out -/
theorem bg_pb (hb : bdA A) (hO : nmO A nm (n + 2)) (h : bgO A L0 L1 (nm n) (nm (n + 1)) r0 r0' r1 r1') : phi9 n (gX9 A [(r0, r0'), (r1, r1')]) (gG9 (rmv (rmv (rmv (rmv A r0) r0') r1) r1')) (fun y => gV9 (nm y, 0)) (fun y => gV9 (prA9 A (nm y, 0))) (fun y => gV9 (prA9 A (nm y, 0))) (fun y => gV9 (nm y, 0)) (fun y => gV9 (prA9 (rmv (rmv (rmv (rmv A r0) r0') r1) r1') (nm y, 0))) (fun y => gV9 (prA9 (rmv (rmv (rmv (rmv A r0) r0') r1) r1') (nm y, 0))) (relX9 A sg nm n [(r0, r0'), (r1, r1')]) (relL9 (rmv (rmv (rmv (rmv A r0) r0') r1) r1') sg nm n) (fun g => fmv9 A r0' (fmv9 (rmv (rmv A r0) r0') r1' g)) := by
  obtain ⟨z0, z0', z1, z1', n0, n1, -⟩ := bg_kd h
  have n2 : ∀ q q' : vT, q.2 ≠ q'.2 → q ≠ q' := fun q q' h1 h9 => h1 (congrArg Prod.snd h9)
  have d1 : r1 ≠ r0 := n2 _ _ (by omega)
  have d2 : r1 ≠ r0' := n2 _ _ (by omega)
  have d3 : r1' ≠ r0 := n2 _ _ (by omega)
  have d4 : r1' ≠ r0' := n2 _ _ (by omega)
  have hb1 : bdA (rmv (rmv A r0) r0') := rm_bd hb
  obtain ⟨⟨a1, a2, a3⟩, ⟨b1, b2, b3⟩, -⟩ := id h
  have hn1 := L_nd hb.1 b1
  have hL1 : (L1.filter (fun q => decide (q ≠ r0))).filter (fun q => decide (q ≠ r0')) ∈ rmv (rmv A r0) r0' := List.mem_map.mpr ⟨_, List.mem_map.mpr ⟨L1, b1, rfl⟩, rfl⟩
  have m1 : r1 ∈ L1.filter (fun q => decide (q ≠ r0)) := List.mem_filter.mpr ⟨b2, decide_eq_true d1⟩
  have m2 : r1 ∈ (L1.filter (fun q => decide (q ≠ r0))).filter (fun q => decide (q ≠ r0')) := List.mem_filter.mpr ⟨m1, decide_eq_true d2⟩
  have s1 : sc ((L1.filter (fun q => decide (q ≠ r0))).filter (fun q => decide (q ≠ r0'))) r1 = r1' := by
    rw [sc_fil (hn1.filter _) m1 d2, sc_fil hn1 b2 d1, b3, if_neg d3, if_neg d4]
  have en := fun {y u : Nat} (hy : y < n) (hu : u < 2) => bg_end hb hO h hy hu
  have R1 := rmP (sg := sg) (nm := nm) (n := n) (ps := [(r1, r1')]) hb a1 a2 a3 n0 (fun z hz => by
    rw [List.mem_singleton.mp hz]
    exact ⟨L1, b1, b2, b3, n1⟩) (fun z hz => by
    rw [List.mem_singleton.mp hz]
    exact ⟨⟨d1, d2⟩, d3, d4⟩) (fun y u hy hu => ⟨(en hy hu).1, (en hy hu).2.1.1, (en hy hu).2.1.2.1⟩)
  have R2 := rmP (A := rmv (rmv A r0) r0') (sg := sg) (nm := nm) (n := n) (ps := []) hb1 hL1 m2 s1 n1 (fun z hz => absurd hz List.not_mem_nil) (fun z hz => absurd hz List.not_mem_nil) (fun y u hy hu => ⟨rm_in.mpr ⟨(en hy hu).1, (en hy hu).2.1.1, (en hy hu).2.1.2.1⟩, (en hy hu).2.1.2.2.1, (en hy hu).2.1.2.2.2⟩)
  have i1 : ∀ y, y < n → (nm y, 0) ∈ (rmv (rmv A r0) r0').flatten := fun y hy => rm_in.mpr ⟨(en hy (show 0 < 2 by omega)).1, (en hy (show 0 < 2 by omega)).2.1.1, (en hy (show 0 < 2 by omega)).2.1.2.1⟩
  have i2 : ∀ y, y < n → (nm y, 0) ∈ (rmv (rmv (rmv (rmv A r0) r0') r1) r1').flatten := fun y hy => rm_in.mpr ⟨i1 y hy, (en hy (show 0 < 2 by omega)).2.1.2.2.1, (en hy (show 0 < 2 by omega)).2.1.2.2.2⟩
  have nz : ∀ y, y < n → (nm y, 0) ≠ r1' := fun y hy => (en hy (show 0 < 2 by omega)).2.1.2.2.2
  have C := ph_cmp (fun s => lst_e _) R1 R2 (fun x hx => by
    have q1 : gX9 (rmv (rmv A r0) r0') [(r1, r1')] (gV9 (nm x, 0)) := Or.inl ⟨_, i1 x hx, fun z hz => by
      rw [List.mem_singleton.mp hz]
      exact (en hx (show 0 < 2 by omega)).2.1.2.2.1, rfl⟩
    have q2 : gX9 (rmv (rmv A r0) r0') [(r1, r1')] (gV9 (prA9 (rmv (rmv A r0) r0') (nm x, 0))) := Or.inl ⟨_, prA_in hb1.1 (i1 x hx), fun z hz => by
      rw [List.mem_singleton.mp hz]
      exact fun h9 => nz x hx (pr_bf hb1.1 hL1 m2 s1 (i1 x hx) h9), rfl⟩
    exact ⟨q1, q2, q2⟩) (fun x hx => by
    have q1 : gX9 (rmv (rmv (rmv (rmv A r0) r0') r1) r1') [] (gV9 (nm x, 0)) := Or.inl ⟨_, i2 x hx, fun z hz => absurd hz List.not_mem_nil, rfl⟩
    have q2 : gX9 (rmv (rmv (rmv (rmv A r0) r0') r1) r1') [] (gV9 (prA9 (rmv (rmv (rmv (rmv A r0) r0') r1) r1') (nm x, 0))) := Or.inl ⟨_, prA_in (rm_bd hb1).1 (i2 x hx), fun z hz => absurd hz List.not_mem_nil, rfl⟩
    exact ⟨q1, q2, q2⟩)
  exact ph_cg (fun _ => Iff.rfl) gX_0 (fun x _ => ⟨rfl, rfl, rfl⟩) (fun x _ => ⟨rfl, rfl, rfl⟩) (fun s _ g h => Iff.rfl) (fun s _ => rX_0 s) C
/-- R2 in lists -/
theorem cR2 {r9 : Nat} (hp : pr9 p) (hi : iv9 p) (hk : 1 ≤ k) (hb : bdA A) (hO : nmO A nm (n + 2)) (h : bgO A L0 L1 (nm n) (nm (n + 1)) r0 r0' r1 r1') (hs : bgS sg (nm n) (nm (n + 1)) r0 r1) (hC : cuL9 A sg nm (n + 2)) (hC' : cuL9 (rmv (rmv (rmv (rmv A r0) r0') r1) r1') sg nm n) (hB : bL9 p A sg nm (n + 2) k d r9 b) : bL9 p (rmv (rmv (rmv (rmv A r0) r0') r1) r1') sg nm n (k + 1) (d - 1) r9 b := by
  have u2 : ∀ p, p ∈ A.flatten → p.2 < 2 := fun p hp => (hb.2.1 p hp).2
  obtain ⟨x1, ⟨x2, x3⟩, ⟨x4, x5⟩, ⟨x6, x7⟩, x8, x9⟩ := bg_six hb h
  obtain ⟨⟨i0, i0'⟩, i1, i1'⟩ := bg_in hb h
  obtain ⟨p0, p1⟩ := bg_pr hb h
  obtain ⟨z0, z0', z1, z1', n0, n1, k0, k0', -⟩ := bg_kd h
  have en := fun {y : Nat} (hy : y < n) => bg_end hb hO h hy (show 0 < 2 by omega)
  obtain ⟨Q1, Q2, hq, q3, q4⟩ : ∃ Q1 Q2 : Nat → Nat, (∀ x, x < n + 2 → flp9 (fun y => gV9 (nm y, 0)) (fun y => gV9 (prA9 A (nm y, 0))) (fun y => gV9 (prA9 A (nm y, 0))) Q1 Q2 Q2 x) ∧ (∀ y, y < n → Q1 y = gV9 (nm y, 0) ∧ Q2 y = gV9 (prA9 A (nm y, 0))) ∧ ∀ y, n ≤ y → y < n + 2 → Q1 y = gV9 r0 ∧ (Q2 y = gV9 (prA9 A r0) ∨ Q2 y = gV9 r0') := by
    refine ⟨fun y => if y < n then gV9 (nm y, 0) else gV9 r0, fun y => if y < n then gV9 (prA9 A (nm y, 0)) else if r0 = (nm y, 0) then gV9 (prA9 A r0) else gV9 r0', fun x hx => ?_, fun y hy => ⟨if_pos hy, if_pos hy⟩, fun y y1 y2 => ⟨if_neg (by omega), ?_⟩⟩
    · unfold flp9
      simp only []
      by_cases c : x < n
      · left
        rw [if_pos c, if_pos c]
        exact ⟨rfl, rfl, rfl⟩
      · rw [if_neg c, if_neg c]
        by_cases c2 : r0 = (nm x, 0)
        · left
          rw [if_pos c2, ← c2]
          exact ⟨rfl, rfl, rfl⟩
        · right
          rw [if_neg c2]
          have e : r0' = (nm x, 0) := by
            rcases (show x = n ∨ x = n + 1 by omega) with e | e
            · rw [e] at c2 ⊢
              rcases h.2.2.2.1 with ⟨f1, f2⟩ | ⟨f1, f2⟩
              · exact absurd f1 c2
              · exact f2
            · rw [e] at c2 ⊢
              rcases h.2.2.2.1 with ⟨f1, f2⟩ | ⟨f1, f2⟩
              · exact f2
              · exact absurd f1 c2
          rw [← e, p0]
          first | exact ⟨trivial, rfl, rfl, rfl⟩ | exact ⟨trivial, trivial, trivial, trivial⟩ | exact ⟨trivial, rfl, rfl⟩
    · show (if y < n then gV9 (prA9 A (nm y, 0)) else if r0 = (nm y, 0) then gV9 (prA9 A r0) else gV9 r0') = _ ∨ (if y < n then gV9 (prA9 A (nm y, 0)) else if r0 = (nm y, 0) then gV9 (prA9 A r0) else gV9 r0') = _
      rw [if_neg (by omega)]
      by_cases c2 : r0 = (nm y, 0)
      · rw [if_pos c2]
        exact Or.inl rfl
      · rw [if_neg c2]
        exact Or.inr rfl
  have hCq := flp_cu hq hC
  have hBq := be_flp hq hC hB
  have hPq : ∀ x, x < n + 2 → Q1 x ≠ gV9 r1 ∧ Q2 x ≠ gV9 r1 ∧ Q2 x ≠ gV9 r1 := fun x hx => by
    by_cases c : x < n
    · obtain ⟨e1, e2⟩ := q3 x c
      rw [e1, e2]
      exact ⟨(en c).2.2.1.2, (en c).2.2.2.2, (en c).2.2.2.2⟩
    · obtain ⟨e1, e2⟩ := q4 x (by omega) hx
      rw [e1]
      rcases e2 with e2 | e2 <;> rw [e2]
      · exact ⟨x1, x3, x3⟩
      · exact ⟨x1, x5, x5⟩
  have hPo : ∀ x, x < n → Q1 x ≠ gV9 r0 ∧ Q2 x ≠ gV9 r0 ∧ Q2 x ≠ gV9 r0 := fun x c => by
    obtain ⟨e1, e2⟩ := q3 x c
    rw [e1, e2]
    exact ⟨(en c).2.2.1.1, (en c).2.2.2.1, (en c).2.2.2.1⟩
  have hC1 := cu_dp (o := gV9 r1) hCq hPq
  have x0 : (nm n, 0) ∈ A.flatten := (hO.1 n (by omega)).1
  have hB1 := be_ph hp hi hCq hC1 (ph_dp hCq.1.1 (fun s _ => by
    obtain ⟨a, a1, a2⟩ := bg_g1 (sg := sg) hb h (s n)
    have E := lst_e (jp9 A sg nm (n + 2) s)
    refine ⟨a, ?_, ?_, E.2.1 _ _ (lst_i ⟨n, by omega, a2⟩)⟩
    · rcases a1 with e | e <;> rw [e]
      · exact Or.inl ⟨_, x0, rfl⟩
      · exact Or.inl ⟨_, prA_in hb.1 x0, rfl⟩
    · rcases a1 with e | e <;> rw [e]
      · exact fun h9 => by
          have := congrArg Prod.snd (gA_inj (u2 _ x0) (u2 _ i1) h9)
          simp only [] at this
          omega
      · exact fun h9 => by
          have := congrArg Prod.snd ((bg_bf hb h x0).2 h9)
          simp only [] at this
          omega)) hBq
  have al : ∀ s : Nat → Bool, s n = true → s (n + 1) = false → ∀ g, rdp9 (gV9 r1) (relL9 A sg nm (n + 2)) s (gV9 r0) g → g = gV9 r0 := fun s s1 s2 g hg => by
    rcases hg with e | ⟨-, e2, e3⟩
    · exact e.symm
    · exact (bg_al hb hO h hs s1 s2 g e3).elim id (fun e => absurd e e2)
  have kA : knW (n + 1) (gV9 r0) (fun s => s n = true) Q1 Q2 Q2 (rdp9 (gV9 r1) (relL9 A sg nm (n + 2))) := by
    refine ⟨fun s w hs9 => al s w hs9, (q4 (n + 1) (by omega) (by omega)).1, ?_, fun y s hy w sy => hPo y ?_, fun s y w => ?_, fun s w => ?_⟩
    · rcases (q4 (n + 1) (by omega) (by omega)).2 with e | e <;> rw [e]
      · exact x2
      · exact x4
    · rcases Nat.lt_or_ge y n with c | c
      · exact c
      · rw [show y = n by omega, w] at sy
        cases sy
    · show on9 s y n = true
      by_cases c : n = y
      · rw [c]
        exact on_x
      · rw [on_o c]
        exact w
    · show off9 s (n + 1) n = true
      rw [off_o (by omega)]
      exact w
  have kB : knB n (gV9 r0) (fun s => s (n + 1) = false) Q1 Q2 Q2 (rdp9 (gV9 r1) (relL9 A sg nm (n + 2))) := by
    refine ⟨fun s w hs9 => al s hs9 w, (q4 n (by omega) (by omega)).1, fun y s hy w sy => hPo y hy, fun s y hy w => ?_, fun s w => ?_⟩
    · show on9 s y (n + 1) = false
      rw [on_o (by omega)]
      exact w
    · show off9 s n (n + 1) = false
      rw [off_o (by omega)]
      exact w
  obtain ⟨c1, c2⟩ := r2T hp hi hk hC1 ⟨Or.inl ⟨r0, i0, rfl⟩, x1⟩ kA kB hB1
  have C := ph_cmp (fun s => rdp_e (rel := relL9 A sg nm (n + 2)) (s := on9 s (n + 1)) (lst_e _)) (bg_pa hb hO h hs q3) (bg_pb (sg := sg) hb hO h) (fun x hx => ?_) (fun x hx => ?_)
  · exact be_ph hp hi c1 hC' C c2
  · have q1 : gX9 A [(r0, r0'), (r1, r1')] (gV9 (nm x, 0)) := Or.inl ⟨_, (en hx).1, fun z hz => by
      rcases List.mem_cons.mp hz with e | e
      · rw [e]
        exact (en hx).2.1.1
      · rw [List.mem_singleton.mp e]
        exact (en hx).2.1.2.2.1, rfl⟩
    have q2 : gX9 A [(r0, r0'), (r1, r1')] (gV9 (prA9 A (nm x, 0))) := Or.inl ⟨_, prA_in hb.1 (en hx).1, fun z hz => by
      rcases List.mem_cons.mp hz with e | e
      · rw [e]
        exact fun h9 => (en hx).2.2.2.1 (congrArg gV9 h9)
      · rw [List.mem_singleton.mp e]
        exact fun h9 => (en hx).2.2.2.2 (congrArg gV9 h9), rfl⟩
    exact ⟨q1, q2, q2⟩
  · exact hC'.2.2.2 x hx
end XCHY
end
section
/-! 99zzzzzzzzzzzzzzzzyz.xcho -/
-- CHAIN: the numbers of the crossings do not matter
section XCHZ
variable {A : rn_L} {sg : Nat → Bool} {nm nm' : Nat → Nat} {c k x m : Nat} {p d b : Int} {r : Nat}
theorem swp_i (x m y : Nat) : swp9 x m (swp9 x m y) = y := by
  unfold swp9
  by_cases h1 : y = x
  · rw [if_pos h1]
    by_cases h2 : m = x
    · rw [if_pos h2, h1, h2]
    · rw [if_neg h2, if_pos rfl, h1]
  · rw [if_neg h1]
    by_cases h2 : y = m
    · rw [if_pos h2, if_pos rfl, h2]
    · rw [if_neg h2, if_neg h1, if_neg h2]
theorem swp_lt {y : Nat} (hx : x < c) (hm : m < c) (hy : y < c) : swp9 x m y < c := by
  unfold swp9
  split
  · exact hm
  · split
    · exact hx
    · exact hy
theorem swp_m : swp9 x m m = x := by
  unfold swp9
  by_cases h : m = x
  · rw [if_pos h, h]
  · rw [if_neg h, if_pos rfl]
theorem swp_o {y : Nat} (h1 : y ≠ x) (h2 : y ≠ m) : swp9 x m y = y := (if_neg h1).trans (if_neg h2)
theorem nmO_sw (hO : nmO A nm c) (hx : x < c) (hm : m < c) : nmO A (fun y => nm (swp9 x m y)) c := by
  refine ⟨fun y hy => hO.1 _ (swp_lt hx hm hy), fun y y' hy hy' e => ?_, fun q hq => ?_⟩
  · have e2 := hO.2.1 _ _ (swp_lt hx hm hy) (swp_lt hx hm hy') e
    rw [← swp_i x m y, e2, swp_i]
  · obtain ⟨y, y1, y2⟩ := hO.2.2 q hq
    exact ⟨swp9 x m y, swp_lt hx hm y1, by show nm (swp9 x m (swp9 x m y)) = _; rw [swp_i]; exact y2⟩
theorem relL_sw (hx : x < c) (hm : m < c) : (fun s : Nat → Bool => relL9 A sg nm c (fun z => s (swp9 x m z))) = relL9 A sg (fun y => nm (swp9 x m y)) c := funext (fun s => funext (fun g => funext (fun h => propext (lst_iff (fun a b ⟨y, y1, y2⟩ => lst_i ⟨swp9 x m y, swp_lt hx hm y1, by
    show jc9 A sg (nm (swp9 x m (swp9 x m y))) (s (swp9 x m y)) a b
    rw [swp_i]
    exact y2⟩) (fun a b ⟨y, y1, y2⟩ => lst_i ⟨swp9 x m y, swp_lt hx hm y1, by
    show jc9 A sg (nm (swp9 x m y)) (s (swp9 x m (swp9 x m y))) a b
    rw [swp_i]
    exact y2⟩) g h))))
theorem bL_sw (hp : pr9 p) (hi : iv9 p) (hx : x < m) (hm : m < c) (hC : cuL9 A sg nm c) (hB : bL9 p A sg nm c k d r b) : cuL9 A sg (fun y => nm (swp9 x m y)) c ∧ bL9 p A sg (fun y => nm (swp9 x m y)) c k d r b := by
  have R := rl_sw hx hm 2000 k r (gG9 A) (fun y => gV9 (nm y, 0)) (fun y => gV9 (prA9 A (nm y, 0))) (fun y => gV9 (prA9 A (nm y, 0))) (relL9 A sg nm c) d p b hp hi hC hB
  rw [relL_sw (by omega) hm] at R
  exact R
/-- only the numbers below c count -/
theorem relL_nm (h : ∀ y, y < c → nm' y = nm y) : relL9 A sg nm' c = relL9 A sg nm c := funext (fun s => funext (fun g => funext (fun k => propext (lst_iff (fun a b ⟨y, y1, y2⟩ => lst_i ⟨y, y1, by
    rw [← h y y1]
    exact y2⟩) (fun a b ⟨y, y1, y2⟩ => lst_i ⟨y, y1, by
    rw [h y y1]
    exact y2⟩) g k))))
theorem cu_nm (h : ∀ y, y < c → nm' y = nm y) (hC : cuL9 A sg nm c) : cuL9 A sg nm' c := by
  unfold cuL9 at hC ⊢
  rw [relL_nm h]
  obtain ⟨⟨h1, h2⟩, h3, h4, h5⟩ := hC
  refine ⟨⟨h1, fun s x hx hs => ?_⟩, h3, h4, fun x hx => ?_⟩
  · dsimp only
    rw [h x hx]
    exact h2 s x hx hs
  · dsimp only
    rw [h x hx]
    exact h5 x hx
theorem bL_nm (hp : pr9 p) (hi : iv9 p) (h : ∀ y, y < c → nm' y = nm y) (hC : cuL9 A sg nm c) (hB : bL9 p A sg nm c k d r b) : bL9 p A sg nm' c k d r b := by
  have hC' := cu_nm h hC
  refine be_ph (φ := fun g => g) hp hi hC hC' ⟨fun g hg => hg, fun s _ => ⟨fun g k _ _ => by rw [relL_nm h], fun g hg => ⟨g, hg, (hC.1.1 s).1 g⟩, fun x hx => ?_⟩⟩ hB
  dsimp only
  rw [h x hx]
  exact ⟨(hC.1.1 s).1 _, (hC.1.1 s).1 _, (hC.1.1 s).1 _⟩
theorem bL_st (hp : pr9 p) (hi : iv9 p) (hO' : nmO A nm' c) : ∀ (j : Nat) (nm : Nat → Nat), j ≤ c → nmO A nm c → (∀ y, j ≤ y → y < c → nm y = nm' y) → cuL9 A sg nm c → bL9 p A sg nm c k d r b → cuL9 A sg nm' c ∧ bL9 p A sg nm' c k d r b
  | 0, nm, _, hO, hj, hC, hB => ⟨cu_nm (fun y hy => (hj y (Nat.zero_le y) hy).symm) hC, bL_nm hp hi (fun y hy => (hj y (Nat.zero_le y) hy).symm) hC hB⟩
  | j + 1, nm, hjc, hO, hj, hC, hB => by
    obtain ⟨i, i1, i2⟩ := hO.2.2 _ (hO'.1 j (by omega)).1
    simp only [] at i2
    have ij : i ≤ j := by
      rcases Nat.lt_or_ge j i with c1 | c1
      · have e := hj i c1 i1
        rw [i2] at e
        have := hO'.2.1 j i (by omega) i1 e
        omega
      · exact c1
    rcases Nat.lt_or_ge i j with c1 | c1
    · obtain ⟨hC2, hB2⟩ := bL_sw hp hi c1 (show j < c by omega) hC hB
      refine bL_st hp hi hO' j _ (by omega) (nmO_sw hO i1 (by omega)) (fun y y1 y2 => ?_) hC2 hB2
      show nm (swp9 i j y) = nm' y
      by_cases e : y = j
      · rw [e, swp_m, i2]
      · rw [swp_o (by omega) e]
        exact hj y (by omega) y2
    · refine bL_st hp hi hO' j nm (by omega) hO (fun y y1 y2 => ?_) hC hB
      by_cases e : y = j
      · rw [e, ← i2, show i = j by omega]
      · exact hj y (by omega) y2
/-- another numbering -/
theorem bL_any (hp : pr9 p) (hi : iv9 p) (hO : nmO A nm c) (hO' : nmO A nm' c) (hC : cuL9 A sg nm c) (hB : bL9 p A sg nm c k d r b) : cuL9 A sg nm' c ∧ bL9 p A sg nm' c k d r b := bL_st hp hi hO' c nm (Nat.le_refl c) hO (fun y y1 y2 => by omega) hC hB
/-- a numbering with chosen last ones -/
theorem nm_last {x : Nat} (hO : nmO A nm (c + 1)) (hx : (x, 0) ∈ A.flatten) : ∃ nm', nmO A nm' (c + 1) ∧ nm' c = x := by
  obtain ⟨i, i1, i2⟩ := hO.2.2 _ hx
  exact ⟨_, nmO_sw (m := c) hO i1 (by omega), by show nm (swp9 i c c) = x; rw [swp_m]; exact i2⟩
theorem nm_last2 {x y : Nat} (hO : nmO A nm (c + 2)) (hx : (x, 0) ∈ A.flatten) (hy : (y, 0) ∈ A.flatten) (hne : x ≠ y) : ∃ nm', nmO A nm' (c + 2) ∧ nm' c = x ∧ nm' (c + 1) = y := by
  obtain ⟨n1, h1, h2⟩ := nm_last (c := c + 1) hO hy
  obtain ⟨i, i1, i2⟩ := h1.2.2 _ hx
  simp only [] at i2
  have hi : i ≠ c + 1 := fun e => hne (by rw [← i2, e, h2])
  refine ⟨_, nmO_sw (m := c) h1 i1 (by omega), ?_, ?_⟩
  · show n1 (swp9 i c c) = x
    rw [swp_m]
    exact i2
  · show n1 (swp9 i c (c + 1)) = y
    rw [swp_o (by omega) (by omega)]
    exact h2
/-- the numbers of what is left -/
theorem nmO_wox {x : Nat} (h2 : ∀ p, p ∈ A.flatten → p.2 < 2) (hO : nmO A nm (c + 1)) (hx : nm c = x) : nmO (wox A x) nm c := by
  have ne : ∀ y, y < c → nm y ≠ x := fun y hy h9 => by
    have := hO.2.1 y c (by omega) (by omega) (h9.trans hx.symm)
    omega
  refine ⟨fun y hy => ⟨(wox_mem h2).mpr ⟨(hO.1 y (by omega)).1, ne y hy⟩, (wox_mem h2).mpr ⟨(hO.1 y (by omega)).2, ne y hy⟩⟩, fun y y' hy hy' e => hO.2.1 y y' (by omega) (by omega) e, fun q hq => ?_⟩
  obtain ⟨q1, q2⟩ := (wox_mem h2).mp hq
  obtain ⟨y, y1, y2⟩ := hO.2.2 q q1
  refine ⟨y, ?_, y2⟩
  rcases Nat.lt_or_ge y c with c1 | c1
  · exact c1
  · rw [show y = c by omega, hx] at y2
    exact absurd y2.symm q2
end XCHZ
/-- how many crossings with - -/
def ng9 (A : rn_L) (sg : Nat → Bool) : Nat := (A.flatten.filter (fun p => decide (p.2 = 0) && sg p.1)).length
section XCI1
variable {A : rn_L} {sg : Nat → Bool} {nm nm' : Nat → Nat} {n k x y : Nat} {p d b : Int} {r9 : Nat}
theorem ng_wox {x : Nat} (hn : A.flatten.Nodup) (hx : (x, 0) ∈ A.flatten) : ng9 A sg = ng9 (wox A x) sg + (if sg x = true then 1 else 0) := by
  unfold ng9 wox
  rw [rmv_fl, rmv_fl, List.filter_filter, List.filter_filter]
  have e : ∀ l : List vT, l.Nodup → (l.filter (fun p => decide (p.2 = 0) && sg p.1)).length = (l.filter (fun a => decide (a ≠ (x, 0)) && (decide (a ≠ (x, 1)) && (decide (a.2 = 0) && sg a.1)))).length + (if (x, 0) ∈ l ∧ sg x = true then 1 else 0) := by
    intro l
    induction l with
    | nil => intro _; simp
    | cons a l ih =>
      intro h
      obtain ⟨h1, h2⟩ := List.nodup_cons.mp h
      have ih := ih h2
      by_cases c : a = (x, 0)
      · have n0 : ¬ ((x, 0) ∈ l ∧ sg x = true) := fun h9 => h1 (c ▸ h9.1)
        rw [if_neg n0] at ih
        rw [List.filter_cons, List.filter_cons, c]
        by_cases s : sg x = true
        · simp [s]
          simp [s] at ih
          omega
        · simp [s]
          simp at ih
          omega
      · have n1 : ((x, 0) ∈ a :: l ∧ sg x = true) ↔ ((x, 0) ∈ l ∧ sg x = true) := ⟨fun h9 => ⟨(List.mem_cons.mp h9.1).elim (fun h8 => absurd h8.symm c) id, h9.2⟩, fun h9 => ⟨List.mem_cons_of_mem _ h9.1, h9.2⟩⟩
        simp only [n1]
        rw [List.filter_cons, List.filter_cons]
        by_cases s : (decide (a.2 = 0) && sg a.1) = true
        · have n2 : a ≠ (x, 1) := fun h9 => by
            rw [h9] at s
            simp at s
          simp only [s, c, n2, ne_eq, not_false_eq_true, decide_true, Bool.and_self, if_true, List.length_cons]
          simp only [ne_eq] at ih
          omega
        · have s2 : ¬ (decide (a ≠ (x, 0)) && (decide (a ≠ (x, 1)) && (decide (a.2 = 0) && sg a.1))) = true := fun h9 => by
            simp only [Bool.and_eq_true] at h9
            exact s (by simp only [Bool.and_eq_true]; exact h9.2.2)
          rw [if_neg s, if_neg s2]
          exact ih
  rw [e _ hn]
  have e2 : (if (x, 0) ∈ A.flatten ∧ sg x = true then 1 else 0) = (if sg x = true then 1 else 0 : Nat) := by
    by_cases s : sg x = true
    · rw [if_pos ⟨hx, s⟩, if_pos s]
    · rw [if_neg (fun h9 => s h9.2), if_neg s]
  rw [e2]
  congr 2
  congr 1
  funext a
  simp only [Bool.and_assoc, Bool.and_comm, Bool.and_left_comm]
end XCI1
end
section
/-! 99zzzzzzzzzzzzzzzzyza.xchp -/
-- CHAIN: the class's tidy leaves the numbers
section XCI2
variable {A : rn_L} {sg : Nat → Bool} {nm nm' : Nat → Nat} {n c k x y : Nat} {p d b : Int} {r9 : Nat}
theorem cu_any (hp : pr9 p) (hi : iv9 p) (hO : nmO A nm c) (hO' : nmO A nm' c) (hC : cuL9 A sg nm c) : cuL9 A sg nm' c := by
  obtain ⟨E, N, he⟩ := fi_en (Sg_en (k := 0) (d := 0) hC)
  exact (bL_any (k := 0) (d := 0) (r := 0) (b := (N 1 : Int) - rn9 p E N (D9 (fun y => gV9 (nm y, 0)) (fun y => gV9 (prA9 A (nm y, 0))) (fun y => gV9 (prA9 A (nm y, 0))) (relL9 A sg nm c) c) 1 - rn9 p E N (D9 (fun y => gV9 (nm y, 0)) (fun y => gV9 (prA9 A (nm y, 0))) (fun y => gV9 (prA9 A (nm y, 0))) (relL9 A sg nm c) c) 0) hp hi hO hO' hC ⟨E, N, he, by rw [Nat.zero_add]; omega⟩).1
/-- a loop goes -/
theorem td_1 (hp : pr9 p) (hi : iv9 p) (hk : 1 ≤ k) (hb : bdA A) (hO : nmO A nm (n + 1)) (hO' : nmO (wox A x) nm' n) (hC : cuL9 A sg nm (n + 1)) (hC' : cuL9 (wox A x) sg nm' n) (h0 : (x, 0) ∈ A.flatten) (ha : adjA A (x, 0) (x, 1)) (hB : bL9 p A sg nm (n + 1) k d r9 b) : bL9 p (wox A x) sg nm' n (k + (if sg x = true then 1 else 0)) (d + 1 - 3 * (if sg x = true then 1 else 0)) r9 b := by
  have u2 : ∀ p, p ∈ A.flatten → p.2 < 2 := fun p hp => (hb.2.1 p hp).2
  obtain ⟨n1, o1, e1⟩ := nm_last hO h0
  obtain ⟨C1, B1⟩ := bL_any hp hi hO o1 hC hB
  have o2 : nmO (wox A x) n1 n := nmO_wox u2 o1 e1
  have C2 := cu_any hp hi hO' o2 hC'
  obtain ⟨L, r, r', hkk, hw⟩ : ∃ L r r', kkO A L (n1 n) r r' ∧ rmv (rmv A r) r' = wox A x := by
    rw [e1]
    obtain ⟨L, hL, m0, m1, e | e⟩ := ha
    · exact ⟨L, (x, 0), (x, 1), ⟨hL, m0, e, Or.inl ⟨rfl, rfl⟩⟩, rfl⟩
    · exact ⟨L, (x, 1), (x, 0), ⟨hL, m1, e, Or.inr ⟨rfl, rfl⟩⟩, rmv_cm⟩
  have C2' : cuL9 (rmv (rmv A r) r') sg n1 n := by
    rw [hw]
    exact C2
  obtain ⟨f1, f2⟩ := cR1 hp hi hb o1 hkk C1 C2' B1
  rw [e1, hw] at f1 f2
  by_cases s : sg x = true
  · rw [if_pos s, if_pos s]
    have f3 := f2 s hk
    rw [show d + 1 - 3 * 1 = d - 2 by omega]
    exact (bL_any hp hi o2 hO' C2 f3).2
  · rw [if_neg s, if_neg s]
    have f3 := f1 (ff_of s)
    rw [show d + 1 - 3 * 0 = d + 1 by omega]
    exact (bL_any hp hi o2 hO' C2 f3).2
theorem rm4 {a b c e : vT} : rmv (rmv (rmv (rmv A a) b) c) e = rmv (rmv (rmv (rmv A a) c) b) e := by rw [rmv_cm (A := rmv A a) (r := b) (s := c)]
/-- a pair goes -/
theorem td_2 (hp : pr9 p) (hi : iv9 p) (hk : 1 ≤ k) (hb : bdA A) (hO : nmO A nm (n + 2)) (hO' : nmO (wox (wox A x) y) nm' n) (hC : cuL9 A sg nm (n + 2)) (hC' : cuL9 (wox (wox A x) y) sg nm' n) (x0 : (x, 0) ∈ A.flatten) (y0 : (y, 0) ∈ A.flatten) (hne : x ≠ y) (hs : sg x ≠ sg y) (h0 : adjA A (x, 0) (y, 0)) (h1 : adjA A (x, 1) (y, 1)) (hB : bL9 p A sg nm (n + 2) k d r9 b) : bL9 p (wox (wox A x) y) sg nm' n (k + 1) (d - 1) r9 b := by
  have u2 : ∀ p, p ∈ A.flatten → p.2 < 2 := fun p hp => (hb.2.1 p hp).2
  obtain ⟨L0, r0, r0', a1, a2, a3, a4⟩ : ∃ L r r', L ∈ A ∧ r ∈ L ∧ sc L r = r' ∧ ((r = (x, 0) ∧ r' = (y, 0)) ∨ (r = (y, 0) ∧ r' = (x, 0))) := by
    obtain ⟨L, hL, m0, m1, e | e⟩ := h0
    · exact ⟨L, _, _, hL, m0, e, Or.inl ⟨rfl, rfl⟩⟩
    · exact ⟨L, _, _, hL, m1, e, Or.inr ⟨rfl, rfl⟩⟩
  obtain ⟨L1, r1, r1', b1, b2, b3, b4⟩ : ∃ L r r', L ∈ A ∧ r ∈ L ∧ sc L r = r' ∧ ((r = (x, 1) ∧ r' = (y, 1)) ∨ (r = (y, 1) ∧ r' = (x, 1))) := by
    obtain ⟨L, hL, m0, m1, e | e⟩ := h1
    · exact ⟨L, _, _, hL, m0, e, Or.inl ⟨rfl, rfl⟩⟩
    · exact ⟨L, _, _, hL, m1, e, Or.inr ⟨rfl, rfl⟩⟩
  have hw : rmv (rmv (rmv (rmv A r0) r0') r1) r1' = wox (wox A x) y := by
    unfold wox
    rcases a4 with ⟨rfl, rfl⟩ | ⟨rfl, rfl⟩ <;> rcases b4 with ⟨rfl, rfl⟩ | ⟨rfl, rfl⟩
    · exact rm4
    · rw [rmv_cm (A := rmv (rmv A (x, 0)) (y, 0)) (r := (y, 1)) (s := (x, 1))]
      exact rm4
    · rw [rmv_cm (A := A) (r := (y, 0)) (s := (x, 0))]
      exact rm4
    · rw [rmv_cm (A := A) (r := (y, 0)) (s := (x, 0)), rmv_cm (A := rmv (rmv A (x, 0)) (y, 0)) (r := (y, 1)) (s := (x, 1))]
      exact rm4
  -- which is which
  obtain ⟨X, Y, xy, hS⟩ : ∃ X Y, ((X = x ∧ Y = y) ∨ (X = y ∧ Y = x)) ∧ bgS sg X Y r0 r1 := by
    have key : ∀ t : Bool, ∃ X Y, ((X = x ∧ Y = y) ∨ (X = y ∧ Y = x)) ∧ sg X = t ∧ sg Y = !t := fun t => by
      by_cases c1 : sg x = t
      · refine ⟨x, y, Or.inl ⟨rfl, rfl⟩, c1, ?_⟩
        rw [c1] at hs
        revert hs
        cases sg y <;> cases t <;> simp
      · refine ⟨y, x, Or.inr ⟨rfl, rfl⟩, ?_, ?_⟩
        · revert hs c1
          cases sg x <;> cases sg y <;> cases t <;> simp
        · revert c1
          cases sg x <;> cases t <;> simp
    by_cases c1 : r1.1 = r0.1
    · obtain ⟨X, Y, h2, h3, h4⟩ := key false
      exact ⟨X, Y, h2, Or.inl ⟨c1, h3, h4⟩⟩
    · obtain ⟨X, Y, h2, h3, h4⟩ := key true
      exact ⟨X, Y, h2, Or.inr ⟨c1, h3, h4⟩⟩
  have hX : (X, 0) ∈ A.flatten ∧ (Y, 0) ∈ A.flatten ∧ X ≠ Y := by
    rcases xy with ⟨rfl, rfl⟩ | ⟨rfl, rfl⟩
    · exact ⟨x0, y0, hne⟩
    · exact ⟨y0, x0, hne.symm⟩
  have hG : bgO A L0 L1 X Y r0 r0' r1 r1' := by
    refine ⟨⟨a1, a2, a3⟩, ⟨b1, b2, b3⟩, hX.2.2, ?_, ?_⟩
    · rcases xy with ⟨rfl, rfl⟩ | ⟨rfl, rfl⟩
      · exact a4
      · exact a4.symm
    · rcases xy with ⟨rfl, rfl⟩ | ⟨rfl, rfl⟩
      · exact b4
      · exact b4.symm
  obtain ⟨n1, o1, e1, e2⟩ := nm_last2 hO hX.1 hX.2.1 hX.2.2
  obtain ⟨C1, B1⟩ := bL_any hp hi hO o1 hC hB
  have o2 : nmO (wox (wox A x) y) n1 n := by
    have q1 : nmO (wox A Y) n1 (n + 1) := nmO_wox u2 o1 e2
    have q2 : nmO (wox (wox A Y) X) n1 n := nmO_wox (fun p hp => u2 p ((wox_mem u2).mp hp).1) q1 e1
    have q3 : wox (wox A Y) X = wox (wox A x) y := by
      rcases xy with ⟨rfl, rfl⟩ | ⟨rfl, rfl⟩
      · unfold wox
        rw [rm4, rmv_cm (A := A) (r := (Y, 0)) (s := (X, 0)), rmv_cm (A := rmv (rmv A (X, 0)) (Y, 0)) (r := (Y, 1)) (s := (X, 1)), rm4]
      · rfl
    rw [← q3]
    exact q2
  have C2 := cu_any hp hi hO' o2 hC'
  have C2' : cuL9 (rmv (rmv (rmv (rmv A r0) r0') r1) r1') sg n1 n := by
    rw [hw]
    exact C2
  rw [← e1, ← e2] at hG hS
  have f := cR2 hp hi hk hb o1 hG hS C1 C2' B1
  rw [hw] at f
  exact (bL_any hp hi o2 hO' C2 f).2
end XCI2
/-- the numbers of A, told by A' -/
def tdT (p : Int) (sg : Nat → Bool) (A : rn_L) (c : Nat) (A' : rn_L) (c' : Nat) : Prop := ∃ κ, (ng9 A sg = ng9 A' sg + κ ∧ c' + κ ≤ c) ∧ ∀ nm nm', nmO A nm c → nmO A' nm' c' → ∀ (k : Nat) (d : Int) (r : Nat) (b : Int), 1 ≤ k → bL9 p A sg nm c k d r b → bL9 p A' sg nm' c' (k + κ) (d + c - c' - 3 * κ) r b
def tdJ (p : Int) (sg : Nat → Bool) (A0 : rn_L) (c0 : Nat) (T : ow_NT) : Prop := pm1 T ∧ ∃ A f w, isoV A sg f T ∧ gaA A w ∧ bdA A ∧ tdT p sg A0 c0 A T.1
section XCI3
variable {A A0 : rn_L} {sg : Nat → Bool} {f : Nat → Nat} {w : vT → Bool} {nm : Nat → Nat} {p : Int} {c0 : Nat} {T : ow_NT}
theorem nmT_ex (h : isoV A sg f T) : ∃ nm, nmT A f nm T.1 := ⟨fun y => @dite _ (y < T.1) (Classical.propDecidable _) (fun hy => (nm_of h hy).choose) (fun _ => 0), fun y hy => by
  dsimp only
  rw [dif_pos hy]
  exact ⟨(nm_of h hy).choose_spec.1, (nm_of h hy).choose_spec.2.1⟩⟩
theorem cuA (hp : pr9 p) (hi : iv9 p) (h : isoV A sg f T) (hT : pm1 T) (hw : gaA A w) (hb : bdA A) (hO : nmO A nm T.1) : cuL9 A sg nm T.1 := by
  obtain ⟨n1, hn⟩ := nmT_ex h
  refine cu_any hp hi (nm_O h hn) hO (cuL h (fun x hx => ?_) hw hn hb.2.2)
  rcases hT x hx with e | e <;> rw [e] <;> decide
theorem wox_bd {x : Nat} (hb : bdA A) : bdA (wox A x) := rm_bd hb
theorem tdJ_1 {x : Nat} (hp : pr9 p) (hi : iv9 p) (h : tdJ p sg A0 c0 T) (hx : x < T.1) (e : mv_bs T.2.2.1.1 (2 * x) (2 * x + 1) = true) : tdJ p sg A0 c0 (nt_rm T x) := by
  obtain ⟨hT, A, f, w, h3, h4, h5, κ, k1, k2⟩ := h
  obtain ⟨x0, rfl, m0, m1⟩ := nm_of h3 hx
  obtain ⟨f', i1, -⟩ := iso_rm h3 m0
  have ad := bs_adj h3 m0 m1 e
  have g2 := gaA_1 h3.1.1.1 h4 ad
  have hT2 := pm1_rm hT hx
  have hb2 : bdA (wox A x0) := wox_bd h5
  refine ⟨hT2, wox A x0, f', w, i1, g2, hb2, κ + (if sg x0 = true then 1 else 0), ⟨?_, ?_⟩, fun nm nm' o1 o2 k d r b hk hB => ?_⟩
  · rw [k1.1, ng_wox h3.1.1.1 m0]
    omega
  · have := k1.2
    show T.1 - 1 + _ ≤ _
    split <;> omega
  · obtain ⟨n1, hn⟩ := nmT_ex h3
    have o3 := nm_O h3 hn
    have B2 := k2 nm n1 o1 o3 k d r b hk hB
    have C3 := cuA hp hi h3 hT h4 h5 o3
    have C4 := cuA hp hi i1 hT2 g2 hb2 o2
    have hc : T.1 = (T.1 - 1) + 1 := by omega
    have hc2 : (nt_rm T (f x0)).1 = T.1 - 1 := rfl
    rw [hc2] at o2 C4 ⊢
    rw [hc] at o3 C3 B2
    have R := td_1 hp hi (by omega) h5 o3 o2 C3 C4 m0 ad B2
    rw [Nat.add_assoc] at R
    have e2 : d + (c0 : Int) - ((T.1 - 1 + 1 : Nat) : Int) - 3 * (κ : Int) + 1 - 3 * (if sg x0 = true then 1 else 0) = d + c0 - ((T.1 - 1 : Nat) : Int) - 3 * ((κ + (if sg x0 = true then 1 else 0) : Nat) : Int) := by
      split <;> omega
    rw [e2] at R
    exact R
theorem tdJ_2 {x y : Nat} (hp : pr9 p) (hi : iv9 p) (h : tdJ p sg A0 c0 T) (hx : x < T.1) (hy : y < x) (e : mv_pair T.2.2.1.1 T.2.2.2 x y = true) : tdJ p sg A0 c0 (nt_rm (nt_rm T x) y) := by
  obtain ⟨hT, A, f, w, h3, h4, h5, κ, k1, k2⟩ := h
  obtain ⟨x0, rfl, m0, m1⟩ := nm_of h3 hx
  obtain ⟨y0, rfl, n0, n1⟩ := nm_of h3 (show y < T.1 by omega)
  have hne : x0 ≠ y0 := fun h9 => by
    rw [h9] at hy
    omega
  unfold mv_pair at e
  obtain ⟨e1, e2⟩ := Bool.and_eq_true_iff.mp e
  obtain ⟨e0, e1⟩ := Bool.and_eq_true_iff.mp e1
  have hu := fun (p : vT) (hp : p ∈ A.flatten) => (h3.1.1.2 p hp).2.1
  have hs : sg x0 ≠ sg y0 := fun h9 => by
    have e0 := of_decide_eq_true e0
    have a := h3.1.2.2.2.2.2.2.1 _ m0
    have a2 := h3.1.2.2.2.2.2.2.1 _ n0
    simp only [] at a a2
    rw [← h9] at a2
    rcases hT _ hx with q | q <;> rcases hT (f y0) (by omega) with q2 | q2
    · exact e0 (q.trans q2.symm)
    · rw [q] at a
      rw [q2] at a2
      exact absurd (a.mpr (a2.mp (by decide))) (by decide)
    · rw [q] at a
      rw [q2] at a2
      exact absurd (a2.mpr (a.mp (by decide))) (by decide)
    · exact e0 (q.trans q2.symm)
  obtain ⟨f', i1, i2⟩ := iso_rm h3 m0
  have i3 := i2 y0
  rw [if_neg (by omega)] at i3
  have n2 : (y0, 0) ∈ (wox A x0).flatten := (wox_mem hu).mpr ⟨n0, fun h9 => hne h9.symm⟩
  obtain ⟨f2, j1, -⟩ := iso_rm i1 n2
  rw [i3] at j1
  have hx1 : (nt_rm T (f x0)).1 = T.1 - 1 := rfl
  have ad0 := bs_adj h3 m0 n0 e1
  have ad1 := bs_adj h3 m1 n1 e2
  have g2 := gaA_2 h3.1.1.1 h4 hne ad0 ad1
  have hT2 : pm1 (nt_rm (nt_rm T (f x0)) (f y0)) := pm1_rm (pm1_rm hT hx) (by omega)
  have hb2 : bdA (wox (wox A x0) y0) := wox_bd (wox_bd h5)
  refine ⟨hT2, wox (wox A x0) y0, f2, w, j1, g2, hb2, κ + 1, ⟨?_, ?_⟩, fun nm nm' o1 o2 k d r b hk hB => ?_⟩
  · have u1 := ng_wox (sg := sg) h3.1.1.1 m0
    have u2 := ng_wox (sg := sg) (wox_bd h5).1 n2
    rw [k1.1, u1, u2]
    have : (if sg x0 = true then 1 else 0) + (if sg y0 = true then 1 else 0) = 1 := by
      revert hs
      cases sg x0 <;> cases sg y0 <;> simp
    omega
  · have := k1.2
    show T.1 - 1 - 1 + _ ≤ _
    omega
  · obtain ⟨n3, hn⟩ := nmT_ex h3
    have o3 := nm_O h3 hn
    have B2 := k2 nm n3 o1 o3 k d r b hk hB
    have C3 := cuA hp hi h3 hT h4 h5 o3
    have C4 := cuA hp hi j1 hT2 g2 hb2 o2
    have hc : T.1 = (T.1 - 2) + 2 := by omega
    have hc2 : (nt_rm (nt_rm T (f x0)) (f y0)).1 = T.1 - 2 := rfl
    rw [hc2] at o2 C4 ⊢
    rw [hc] at o3 C3 B2
    have R := td_2 hp hi (by omega) h5 o3 o2 C3 C4 m0 n0 hne hs ad0 ad1 B2
    rw [Nat.add_assoc] at R
    have e3 : d + (c0 : Int) - ((T.1 - 2 + 2 : Nat) : Int) - 3 * (κ : Int) - 1 = d + c0 - ((T.1 - 2 : Nat) : Int) - 3 * ((κ + 1 : Nat) : Int) := by omega
    rw [e3] at R
    exact R
theorem tdJ_0 (hT : pm1 T) (h : isoV A sg f T) (hw : gaA A w) (hb : bdA A) (hp : pr9 p) (hi : iv9 p) : tdJ p sg A T.1 T := by
  refine ⟨hT, A, f, w, h, hw, hb, 0, ⟨rfl, Nat.le_refl _⟩, fun nm nm' o1 o2 k d r b hk hB => ?_⟩
  have R := (bL_any hp hi o1 o2 (cuA hp hi h hT hw hb o1) hB).2
  rw [Nat.add_zero, show d + (T.1 : Int) - T.1 - 3 * ((0 : Nat) : Int) = d by omega]
  exact R
end XCI3
section XCI4
variable {vl : Nat → Nat} {y : ow_MS} {T : ow_NT} {J : ow_NT → Prop}
theorem te_tidyOnce (h1 : ∀ T x, J T → tyI T → x < T.1 → mv_bs T.2.2.1.1 (2 * x) (2 * x + 1) = true → J (nt_rm T x)) (h2 : ∀ T x u, J T → tyI T → x < T.1 → u < x → mv_pair T.2.2.1.1 T.2.2.2 x u = true → J (nt_rm (nt_rm T x) u)) (hy : cAt y 44000 T) (hT : tyI T) (hJ : J T) : Te (fun K => ce_X1_tidyOnce vl K 43000 y) (fun r => (∃ T', cAt r.2 44000 T' ∧ tyI T' ∧ J T') ∧ fr (cP 44000) y r.2) := by
  let Q : Int32 × ow_MS → Prop := fun r => (∃ T', cAt r.2 44000 T' ∧ tyI T' ∧ J T') ∧ fr (cP 44000) y r.2
  have hb := hT.1.2.2.1
  have h12 := hT.1.2.1
  have c1 : ∀ (d x : Nat), x + d = T.1 → Tt (fun K k => c_X1_tidyOnce vl K k 1 (nI x) 0 43000 y) Q := by
    intro d
    induction d with
    | zero =>
      intro x hx
      refine u_X1_tidyOnce_1 ?_; unfold cm_X1_tidyOnce_1
      exact w_rdF hy.1 (w_leT (by omega) (by omega) (w_okZ (Or.inl rfl) (w_some ⟨⟨T, hy, hT, hJ⟩, fr_rf⟩)))
    | succ d ih =>
      intro x hx
      have c2 : ∀ (d2 u : Nat), u + d2 = x → Tt (fun K k => c_X1_tidyOnce vl K k 2 (nI x) (nI u) 43000 y) Q := by
        intro d2
        induction d2 with
        | zero =>
          intro u hu
          refine u_X1_tidyOnce_2 ?_; unfold cm_X1_tidyOnce_2
          refine w_leT (by omega) (by omega) ?_
          rw [nI_1]
          exact ih (x + 1) (by omega)
        | succ d2 ih2 =>
          intro u hu
          refine u_X1_tidyOnce_2 ?_; unfold cm_X1_tidyOnce_2
          refine w_leF (by omega) (by omega) (w_cs1 (tc_isPair nH44 hy hb (by omega) (by omega)) ?_)
          rintro a z1 ⟨r1, r2⟩
          dsimp only at r1 r2
          subst r2
          rw [r1]
          cases e : mv_pair T.2.2.1.1 T.2.2.2 x u with
          | false =>
            refine w_ifT rfl ?_
            rw [nI_1]
            exact ih2 (u + 1) (by omega)
          | true =>
            refine w_ifF (by decide) (w_cs0 (tc_removeCrossing nH44 hy hb (by omega) h12) ?_)
            rintro z2 ⟨q1, q2⟩
            have hx1 : (nt_rm T x).1 = T.1 - 1 := rfl
            have hv1 := nv_rm hT.1 (show x < T.1 by omega)
            refine w_cs0 (tc_removeCrossing nH44 q1 hv1.2.2.1 (by omega) hv1.2.1) ?_
            rintro z3 ⟨q3, q4⟩
            exact w_okZ (Or.inr rfl) (w_some ⟨⟨_, q3, tyI_2 hT (by omega) (by omega) e, h2 T x u hJ hT (by omega) (by omega) e⟩, fr_tr q2 q4⟩)
      refine u_X1_tidyOnce_1 ?_; unfold cm_X1_tidyOnce_1
      refine w_rdF hy.1 (w_leF (by omega) (by omega) (w_cs1 (tc_isLoop nH44 hy hb (by omega)) ?_))
      rintro a z1 ⟨r1, r2⟩
      dsimp only at r1 r2
      subst r2
      rw [r1]
      cases e : mv_bs T.2.2.1.1 (2 * x) (2 * x + 1) with
      | false => exact w_ifT rfl (c2 x 0 (by omega))
      | true =>
        refine w_ifF (by decide) (w_cs0 (tc_removeCrossing nH44 hy hb (by omega) h12) ?_)
        rintro z2 ⟨q1, q2⟩
        exact w_okZ (Or.inr rfl) (w_some ⟨⟨_, q1, tyI_1 hT (by omega) e, h1 T x hJ hT (by omega) e⟩, q2⟩)
  refine e_X1_tidyOnce ?_
  refine u_X1_tidyOnce_0 ?_; unfold cm_X1_tidyOnce_0
  exact c1 T.1 0 (by omega)
theorem te_tidy (h1 : ∀ T x, J T → tyI T → x < T.1 → mv_bs T.2.2.1.1 (2 * x) (2 * x + 1) = true → J (nt_rm T x)) (h2 : ∀ T x u, J T → tyI T → x < T.1 → u < x → mv_pair T.2.2.1.1 T.2.2.2 x u = true → J (nt_rm (nt_rm T x) u)) (hy : cAt y 44000 T) (hT : tyI T) (hJ : J T) : Te (fun K => ce_X1_tidy vl K 43000 y) (fun y1 => (∃ T', cAt y1 44000 T' ∧ tyI T' ∧ J T') ∧ fr (cP 44000) y y1) := by
  let Q : ow_MS → Prop := fun y1 => (∃ T', cAt y1 44000 T' ∧ tyI T' ∧ J T') ∧ fr (cP 44000) y y1
  have c1 : ∀ (d i : Nat) (x1 : Int32) (z : ow_MS), i + d = 9 → Q z → Tt (fun K k => c_X1_tidy vl K k 1 x1 (nI i) 43000 z) Q := by
    intro d
    induction d with
    | zero =>
      intro i x1 z hi hz
      refine u_X1_tidy_1 ?_; unfold cm_X1_tidy_1
      exact w_ltT (a := 8) (b := i) (by omega) (by omega) (w_some hz)
    | succ d ih =>
      intro i x1 z hi hz
      refine u_X1_tidy_1 ?_; unfold cm_X1_tidy_1
      refine w_ltF (a := 8) (b := i) (by omega) (by omega) (w_if (fun _ => w_some hz) (fun _ => ?_))
      obtain ⟨⟨T1, t1, t2, t4⟩, t3⟩ := hz
      refine w_cs1 (te_tidyOnce h1 h2 t1 t2 t4) ?_
      rintro a z1 ⟨q1, q2⟩
      rw [nI_1]
      exact ih (i + 1) _ z1 (by omega) ⟨q1, fr_tr t3 q2⟩
  refine e_X1_tidy ?_
  refine u_X1_tidy_0 ?_; unfold cm_X1_tidy_0
  exact c1 9 0 _ y (by omega) ⟨⟨T, hy, hT, hJ⟩, fr_rf⟩
end XCI4
end
section
/-! 99zzzzzzzzzzzzzzzzyzb.xchq -/
-- CHAIN: elimination row by row
/-- rows by the column where they begin; a row of 0 where none is kept -/
def ech9 (p : Int) (W : Nat) (d : Nat → vc9) : Prop := ∀ k, k < W → (∀ j, j < k → p ∣ d k j) ∧ ((∀ j, j < W → p ∣ d k j) ∨ ¬ p ∣ d k k)
section XCI5
variable {p : Int} {W n i : Nat} {d M : Nat → vc9} {u v w : vc9}
theorem ap_at (hd : ech9 p W d) {a : vc9} {k : Nat} (hk : k < W) (ha : ∀ j, j < k → p ∣ a j) : ∀ {n : Nat}, n ≤ W → p ∣ ap9 d n a k - (if k < n then a k * d k k else 0)
  | 0, _ => by
    rw [if_neg (by omega)]
    show p ∣ (0 : Int) - 0
    exact Int.dvd_zero p
  | n + 1, hn => by
    have ih := ap_at (a := a) hd hk ha (n := n) (by omega)
    show p ∣ ap9 d n a k + a n * d n k - _
    rcases Nat.lt_trichotomy k n with c | c | c
    · rw [if_pos c] at ih
      rw [if_pos (by omega)]
      have h9 := dvr9 (a n) ((hd n (by omega)).1 k c)
      rw [show ap9 d n a k + a n * d n k - a k * d k k = (ap9 d n a k - a k * d k k) + a n * d n k by omega]
      exact Int.dvd_add ih h9
    · rw [if_neg (by omega)] at ih
      rw [if_pos (by omega), ← c]
      rw [← c] at ih
      rw [show ap9 d k a k + a k * d k k - a k * d k k = ap9 d k a k - 0 by omega]
      exact ih
    · rw [if_neg (by omega)] at ih
      rw [if_neg (by omega)]
      have h9 := dvl9 (d n k) (ha n c)
      rw [show ap9 d n a k + a n * d n k - 0 = (ap9 d n a k - 0) + a n * d n k by omega]
      exact Int.dvd_add ih h9
/-- what lies in the span begins where a row begins -/
theorem el_in (hp : pr9 p) (hd : ech9 p W d) (hu : sp9 p W (rwl9 d W) u) {k : Nat} (hk : k < W) (h0 : ∀ j, j < k → p ∣ u j) (hz : ∀ j, j < W → p ∣ d k j) : p ∣ u k := by
  obtain ⟨a, ha⟩ := sp_ap.mp hu
  -- all numbers before k are 0 or stand at empty rows
  have key : ∀ m, m ≤ k → ∃ a', zq9 p W u (ap9 d W a') ∧ ∀ j, j < m → p ∣ a' j := by
    intro m
    induction m with
    | zero => exact fun _ => ⟨a, ha, fun j hj => absurd hj (Nat.not_lt_zero _)⟩
    | succ m ih =>
      intro hm
      obtain ⟨a', h1, h2⟩ := ih (by omega)
      have e := ap_at (a := a') hd (show m < W by omega) h2 (Nat.le_refl W)
      rw [if_pos (by omega)] at e
      have e2 := h1 m (by omega)
      have e3 : p ∣ a' m * d m m := by
        have := Int.dvd_sub (h0 m (by omega)) (Int.dvd_add e2 e)
        rw [show u m - (u m - ap9 d W a' m + (ap9 d W a' m - a' m * d m m)) = a' m * d m m by omega] at this
        exact this
      rcases (hd m (by omega)).2 with c | c
      · refine ⟨fun j => if j = m then 0 else a' j, zq_t h1 ?_, fun j hj => ?_⟩
        · have q : ∀ n, ∀ j, j < W → p ∣ ap9 d n a' j - ap9 d n (fun j => if j = m then 0 else a' j) j := by
            intro n
            induction n with
            | zero => exact fun j _ => by show p ∣ (0 : Int) - 0; exact Int.dvd_zero p
            | succ n ih2 =>
              intro j hj
              show p ∣ (ap9 d n a' j + a' n * d n j) - (ap9 d n (fun j => if j = m then 0 else a' j) j + (if n = m then 0 else a' n) * d n j)
              have i2 := ih2 j hj
              by_cases cn : n = m
              · rw [if_pos cn, Int.zero_mul, Int.add_zero]
                have i3 := dvr9 (a' n) (c j hj)
                rw [cn] at i3 i2 ⊢
                rw [show ap9 d m a' j + a' m * d m j - ap9 d m (fun j => if j = m then 0 else a' j) j = (ap9 d m a' j - ap9 d m (fun j => if j = m then 0 else a' j) j) + a' m * d m j by omega]
                exact Int.dvd_add i2 i3
              · rw [if_neg cn]
                rw [show ap9 d n a' j + a' n * d n j - (ap9 d n (fun j => if j = m then 0 else a' j) j + a' n * d n j) = ap9 d n a' j - ap9 d n (fun j => if j = m then 0 else a' j) j by omega]
                exact i2
          exact fun j hj => q W j hj
        · show p ∣ if j = m then 0 else a' j
          by_cases cj : j = m
          · rw [if_pos cj]
            exact Int.dvd_zero p
          · rw [if_neg cj]
            exact h2 j (by omega)
      · refine ⟨a', h1, fun j hj => ?_⟩
        rcases Nat.lt_or_ge j m with c1 | c1
        · exact h2 j c1
        · rw [show j = m by omega]
          exact (hp.2 _ _ e3).elim id (fun h9 => absurd h9 c)
  obtain ⟨a', h1, h2⟩ := key k (Nat.le_refl k)
  have e := ap_at (a := a') hd hk h2 (Nat.le_refl W)
  rw [if_pos hk] at e
  have e2 := h1 k hk
  have e3 := dvr9 (a' k) (hz k hk)
  have := Int.dvd_add (Int.dvd_add e2 e) e3
  rw [show u k - ap9 d W a' k + (ap9 d W a' k - a' k * d k k) + a' k * d k k = u k by omega] at this
  exact this
/-- after i rows of M the kept rows d -/
def El9 (p : Int) (W : Nat) (M : Nat → vc9) (i : Nat) (d : Nat → vc9) : Prop := ech9 p W d ∧ ∀ v, sp9 p W (rwl9 M i) v ↔ sp9 p W (rwl9 d W) v
theorem rwl_in : ∀ {n k : Nat}, k < n → d k ∈ rwl9 d n
  | 0, k, h => absurd h (Nat.not_lt_zero _)
  | n + 1, k, h => by
    rcases Nat.lt_or_ge k n with c | c
    · exact List.mem_cons_of_mem _ (rwl_in c)
    · rw [show k = n by omega]
      exact List.mem_cons_self
theorem rwl_mem : ∀ {n : Nat}, u ∈ rwl9 d n → ∃ k, k < n ∧ u = d k
  | 0, h => absurd h List.not_mem_nil
  | n + 1, h => by
    rcases List.mem_cons.mp h with e | e
    · exact ⟨n, by omega, e⟩
    · obtain ⟨k, k1, k2⟩ := rwl_mem e
      exact ⟨k, by omega, k2⟩
theorem El_0 : El9 p W M 0 (fun _ _ => 0) := by
  refine ⟨fun k _ => ⟨fun j _ => Int.dvd_zero p, Or.inl (fun j _ => Int.dvd_zero p)⟩, fun v => ?_⟩
  constructor
  · intro h
    exact sp_tr h (fun u hu => absurd hu List.not_mem_nil)
  · intro h
    refine sp_tr h (fun u hu => ?_)
    obtain ⟨k, -, e⟩ := rwl_mem hu
    rw [e]
    exact sp_0
/-- nothing new -/
theorem El_n (h : El9 p W M i d) (hv : sp9 p W (rwl9 d W) (M i)) : El9 p W M (i + 1) d ∧ rk9 p W (rwl9 M (i + 1)) = rk9 p W (rwl9 M i) := by
  have hv' := (h.2 _).mpr hv
  refine ⟨⟨h.1, fun v => ?_⟩, rk_y hv'⟩
  rw [← h.2 v]
  constructor
  · intro h9
    refine sp_tr h9 (fun u hu => ?_)
    rcases List.mem_cons.mp hu with e | e
    · rw [e]
      exact hv'
    · exact sp_in e
  · exact sp_c
/-- a new row -/
theorem El_y (hp : pr9 p) (h : El9 p W M i d) {k : Nat} {t t' : Int} (hk : k < W) (hz : ∀ j, j < W → p ∣ d k j) (hv : sp9 p W (rwl9 d W) (fun j => M i j - w j)) (h0 : ∀ j, j < k → p ∣ w j) (hn : ¬ p ∣ w k) (ht : p ∣ t * t' - 1) (hu : zq9 p W u (fun j => t * w j)) : El9 p W M (i + 1) (fun j => if j = k then u else d j) ∧ rk9 p W (rwl9 M (i + 1)) = rk9 p W (rwl9 M i) + 1 := by
  have tn : ¬ p ∣ t := fun h9 => by
    have := Int.dvd_sub (dvl9 t' h9) ht
    rw [show t * t' - (t * t' - 1) = 1 by omega] at this
    have := Int.le_of_dvd (by omega) this
    have := hp.1
    omega
  have nin : ¬ sp9 p W (rwl9 M i) (M i) := fun h9 => by
    have h8 := (h.2 _).mp h9
    have h7 : sp9 p W (rwl9 d W) w := by
      have := sp_a h8 (sp_m (-1) hv)
      refine sp_q (fun j _ => ?_) this
      rw [show w j - (M i j + -1 * (M i j - w j)) = 0 by omega]
      exact Int.dvd_zero p
    exact hn (el_in hp h.1 h7 hk h0 hz)
  refine ⟨⟨fun j hj => ?_, fun v => ?_⟩, rk_n nin⟩
  · dsimp only
    by_cases c : j = k
    · rw [if_pos c]
      refine ⟨fun m hm => ?_, Or.inr ?_⟩
      · have := hu m (by omega)
        have h9 := dvr9 t (h0 m (by omega))
        have := Int.dvd_add this h9
        rw [show u m - t * w m + t * w m = u m by omega] at this
        exact this
      · rw [c]
        intro h9
        have := Int.dvd_sub h9 (hu k hk)
        rw [show u k - (u k - t * w k) = t * w k by omega] at this
        exact (hp.2 _ _ this).elim tn hn
    · rw [if_neg c]
      exact h.1 j hj
  · have ku : sp9 p W (rwl9 (fun j => if j = k then u else d j) W) u := sp_in (by
      have := rwl_in (d := fun j => if j = k then u else d j) hk
      rw [if_pos rfl] at this
      exact this)
    have kd : ∀ x, sp9 p W (rwl9 d W) x → sp9 p W (rwl9 (fun j => if j = k then u else d j) W) x := fun x hx => sp_tr hx (fun y hy => by
      obtain ⟨j, j1, e⟩ := rwl_mem hy
      by_cases c : j = k
      · rw [e, c]
        exact sp_q (fun m hm => by rw [Int.sub_zero]; exact hz m hm) sp_0
      · have := rwl_in (d := fun j => if j = k then u else d j) j1
        rw [if_neg c] at this
        rw [e]
        exact sp_in this)
    have kw : sp9 p W (rwl9 (fun j => if j = k then u else d j) W) w := by
      refine sp_q (fun j hj => ?_) (sp_m t' ku)
      have a := dvr9 t' (hu j hj)
      have b := dvl9 (w j) ht
      have := Int.dvd_add a b
      have e : t' * (u j - t * w j) + (t * t' - 1) * w j = -(w j - t' * u j) := by
        rw [Int.mul_sub, Int.sub_mul, Int.one_mul, show t' * (t * w j) = t * t' * w j by rw [← Int.mul_assoc, Int.mul_comm t' t]]
        omega
      rw [e] at this
      exact (Int.dvd_neg).mp this
    constructor
    · intro h9
      refine sp_tr h9 (fun y hy => ?_)
      rcases List.mem_cons.mp hy with e | e
      · rw [e]
        have := sp_a (kd _ hv) kw
        refine sp_q (fun j _ => ?_) this
        rw [show M i j - (M i j - w j + w j) = 0 by omega]
        exact Int.dvd_zero p
      · exact kd y ((h.2 y).mp (sp_in e))
    · intro h9
      refine sp_tr h9 (fun y hy => ?_)
      obtain ⟨j, j1, e⟩ := rwl_mem hy
      by_cases c : j = k
      · rw [if_pos c] at e
        rw [e]
        have h8 : sp9 p W (rwl9 M (i + 1)) w := by
          have a : sp9 p W (rwl9 M (i + 1)) (M i) := sp_in List.mem_cons_self
          have b : sp9 p W (rwl9 M (i + 1)) (fun j => M i j - w j) := sp_c ((h.2 _).mpr hv)
          refine sp_q (fun j _ => ?_) (sp_a a (sp_m (-1) b))
          rw [show w j - (M i j + -1 * (M i j - w j)) = 0 by omega]
          exact Int.dvd_zero p
        exact sp_q hu (sp_m t h8)
      · rw [if_neg c] at e
        rw [e]
        exact sp_c ((h.2 _).mpr (sp_in (rwl_in j1)))
/-- rows that need not be looked at -/
theorem rk_cl (hp : pr9 p) (hi : iv9 p) {n : Nat} {M' : Nat → vc9} (cl : Nat → Prop) (h1 : ∀ i, i < n → ¬ cl i → M' i = M i) (h2 : ∀ i, i < n → cl i → M' i = fun _ => 0) (h3 : ∀ i, i < n → cl i → ∃ a : vc9, zq9 p W (M i) (fun j => sN9 (fun k => if i < k then a k * M k j else 0) n)) : rk9 p W (rwl9 M' n) = rk9 p W (rwl9 M n) := by
  refine rk_sp hp hi (fun v hv => ?_) (fun v hv => ?_)
  · obtain ⟨k, k1, e⟩ := rwl_mem hv
    by_cases c : cl k
    · rw [e, h2 k k1 c]
      exact sp_0
    · rw [e, h1 k k1 c]
      exact sp_in (rwl_in k1)
  · obtain ⟨k, k1, e⟩ := rwl_mem hv
    rw [e]
    have key : ∀ e, ∀ k, k + e = n → 0 < e → sp9 p W (rwl9 M' n) (M k) := by
      intro e
      induction e using Nat.strongRecOn with
      | ind e ih =>
        intro k hk h0
        by_cases c : cl k
        · obtain ⟨a, ha⟩ := h3 k (by omega) c
          refine sp_q ha ?_
          have q : ∀ m, m ≤ n → sp9 p W (rwl9 M' n) (fun j => sN9 (fun x => if k < x then a x * M x j else 0) m) := by
            intro m
            induction m with
            | zero => exact fun _ => sp_0
            | succ m ih2 =>
              intro hm
              have s1 := ih2 (by omega)
              by_cases cm : k < m
              · have s2 := sp_m (a m) (ih (n - m) (by omega) m (by omega) (by omega))
                refine sp_q (fun j _ => ?_) (sp_a s1 s2)
                show p ∣ sN9 (fun x => if k < x then a x * M x j else 0) m + (if k < m then a m * M m j else 0) - _
                rw [if_pos cm, Int.sub_self]
                exact Int.dvd_zero p
              · refine sp_q (fun j _ => ?_) s1
                show p ∣ sN9 (fun x => if k < x then a x * M x j else 0) m + (if k < m then a m * M m j else 0) - _
                rw [if_neg cm, Int.add_zero, Int.sub_self]
                exact Int.dvd_zero p
          exact q n (Nat.le_refl n)
        · rw [← h1 k (by omega) c]
          exact sp_in (rwl_in (by omega))
    exact key (n - k) k (by omega) (by omega)
end XCI5
end
section
/-! 99zzzzzzzzzzzzzzzzyzc.xchr -/
-- CHAIN: the generators in their order
/-- loops by number -/
def LT9 (c : Nat) (G : Nat → Prop) (rel : (Nat → Bool) → Nat → Nat → Prop) (Ls : Nat → Nat → Nat) (ns : Nat → Nat) : Prop := ∀ s, s < 2 ^ c → (∀ g, G g → Ls s g < ns s) ∧ (∀ l, l < ns s → ∃ g, G g ∧ Ls s g = l) ∧ (∀ g g', G g → G g' → (Ls s g = Ls s g' ↔ rel (tb s) g g')) ∧ ns s ≤ 20
noncomputable def ge9 (G : Nat → Prop) (Ls : Nat → Nat → Nat) (s m : Nat) : gn9 := (tb s, fun g => dcb (G g) && decide (btN m (Ls s g) = 0))
def va9 (c : Nat) (ns : Nat → Nat) (dg : Int) (h s m : Nat) : Prop := s < 2 ^ c ∧ pc s = h ∧ m < 2 ^ ns s ∧ kpF (ns s) (pc s) dg = some (pc m)
def ix9 (ns : Nat → Nat) (dg : Int) (s m : Nat) : Nat := smH (bkF ns dg) (pc s) 0 s + cpN (pc m) m
def sz9 (c : Nat) (ns : Nat → Nat) (dg : Int) (h : Nat) : Nat := smH (bkF ns dg) h 0 (2 ^ c)
section XCI6
variable {c V k r : Nat} {G : Nat → Prop} {P1 P2 P3 : Nat → Nat} {rel : (Nat → Bool) → Nat → Nat → Prop} {Ls : Nat → Nat → Nat} {ns : Nat → Nat} {dg : Int} {s m : Nat}
theorem tb_b (m y : Nat) : tb m y = decide (btN m y = 1) := rfl
theorem bt_01 (m y : Nat) : btN m y = 0 ∨ btN m y = 1 := by
  unfold btN
  omega
theorem nb_ex : ∀ (n : Nat) (b : Nat → Bool), (∀ y, n ≤ y → b y = false) → ∃ m, m < 2 ^ n ∧ ∀ y, tb m y = b y
  | 0, b, h => ⟨0, by decide, fun y => by
    rw [h y (Nat.zero_le y)]
    unfold tb
    rw [Nat.zero_div]
    rfl⟩
  | n + 1, b, h => by
    obtain ⟨m, m1, m2⟩ := nb_ex n (off9 b n) (fun y hy => by
      by_cases c : y = n
      · rw [c]
        exact off_x
      · rw [off_o c]
        exact h y (by omega))
    have pw : (2 : Nat) ^ (n + 1) = 2 ^ n + 2 ^ n := by
      rw [Nat.pow_succ]
      omega
    by_cases cb : b n = true
    · refine ⟨m + 2 ^ n, by omega, fun y => ?_⟩
      rw [tb_b, bt_add m1]
      by_cases c : y = n
      · rw [if_pos c, c, cb]
        rfl
      · rw [if_neg c, ← tb_b, m2, off_o c]
    · refine ⟨m, by omega, fun y => ?_⟩
      rw [m2, off_f (ff_of cb)]
theorem tb_in : ∀ (n : Nat) {m m' : Nat}, m < 2 ^ n → m' < 2 ^ n → (∀ y, y < n → tb m y = tb m' y) → m = m'
  | 0, m, m', h, h', _ => by
    have : (2 : Nat) ^ 0 = 1 := rfl
    omega
  | n + 1, m, m', h, h', e => by
    have pw : (2 : Nat) ^ (n + 1) = 2 * 2 ^ n := by
      rw [Nat.pow_succ]
      omega
    have sh : ∀ m y, tb (m / 2) y = tb m (y + 1) := fun m y => by
      unfold tb
      rw [Nat.div_div_eq_div_mul, Nat.pow_succ, Nat.mul_comm 2]
    have q := tb_in n (m := m / 2) (m' := m' / 2) (by omega) (by omega) (fun y hy => by rw [sh, sh]; exact e (y + 1) (by omega))
    have e0 := e 0 (by omega)
    unfold tb at e0
    rw [Nat.pow_zero, Nat.div_one, Nat.div_one] at e0
    have e1 := decide_eq_decide.mp e0
    omega
theorem tb_hi {n y : Nat} (h : m < 2 ^ n) (hy : n ≤ y) : tb m y = false := by
  rw [tb_b, bt_lt h hy]
  rfl
theorem ons_sb : ∀ n, ons9 (tb m) n = sbt m n
  | 0 => rfl
  | n + 1 => by
    show ons9 (tb m) n + (if tb m n = true then 1 else 0) = sbt m n + btN m n
    rw [ons_sb n, tb_b]
    rcases bt_01 m n with e | e <;> rw [e] <;> rfl
theorem ons_pc (hs : s < 2 ^ c) (hc : c ≤ 32) : ons9 (tb s) c = pc s := by rw [ons_sb, pc_sbt hc hs]
theorem cn_all : ∀ n, cn9 (fun _ => True) n = n
  | 0 => rfl
  | n + 1 => by rw [cn_y trivial, cn_all n]
theorem cn_bt : ∀ n, cn9 (fun l => btN m l = 0) n + sbt m n = n
  | 0 => rfl
  | n + 1 => by
    have ih := cn_bt n
    show cn9 (fun l => btN m l = 0) (n + 1) + (sbt m n + btN m n) = n + 1
    rcases bt_01 m n with e | e
    · rw [cn_y (P := fun l => btN m l = 0) e]
      omega
    · rw [cn_n (P := fun l => btN m l = 0) (by rw [e]; omega)]
      omega
theorem cls_Eq {n : Nat} {Q : Nat → Prop} : cls9 (fun a b => a = b) (fun l => l < n) n Q = cn9 Q n := cn_cg (fun l hl => ⟨fun h => h.2, fun h => ⟨⟨hl, fun h' h1 _ h2 => by omega⟩, h⟩⟩)
theorem cls_lp (hC : cu9 c V G P1 P2 P3 rel) (hL : LT9 c G rel Ls ns) (hs : s < 2 ^ c) {Q Q' : Nat → Prop} (hQ : ∀ g h, rel (tb s) g h → (Q g ↔ Q h)) (hq : ∀ g, G g → (Q' (Ls s g) ↔ Q g)) : cls9 (rel (tb s)) G V Q = cn9 Q' (ns s) := by
  obtain ⟨l1, l2, l3, -⟩ := hL s hs
  obtain ⟨φ, hφ⟩ : ∃ φ : Nat → Nat, ∀ l, l < ns s → G (φ l) ∧ Ls s (φ l) = l := ⟨fun l => @dite _ (l < ns s) (Classical.propDecidable _) (fun h => (l2 l h).choose) (fun _ => 0), fun l hl => by
    dsimp only
    rw [dif_pos hl]
    exact (l2 l hl).choose_spec⟩
  rw [← cls_Eq]
  refine cls_ph (φ := φ) (hC.1.1 _) ⟨fun _ => rfl, fun _ _ h => h.symm, fun _ _ _ h h' => h.trans h'⟩ hC.2.2.1 (fun g hg => hg) (fun l hl => (hφ l hl).1) (fun l l' hl hl' => ?_) (fun g hg => ?_) hQ (fun l hl => ?_)
  · rw [← l3 _ _ (hφ l hl).1 (hφ l' hl').1, (hφ l hl).2, (hφ l' hl').2]
  · exact ⟨Ls s g, l1 g hg, (l3 _ _ hg (hφ _ (l1 g hg)).1).mp (hφ _ (l1 g hg)).2.symm⟩
  · rw [← hq _ (hφ l hl).1, (hφ l hl).2]
theorem ge_rel (hC : cu9 c V G P1 P2 P3 rel) (hL : LT9 c G rel Ls ns) (hs : s < 2 ^ c) : vl9 rel (ge9 G Ls s m) := fun g h h9 => by
  obtain ⟨l1, l2, l3, -⟩ := hL s hs
  by_cases e : g = h
  · rw [e]
  · obtain ⟨a, b⟩ := hC.2.1 (tb s) (fun y hy => tb_hi hs hy) g h h9 e
    show (dcb (G g) && decide (btN m (Ls s g) = 0)) = (dcb (G h) && decide (btN m (Ls s h) = 0))
    rw [dcb_t.mpr a, dcb_t.mpr b, (l3 g h a b).mpr h9]
theorem ge_dg (hC : cu9 c V G P1 P2 P3 rel) (hL : LT9 c G rel Ls ns) (hc : c ≤ 32) (hs : s < 2 ^ c) (hm : m < 2 ^ ns s) : dg9 rel G V c (ge9 G Ls s m) = 2 * (pc m : Int) - ns s + pc s := by
  have h20 := (hL s hs).2.2.2
  unfold dg9
  have e1 : cls9 (rel (ge9 G Ls s m).1) G V (fun _ => True) = ns s := (cls_lp hC hL hs (Q := fun _ => True) (Q' := fun _ => True) (fun _ _ _ => Iff.rfl) (fun _ _ => Iff.rfl)).trans (cn_all _)
  have e2 : cls9 (rel (ge9 G Ls s m).1) G V (fun g => (ge9 G Ls s m).2 g = true) = cn9 (fun l => btN m l = 0) (ns s) := cls_lp hC hL hs (fun g h h9 => by rw [ge_rel hC hL hs g h h9]) (fun g hg => by
    show btN m (Ls s g) = 0 ↔ (dcb (G g) && decide (btN m (Ls s g) = 0)) = true
    rw [dcb_t.mpr hg, Bool.true_and, decide_eq_true_iff])
  have e3 : ons9 (ge9 G Ls s m).1 c = pc s := ons_pc hs hc
  rw [e1, e2, e3]
  have e4 := cn_bt (m := m) (ns s)
  rw [← pc_sbt (by omega) hm] at e4
  omega
theorem kp_iff {n h k : Nat} {dg : Int} (hk : k ≤ n) : kpF n h dg = some k ↔ 2 * (k : Int) - n + h = dg := by
  unfold kpF
  constructor
  · intro h9
    split at h9
    · have := Option.some.inj h9
      omega
    · cases h9
  · intro h9
    rw [if_pos (by omega)]
    congr 1
    omega
theorem Sg_va (hC : cu9 c V G P1 P2 P3 rel) (hL : LT9 c G rel Ls ns) (hc : c ≤ 32) {γ : gn9} : Sg9 c V G rel k dg r γ ↔ ∃ s m, va9 c ns dg (pc s) s m ∧ pc s + k = r ∧ γ = ge9 G Ls s m := by
  constructor
  · rintro ⟨z1, z2, z3, z4, z5⟩
    obtain ⟨s, s1, s2⟩ := nb_ex c γ.1 z1
    have es : tb s = γ.1 := funext s2
    obtain ⟨l1, l2, l3, l4⟩ := hL s s1
    obtain ⟨m, m1, m2⟩ := nb_ex (ns s) (fun l => @dite _ (l < ns s) (Classical.propDecidable _) (fun h => !γ.2 (l2 l h).choose) (fun _ => false)) (fun y hy => dif_neg (by omega))
    have eγ : γ = ge9 G Ls s m := by
      refine Prod.ext es.symm (funext (fun g => ?_))
      show γ.2 g = (dcb (G g) && decide (btN m (Ls s g) = 0))
      by_cases hg : G g
      · rw [dcb_t.mpr hg, Bool.true_and]
        have h2 := m2 (Ls s g)
        rw [dif_pos (l1 g hg)] at h2
        obtain ⟨q1, q2⟩ := (l2 _ (l1 g hg)).choose_spec
        have q3 := (l3 _ _ q1 hg).mp q2
        rw [es] at q3
        rw [z3 _ _ q3, tb_b] at h2
        rcases bt_01 m (Ls s g) with e | e
        · rw [e] at h2 ⊢
          revert h2
          cases γ.2 g <;> simp
        · rw [e] at h2 ⊢
          revert h2
          cases γ.2 g <;> simp
      · rw [dcb_f.mpr hg, z2 g hg]
        rfl
    refine ⟨s, m, ⟨s1, rfl, m1, ?_⟩, ?_, eγ⟩
    · rw [eγ, ge_dg hC hL hc s1 m1] at z5
      exact (kp_iff (pc_le m1)).mpr z5
    · rw [← z4, ← es, ons_pc s1 hc]
  · rintro ⟨s, m, ⟨s1, -, m1, hk⟩, e1, rfl⟩
    refine ⟨fun y hy => tb_hi s1 hy, fun g hg => ?_, ge_rel hC hL s1, ?_, ?_⟩
    · show (dcb (G g) && _) = false
      rw [dcb_f.mpr hg]
      rfl
    · rw [← e1]
      show ons9 (tb s) c + k = _
      rw [ons_pc s1 hc]
    · rw [ge_dg hC hL hc s1 m1]
      exact (kp_iff (pc_le m1)).mp hk
theorem ge_in (hL : LT9 c G rel Ls ns) {s' m' : Nat} (hs : s < 2 ^ c) (hs' : s' < 2 ^ c) (hm : m < 2 ^ ns s) (hm' : m' < 2 ^ ns s') (e : ge9 G Ls s m = ge9 G Ls s' m') : s = s' ∧ m = m' := by
  have e1 : tb s = tb s' := congrArg Prod.fst e
  have es : s = s' := tb_in c hs hs' (fun y _ => congrFun e1 y)
  refine ⟨es, ?_⟩
  subst es
  obtain ⟨l1, l2, l3, l4⟩ := hL s hs
  refine tb_in (ns s) hm hm' (fun l hl => ?_)
  obtain ⟨g, g1, g2⟩ := l2 l hl
  have e2 : (dcb (G g) && decide (btN m (Ls s g) = 0)) = (dcb (G g) && decide (btN m' (Ls s g) = 0)) := congrFun (congrArg Prod.snd e) g
  rw [dcb_t.mpr g1, Bool.true_and, Bool.true_and, g2] at e2
  have e3 := decide_eq_decide.mp e2
  rw [tb_b, tb_b]
  rcases bt_01 m l with a | a <;> rcases bt_01 m' l with b | b <;> rw [a, b] at e3 ⊢ <;> simp at e3
/-- the place of a generator -/
theorem bk_va {h : Nat} (hv : va9 c ns dg h s m) (hn : ns s < 32) : bkF ns dg s = biN (ns s) (pc m) ∧ cpN (pc m) m < bkF ns dg s := by
  have e : bkF ns dg s = biN (ns s) (pc m) := by
    unfold bkF
    rw [hv.2.2.2]
  exact ⟨e, by rw [e]; exact cpN_lt hn hv.2.2.1⟩
theorem smH_s (w : Nat → Nat) (h n : Nat) : smH w h 0 (n + 1) = smH w h 0 n + if pc n = h then w n else 0 := by
  show smH w h 0 n + (if pc n = h then w (0 + n) else 0) = _
  rw [Nat.zero_add]
theorem ix_sz {h : Nat} (hv : va9 c ns dg h s m) (hn : ns s < 32) : ix9 ns dg s m < sz9 c ns dg h := by
  obtain ⟨e1, e2⟩ := bk_va hv hn
  unfold ix9 sz9
  rw [← hv.2.1]
  have a := smH_mono (w := bkF ns dg) (h := pc s) (t := 0) (a := s + 1) (2 ^ c) hv.1
  rw [smH_s, if_pos rfl] at a
  omega
theorem ix_in {h s' m' : Nat} (hv : va9 c ns dg h s m) (hv' : va9 c ns dg h s' m') (hn : ns s < 32) (hn' : ns s' < 32) (e : ix9 ns dg s m = ix9 ns dg s' m') : s = s' ∧ m = m' := by
  obtain ⟨e1, e2⟩ := bk_va hv hn
  obtain ⟨f1, f2⟩ := bk_va hv' hn'
  have lt : ∀ {a b x y : Nat}, pc a = h → pc b = h → a < b → x < bkF ns dg a → smH (bkF ns dg) (pc a) 0 a + x ≠ smH (bkF ns dg) (pc b) 0 b + y := fun {a b x y} ha hb hab hx h9 => by
    have q := smH_mono (w := bkF ns dg) (h := h) (t := 0) (a := a + 1) b hab
    rw [smH_s, if_pos ha] at q
    rw [ha, hb] at h9
    omega
  unfold ix9 at e
  have es : s = s' := by
    rcases Nat.lt_trichotomy s s' with q | q | q
    · exact absurd e (lt hv.2.1 hv'.2.1 q e2)
    · exact q
    · exact absurd e.symm (lt hv'.2.1 hv.2.1 q f2)
  subst es
  refine ⟨rfl, ?_⟩
  have ep : pc m = pc m' := by
    have a := hv.2.2.2
    rw [hv'.2.2.2] at a
    exact (Option.some.inj a).symm
  rw [ep] at e
  have e : cpN (pc m') m = cpN (pc m') m' := by omega
  rcases Nat.lt_trichotomy m m' with q | q | q
  · have a := cpN_mono (r := pc m') (a := m + 1) m' q
    have b : cpN (pc m') (m + 1) = cpN (pc m') m + 1 := by
      show cpN (pc m') m + (if pc m = pc m' then 1 else 0) = _
      rw [if_pos ep]
    omega
  · exact q
  · have a := cpN_mono (r := pc m') (a := m' + 1) m q
    have b : cpN (pc m') (m' + 1) = cpN (pc m') m' + 1 := by
      show cpN (pc m') m' + (if pc m' = pc m' then 1 else 0) = _
      rw [if_pos rfl]
    omega
theorem sm_at {w : Nat → Nat} {h i : Nat} (n : Nat) : i < smH w h 0 n → ∃ s, s < n ∧ pc s = h ∧ smH w h 0 s ≤ i ∧ i < smH w h 0 s + w s := by
  induction n with
  | zero => exact fun h9 => absurd h9 (Nat.not_lt_zero _)
  | succ n ih =>
    intro h9
    rcases Nat.lt_or_ge i (smH w h 0 n) with q | q
    · obtain ⟨s, a, b⟩ := ih q
      exact ⟨s, by omega, b⟩
    · rw [smH_s] at h9
      by_cases e : pc n = h
      · rw [if_pos e] at h9
        exact ⟨n, by omega, e, q, h9⟩
      · rw [if_neg e] at h9
        omega
theorem cp_at {k j : Nat} (n : Nat) : j < cpN k n → ∃ m, m < n ∧ pc m = k ∧ cpN k m = j := by
  induction n with
  | zero => exact fun h9 => absurd h9 (Nat.not_lt_zero _)
  | succ n ih =>
    intro h9
    rcases Nat.lt_or_ge j (cpN k n) with q | q
    · obtain ⟨s, a, b⟩ := ih q
      exact ⟨s, by omega, b⟩
    · have h9 : j < cpN k n + (if pc n = k then 1 else 0) := h9
      by_cases e : pc n = k
      · rw [if_pos e] at h9
        exact ⟨n, by omega, e, by omega⟩
      · rw [if_neg e] at h9
        omega
theorem ix_on {h i : Nat} (hn : ∀ s, s < 2 ^ c → ns s < 32) (hi : i < sz9 c ns dg h) : ∃ s m, va9 c ns dg h s m ∧ ix9 ns dg s m = i := by
  obtain ⟨s, s1, s2, s3, s4⟩ := sm_at _ hi
  have s5 : i - smH (bkF ns dg) h 0 s < bkF ns dg s := by omega
  cases e : kpF (ns s) (pc s) dg with
  | none =>
    unfold bkF at s5
    rw [e] at s5
    exact absurd s5 (Nat.not_lt_zero _)
  | some k =>
    have eb : bkF ns dg s = biN (ns s) k := by
      unfold bkF
      rw [e]
    rw [eb, ← cpN_bi _ _ (hn s s1)] at s5
    obtain ⟨m, m1, m2, m3⟩ := cp_at _ s5
    refine ⟨s, m, ⟨s1, s2, m1, by rw [e, m2]⟩, ?_⟩
    unfold ix9
    rw [s2, m2, m3]
    omega
/-- the generators in their order -/
noncomputable def E9 (c : Nat) (G : Nat → Prop) (Ls : Nat → Nat → Nat) (ns : Nat → Nat) (dg : Int) (k r i : Nat) : gn9 := @dite _ (∃ q : Nat × Nat, va9 c ns dg (r - k) q.1 q.2 ∧ ix9 ns dg q.1 q.2 = i) (Classical.propDecidable _) (fun h => ge9 G Ls h.choose.1 h.choose.2) (fun _ => (fun _ => false, fun _ => false))
def N9 (c : Nat) (ns : Nat → Nat) (dg : Int) (k r : Nat) : Nat := if k ≤ r then sz9 c ns dg (r - k) else 0
theorem E_at {i : Nat} (hn : ∀ s, s < 2 ^ c → ns s < 32) (hv : va9 c ns dg (r - k) s m) (hi : ix9 ns dg s m = i) : E9 c G Ls ns dg k r i = ge9 G Ls s m := by
  have h : ∃ q : Nat × Nat, va9 c ns dg (r - k) q.1 q.2 ∧ ix9 ns dg q.1 q.2 = i := ⟨(s, m), hv, hi⟩
  unfold E9
  rw [dif_pos h]
  obtain ⟨a, b⟩ := h.choose_spec
  obtain ⟨e1, e2⟩ := ix_in a hv (hn _ a.1) (hn _ hv.1) (b.trans hi.symm)
  rw [e1, e2]
theorem en_E (hC : cu9 c V G P1 P2 P3 rel) (hL : LT9 c G rel Ls ns) (hc : c ≤ 32) (r : Nat) : en9 (Sg9 c V G rel k dg r) (E9 c G Ls ns dg k r) (N9 c ns dg k r) := by
  have hn : ∀ s, s < 2 ^ c → ns s < 32 := fun s hs => by
    have := (hL s hs).2.2.2
    omega
  unfold N9
  constructor
  · intro i j hi hj e
    by_cases ck : k ≤ r
    · rw [if_pos ck] at hi hj
      obtain ⟨s, m, a, b⟩ := ix_on hn hi
      obtain ⟨s', m', a', b'⟩ := ix_on hn hj
      rw [E_at hn a b, E_at hn a' b'] at e
      obtain ⟨e1, e2⟩ := ge_in hL a.1 a'.1 a.2.2.1 a'.2.2.1 e
      rw [← b, ← b', e1, e2]
    · rw [if_neg ck] at hi
      exact absurd hi (Nat.not_lt_zero _)
  · intro γ
    rw [Sg_va hC hL hc]
    constructor
    · rintro ⟨s, m, a, e, rfl⟩
      have e2 : r - k = pc s := by omega
      refine ⟨ix9 ns dg s m, ?_, ?_⟩
      · rw [if_pos (by omega), e2]
        exact ix_sz a (hn s a.1)
      · rw [← e2] at a
        exact (E_at hn a rfl).symm
    · rintro ⟨i, i1, rfl⟩
      by_cases ck : k ≤ r
      · rw [if_pos ck] at i1
        obtain ⟨s, m, a, b⟩ := ix_on hn i1
        refine ⟨s, m, ?_, ?_, E_at hn a b⟩
        · rw [a.2.1]
          exact a
        · rw [a.2.1]
          omega
      · rw [if_neg ck] at i1
        exact absurd i1 (Nat.not_lt_zero _)
end XCI6
end
section
/-! 99zzzzzzzzzzzzzzzzyzd.xchs -/
-- CHAIN: D of a generator, by numbers
/-- the loops that stay -/
noncomputable def K9 (G : Nat → Prop) (Ls : Nat → Nat → Nat) (ns : Nat → Nat) (P1 P2 : Nat → Nat) (s m x : Nat) : Nat := (nb_ex (ns (s + 2 ^ x)) (fun l => dcb (l < ns (s + 2 ^ x) ∧ l ≠ Ls (s + 2 ^ x) (P1 x) ∧ l ≠ Ls (s + 2 ^ x) (P2 x) ∧ ∃ g, G g ∧ Ls (s + 2 ^ x) g = l ∧ btN m (Ls s g) = 1)) (fun y hy => dcb_f.mpr (fun h => by omega))).choose
/-- what comes of one crossing -/
noncomputable def di9 (G : Nat → Prop) (Ls : Nat → Nat → Nat) (ns : Nat → Nat) (P1 P2 : Nat → Nat) (s m x : Nat) : List Nat :=
  if Ls s (P1 x) = Ls s (P2 x) then (if btN m (Ls s (P1 x)) = 0 then [K9 G Ls ns P1 P2 s m x] else [K9 G Ls ns P1 P2 s m x + 2 ^ Ls (s + 2 ^ x) (P2 x), K9 G Ls ns P1 P2 s m x + 2 ^ Ls (s + 2 ^ x) (P1 x)])
  else (if btN m (Ls s (P1 x)) = 0 ∧ btN m (Ls s (P2 x)) = 0 then [] else if btN m (Ls s (P1 x)) = 0 ∨ btN m (Ls s (P2 x)) = 0 then [K9 G Ls ns P1 P2 s m x] else [K9 G Ls ns P1 P2 s m x + 2 ^ Ls (s + 2 ^ x) (P1 x)])
section XCI7
variable {c V k r : Nat} {G : Nat → Prop} {P1 P2 : Nat → Nat} {rel : (Nat → Bool) → Nat → Nat → Prop} {Ls : Nat → Nat → Nat} {ns : Nat → Nat} {dg : Int} {s m x : Nat}
theorem K_sp : K9 G Ls ns P1 P2 s m x < 2 ^ ns (s + 2 ^ x) ∧ ∀ l, tb (K9 G Ls ns P1 P2 s m x) l = dcb (l < ns (s + 2 ^ x) ∧ l ≠ Ls (s + 2 ^ x) (P1 x) ∧ l ≠ Ls (s + 2 ^ x) (P2 x) ∧ ∃ g, G g ∧ Ls (s + 2 ^ x) g = l ∧ btN m (Ls s g) = 1) := (nb_ex (ns (s + 2 ^ x)) (fun l => dcb (l < ns (s + 2 ^ x) ∧ l ≠ Ls (s + 2 ^ x) (P1 x) ∧ l ≠ Ls (s + 2 ^ x) (P2 x) ∧ ∃ g, G g ∧ Ls (s + 2 ^ x) g = l ∧ btN m (Ls s g) = 1)) (fun y hy => dcb_f.mpr (fun h => by omega))).choose_spec
theorem bt_0 (m y : Nat) : btN m y = 0 ↔ tb m y = false := by
  rw [tb_b]
  rcases bt_01 m y with e | e <;> rw [e] <;> simp
theorem on_tb (h : btN s x = 0) : on9 (tb s) x = tb (s + 2 ^ x) := funext (fun k => (tb_flip h k).symm)
/-- what a turn does to the loops -/
theorem tn_lp (hC : cu9 c V G P1 P2 P2 rel) (hx : x < c) (hb : btN s x = 0) : (∀ g, (rel (tb s) g (P1 x) ∨ rel (tb s) g (P2 x)) ↔ (rel (tb (s + 2 ^ x)) g (P1 x) ∨ rel (tb (s + 2 ^ x)) g (P2 x))) ∧ (∀ g g', ¬ (rel (tb (s + 2 ^ x)) g (P1 x) ∨ rel (tb (s + 2 ^ x)) g (P2 x)) → (rel (tb s) g g' ↔ rel (tb (s + 2 ^ x)) g g')) ∧ (¬ rel (tb s) (P1 x) (P2 x) → rel (tb (s + 2 ^ x)) (P1 x) (P2 x)) ∧ (rel (tb s) (P1 x) (P2 x) → ¬ rel (tb (s + 2 ^ x)) (P1 x) (P2 x)) := by
  have E := hC.1.1
  have s0 : tb s x = false := (bt_0 s x).mp hb
  have h := hC.1.2 (tb s) x hx s0
  rw [on_tb hb] at h
  have gen : ∀ (R Q : Nat → Nat → Prop) (a b : Nat), eqv9 R → eqv9 Q → (∀ g h, Q g h ↔ adr R a b g h) → (∀ g, (R g a ∨ R g b) ↔ (Q g a ∨ Q g b)) ∧ (∀ g g', ¬ (R g a ∨ R g b) → (R g g' ↔ Q g g')) ∧ Q a b := fun R Q a b hR hQ hq => by
    refine ⟨fun g => ⟨fun h9 => h9.imp (fun e => (hq _ _).mpr (Or.inl e)) (fun e => (hq _ _).mpr (Or.inl e)), fun h9 => ?_⟩, fun g g' hn => ⟨fun e => (hq _ _).mpr (Or.inl e), fun e => ?_⟩, (hq _ _).mpr (adr_ab hR)⟩
    · rcases h9 with h9 | h9
      · rcases (hq _ _).mp h9 with e | ⟨e, -⟩ | ⟨e, -⟩
        · exact Or.inl e
        · exact Or.inl e
        · exact Or.inr e
      · rcases (hq _ _).mp h9 with e | ⟨e, -⟩ | ⟨e, -⟩
        · exact Or.inr e
        · exact Or.inl e
        · exact Or.inr e
    · rcases (hq _ _).mp e with e | ⟨e, -⟩ | ⟨e, -⟩
      · exact e
      · exact absurd (Or.inl e) hn
      · exact absurd (Or.inr e) hn
  rcases h with ⟨a, b⟩ | ⟨a, b, e⟩
  · obtain ⟨h1, h2, h3⟩ := gen _ _ _ _ (E (tb s)) (E (tb (s + 2 ^ x))) b
    exact ⟨h1, fun g g' hn => h2 g g' (fun h9 => hn ((h1 g).mp h9)), fun _ => h3, fun h9 => absurd h9 a⟩
  · obtain ⟨h1, h2, h3⟩ := gen _ _ _ _ (E (tb (s + 2 ^ x))) (E (tb s)) e
    exact ⟨fun g => (h1 g).symm, fun g g' hn => (h2 g g' hn).symm, fun h9 => absurd a h9, fun _ => b⟩
theorem s2_lt (hs : s < 2 ^ c) (hx : x < c) (hb : btN s x = 0) : s + 2 ^ x < 2 ^ c := add_lt hs hx hb
/-- the marks of a loop that stays -/
theorem K_bt (hC : cu9 c V G P1 P2 P2 rel) (hL : LT9 c G rel Ls ns) (hs : s < 2 ^ c) (hx : x < c) (hb : btN s x = 0) {g : Nat} (hg : G g) : (Ls (s + 2 ^ x) g = Ls (s + 2 ^ x) (P1 x) ∨ Ls (s + 2 ^ x) g = Ls (s + 2 ^ x) (P2 x) → btN (K9 G Ls ns P1 P2 s m x) (Ls (s + 2 ^ x) g) = 0) ∧ (¬ (Ls (s + 2 ^ x) g = Ls (s + 2 ^ x) (P1 x) ∨ Ls (s + 2 ^ x) g = Ls (s + 2 ^ x) (P2 x)) → btN (K9 G Ls ns P1 P2 s m x) (Ls (s + 2 ^ x) g) = btN m (Ls s g)) := by
  have ht := s2_lt hs hx hb
  obtain ⟨l1, l2, l3, -⟩ := hL s hs
  obtain ⟨t1, t2, t3, -⟩ := hL _ ht
  obtain ⟨q1, q2, -⟩ := hC.2.2.2 x hx
  obtain ⟨a1, a2, -⟩ := tn_lp hC hx hb
  have sp := (K_sp (G := G) (Ls := Ls) (ns := ns) (P1 := P1) (P2 := P2) (s := s) (m := m) (x := x)).2 (Ls (s + 2 ^ x) g)
  constructor
  · intro h
    rw [bt_0, sp]
    exact dcb_f.mpr (fun h9 => h.elim h9.2.1 h9.2.2.1)
  · intro h
    have hn : ¬ (rel (tb (s + 2 ^ x)) g (P1 x) ∨ rel (tb (s + 2 ^ x)) g (P2 x)) := fun h9 => h (h9.imp (fun e => (t3 _ _ hg q1).mpr e) (fun e => (t3 _ _ hg q2).mpr e))
    have key : ∀ g', G g' → Ls (s + 2 ^ x) g' = Ls (s + 2 ^ x) g → Ls s g' = Ls s g := fun g' hg' e => ((l3 _ _ hg hg').mpr ((a2 g g' hn).mpr ((t3 _ _ hg hg').mp e.symm))).symm
    rcases bt_01 m (Ls s g) with e | e
    · rw [e, bt_0, sp]
      refine dcb_f.mpr (fun h9 => ?_)
      obtain ⟨-, -, -, g', g1, g2, g3⟩ := h9
      rw [key g' g1 g2, e] at g3
      omega
    · rw [e]
      have : tb (K9 G Ls ns P1 P2 s m x) (Ls (s + 2 ^ x) g) = true := by
        rw [sp]
        exact dcb_t.mpr ⟨t1 g hg, fun e9 => h (Or.inl e9), fun e9 => h (Or.inr e9), g, hg, rfl, e⟩
      rw [tb_b] at this
      exact of_decide_eq_true this
theorem K_0 (hL : LT9 c G rel Ls ns) : btN (K9 G Ls ns P1 P2 s m x) (Ls (s + 2 ^ x) (P1 x)) = 0 ∧ btN (K9 G Ls ns P1 P2 s m x) (Ls (s + 2 ^ x) (P2 x)) = 0 := by
  have sp := (K_sp (G := G) (Ls := Ls) (ns := ns) (P1 := P1) (P2 := P2) (s := s) (m := m) (x := x)).2
  exact ⟨by rw [bt_0, sp]; exact dcb_f.mpr (fun h9 => h9.2.1 rfl), by rw [bt_0, sp]; exact dcb_f.mpr (fun h9 => h9.2.2.1 rfl)⟩
theorem di_lt (hC : cu9 c V G P1 P2 P2 rel) (hL : LT9 c G rel Ls ns) (hs : s < 2 ^ c) (hx : x < c) (hb : btN s x = 0) {m' : Nat} (h : m' ∈ di9 G Ls ns P1 P2 s m x) : m' < 2 ^ ns (s + 2 ^ x) := by
  have ht := s2_lt hs hx hb
  obtain ⟨t1, -⟩ := hL _ ht
  obtain ⟨q1, q2, -⟩ := hC.2.2.2 x hx
  have sp := (K_sp (G := G) (Ls := Ls) (ns := ns) (P1 := P1) (P2 := P2) (s := s) (m := m) (x := x)).1
  obtain ⟨k1, k2⟩ := K_0 (m := m) (s := s) (x := x) (P1 := P1) (P2 := P2) hL
  have b1 := add_lt sp (t1 _ q1) k1
  have b2 := add_lt sp (t1 _ q2) k2
  unfold di9 at h
  split at h
  · split at h
    · rw [List.mem_singleton.mp h]
      exact sp
    · rcases List.mem_cons.mp h with e | e
      · rw [e]
        exact b2
      · rw [List.mem_singleton.mp e]
        exact b1
  · split at h
    · exact absurd h List.not_mem_nil
    · split at h
      · rw [List.mem_singleton.mp h]
        exact sp
      · rw [List.mem_singleton.mp h]
        exact b1
/-- D at one crossing -/
theorem Dx_ge (hC : cu9 c V G P1 P2 P2 rel) (hL : LT9 c G rel Ls ns) (hs : s < 2 ^ c) (hx : x < c) (hb : btN s x = 0) : Dx9 P1 P2 P2 rel x (ge9 G Ls s m) = (di9 G Ls ns P1 P2 s m x).map (fun m' => ((1 : Int), ge9 G Ls (s + 2 ^ x) m')) := by
  have ht := s2_lt hs hx hb
  obtain ⟨l1, l2, l3, -⟩ := hL s hs
  obtain ⟨t1, t2, t3, -⟩ := hL _ ht
  obtain ⟨q1, q2, -⟩ := hC.2.2.2 x hx
  obtain ⟨a1, a2, a3, a4⟩ := tn_lp hC hx hb
  obtain ⟨k1, k2⟩ := K_0 (m := m) (s := s) (x := x) (P1 := P1) (P2 := P2) hL
  have sp := (K_sp (G := G) (Ls := Ls) (ns := ns) (P1 := P1) (P2 := P2) (s := s) (m := m) (x := x)).1
  have mk : ∀ g, G g → (ge9 G Ls s m).2 g = decide (btN m (Ls s g) = 0) := fun g hg => by
    show (dcb (G g) && _) = _
    rw [dcb_t.mpr hg, Bool.true_and]
  have mt' : ∀ m' g, G g → (ge9 G Ls (s + 2 ^ x) m').2 g = decide (btN m' (Ls (s + 2 ^ x) g) = 0) := fun m' g hg => by
    show (dcb (G g) && _) = _
    rw [dcb_t.mpr hg, Bool.true_and]
  have out : ∀ g, ¬ G g → (ge9 G Ls s m).2 g = false ∧ (∀ m', (ge9 G Ls (s + 2 ^ x) m').2 g = false) ∧ dcb (rel (tb (s + 2 ^ x)) g (P1 x)) = false ∧ dcb (rel (tb (s + 2 ^ x)) g (P2 x)) = false := fun g hg => by
    have hz := fun y hy => tb_hi (y := y) ht hy
    refine ⟨by show (dcb (G g) && _) = _; rw [dcb_f.mpr hg]; rfl, fun m' => by show (dcb (G g) && _) = _; rw [dcb_f.mpr hg]; rfl, dcb_f.mpr (fun h9 => ?_), dcb_f.mpr (fun h9 => ?_)⟩
    · by_cases e : g = P1 x
      · exact hg (by rw [e]; exact q1)
      · exact hg (hC.2.1 _ hz g _ h9 e).1
    · by_cases e : g = P2 x
      · exact hg (by rw [e]; exact q2)
      · exact hg (hC.2.1 _ hz g _ h9 e).1
  have r1 : ∀ g, G g → dcb (rel (tb (s + 2 ^ x)) g (P1 x)) = decide (Ls (s + 2 ^ x) g = Ls (s + 2 ^ x) (P1 x)) := fun g hg => by
    by_cases e : Ls (s + 2 ^ x) g = Ls (s + 2 ^ x) (P1 x)
    · rw [decide_eq_true e]
      exact dcb_t.mpr ((t3 _ _ hg q1).mp e)
    · rw [decide_eq_false e]
      exact dcb_f.mpr (fun h9 => e ((t3 _ _ hg q1).mpr h9))
  have r2 : ∀ g, G g → dcb (rel (tb (s + 2 ^ x)) g (P2 x)) = decide (Ls (s + 2 ^ x) g = Ls (s + 2 ^ x) (P2 x)) := fun g hg => by
    by_cases e : Ls (s + 2 ^ x) g = Ls (s + 2 ^ x) (P2 x)
    · rw [decide_eq_true e]
      exact dcb_t.mpr ((t3 _ _ hg q2).mp e)
    · rw [decide_eq_false e]
      exact dcb_f.mpr (fun h9 => e ((t3 _ _ hg q2).mpr h9))
  -- a gap at the crossing lies in one of its loops, before and behind
  have at' : ∀ g, G g → ((Ls (s + 2 ^ x) g = Ls (s + 2 ^ x) (P1 x) ∨ Ls (s + 2 ^ x) g = Ls (s + 2 ^ x) (P2 x)) ↔ (Ls s g = Ls s (P1 x) ∨ Ls s g = Ls s (P2 x))) := fun g hg => by
    rw [l3 _ _ hg q1, l3 _ _ hg q2, t3 _ _ hg q1, t3 _ _ hg q2]
    exact (a1 g).symm
  have kb := fun g hg => K_bt (m := m) hC hL hs hx hb (g := g) hg
  have bit : ∀ l, l < ns (s + 2 ^ x) → btN (K9 G Ls ns P1 P2 s m x) l = 0 → ∀ j, btN (K9 G Ls ns P1 P2 s m x + 2 ^ l) j = if j = l then 1 else btN (K9 G Ls ns P1 P2 s m x) j := fun l _ h0 j => bt_flip h0 j
  have fst : on9 (ge9 G Ls s m).1 x = tb (s + 2 ^ x) := on_tb hb
  have es : rel (ge9 G Ls s m).1 (P1 x) (P2 x) ↔ Ls s (P1 x) = Ls s (P2 x) := (l3 _ _ q1 q2).symm
  unfold Dx9 di9
  rw [fst]
  by_cases c1 : Ls s (P1 x) = Ls s (P2 x)
  · rw [if_pos (dcb_t.mpr (es.mpr c1)), if_pos c1, mk _ q1]
    have ne : Ls (s + 2 ^ x) (P1 x) ≠ Ls (s + 2 ^ x) (P2 x) := fun h9 => a4 (es.mpr c1) ((t3 _ _ q1 q2).mp h9)
    by_cases c2 : btN m (Ls s (P1 x)) = 0
    · rw [if_pos (decide_eq_true c2), if_pos c2]
      refine congrArg (fun q => [((1 : Int), q)]) (Prod.ext rfl (funext (fun g => ?_)))
      show (ge9 G Ls s m).2 g = (ge9 G Ls (s + 2 ^ x) (K9 G Ls ns P1 P2 s m x)).2 g
      by_cases hg : G g
      · rw [mk g hg, mt' _ g hg]
        by_cases c3 : Ls (s + 2 ^ x) g = Ls (s + 2 ^ x) (P1 x) ∨ Ls (s + 2 ^ x) g = Ls (s + 2 ^ x) (P2 x)
        · rw [(kb g hg).1 c3]
          have : Ls s g = Ls s (P1 x) := ((at' g hg).mp c3).elim id (fun e => e.trans c1.symm)
          rw [this, c2]
        · rw [(kb g hg).2 c3]
      · rw [(out g hg).1, (out g hg).2.1]
    · rw [if_neg (fun h9 => c2 (of_decide_eq_true h9)), if_neg c2]
      have tw : ∀ (a b : Nat) (Pa : Nat), a ≠ b → btN (K9 G Ls ns P1 P2 s m x) b = 0 → b < ns (s + 2 ^ x) → ((a = Ls (s + 2 ^ x) (P1 x) ∧ b = Ls (s + 2 ^ x) (P2 x)) ∨ (a = Ls (s + 2 ^ x) (P2 x) ∧ b = Ls (s + 2 ^ x) (P1 x))) → (∀ g, G g → dcb (rel (tb (s + 2 ^ x)) g Pa) = decide (Ls (s + 2 ^ x) g = a)) → (∀ g, ¬ G g → dcb (rel (tb (s + 2 ^ x)) g Pa) = false) → (fun g => (ge9 G Ls s m).2 g || dcb (rel (tb (s + 2 ^ x)) g Pa)) = (ge9 G Ls (s + 2 ^ x) (K9 G Ls ns P1 P2 s m x + 2 ^ b)).2 := fun a b Pa hab hb0 hbl hw hP hO => funext (fun g => by
        by_cases hg : G g
        · rw [mk g hg, mt' _ g hg, hP g hg, bit b hbl hb0]
          by_cases c3 : Ls (s + 2 ^ x) g = Ls (s + 2 ^ x) (P1 x) ∨ Ls (s + 2 ^ x) g = Ls (s + 2 ^ x) (P2 x)
          · have q : Ls s g = Ls s (P1 x) := ((at' g hg).mp c3).elim id (fun e => e.trans c1.symm)
            rw [q, decide_eq_false c2, Bool.false_or]
            have c4 : Ls (s + 2 ^ x) g = a ∨ Ls (s + 2 ^ x) g = b := by
              rcases hw with ⟨w1, w2⟩ | ⟨w1, w2⟩
              · rw [w1, w2]
                exact c3
              · rw [w1, w2]
                exact c3.symm
            rcases c4 with e | e
            · rw [if_neg (by rw [e]; exact hab), (kb g hg).1 c3, decide_eq_true e]
              rfl
            · rw [if_pos e, e, decide_eq_false (fun h9 => hab h9.symm)]
              rfl
          · have n1 : Ls (s + 2 ^ x) g ≠ a := fun h9 => c3 (hw.elim (fun w => Or.inl (h9.trans w.1)) (fun w => Or.inr (h9.trans w.1)))
            have n2 : Ls (s + 2 ^ x) g ≠ b := fun h9 => c3 (hw.elim (fun w => Or.inr (h9.trans w.2)) (fun w => Or.inl (h9.trans w.2)))
            rw [if_neg n2, (kb g hg).2 c3, decide_eq_false n1, Bool.or_false]
        · rw [(out g hg).1, (out g hg).2.1, hO g hg]
          rfl)
      have e1 := tw _ _ (P1 x) ne k2 (t1 _ q2) (Or.inl ⟨rfl, rfl⟩) r1 (fun g hg => (out g hg).2.2.1)
      have e2 := tw _ _ (P2 x) ne.symm k1 (t1 _ q1) (Or.inr ⟨rfl, rfl⟩) r2 (fun g hg => (out g hg).2.2.2)
      show [((1 : Int), ((tb (s + 2 ^ x), fun g => (ge9 G Ls s m).2 g || dcb (rel (tb (s + 2 ^ x)) g (P1 x))) : gn9)), ((1 : Int), ((tb (s + 2 ^ x), fun g => (ge9 G Ls s m).2 g || dcb (rel (tb (s + 2 ^ x)) g (P2 x))) : gn9))] = _
      rw [e1, e2]
      rfl
  · rw [if_neg (fun h9 => c1 (es.mp (dcb_t.mp h9))), if_neg c1, mk _ q1, mk _ q2]
    have eq : Ls (s + 2 ^ x) (P1 x) = Ls (s + 2 ^ x) (P2 x) := (t3 _ _ q1 q2).mpr (a3 (fun h9 => c1 (es.mp h9)))
    by_cases c2 : btN m (Ls s (P1 x)) = 0 ∧ btN m (Ls s (P2 x)) = 0
    · rw [if_pos ⟨decide_eq_true c2.1, decide_eq_true c2.2⟩, if_pos c2]
      rfl
    · rw [if_neg (fun h9 => c2 ⟨of_decide_eq_true h9.1, of_decide_eq_true h9.2⟩), if_neg c2]
      by_cases c4 : btN m (Ls s (P1 x)) = 0 ∨ btN m (Ls s (P2 x)) = 0
      · rw [if_pos c4]
        have o : (decide (btN m (Ls s (P1 x)) = 0) || decide (btN m (Ls s (P2 x)) = 0)) = true := by
          rw [Bool.or_eq_true, decide_eq_true_iff, decide_eq_true_iff]
          exact c4
        refine congrArg (fun q => [((1 : Int), q)]) (Prod.ext rfl (funext (fun g => ?_)))
        show ((ge9 G Ls s m).2 g || ((decide (btN m (Ls s (P1 x)) = 0) || decide (btN m (Ls s (P2 x)) = 0)) && dcb (rel (tb (s + 2 ^ x)) g (P1 x)))) = (ge9 G Ls (s + 2 ^ x) (K9 G Ls ns P1 P2 s m x)).2 g
        rw [o, Bool.true_and]
        by_cases hg : G g
        · rw [mk g hg, mt' _ g hg, r1 g hg]
          by_cases c3 : Ls (s + 2 ^ x) g = Ls (s + 2 ^ x) (P1 x)
          · rw [(kb g hg).1 (Or.inl c3), decide_eq_true c3, Bool.or_true]
            rfl
          · rw [(kb g hg).2 (fun h9 => c3 (h9.elim id (fun e => e.trans eq.symm))), decide_eq_false c3, Bool.or_false]
        · rw [(out g hg).1, (out g hg).2.1, (out g hg).2.2.1]
          rfl
      · rw [if_neg c4]
        have o : (decide (btN m (Ls s (P1 x)) = 0) || decide (btN m (Ls s (P2 x)) = 0)) = false := by
          rw [Bool.or_eq_false_iff, decide_eq_false_iff_not, decide_eq_false_iff_not]
          exact ⟨fun h9 => c4 (Or.inl h9), fun h9 => c4 (Or.inr h9)⟩
        refine congrArg (fun q => [((1 : Int), q)]) (Prod.ext rfl (funext (fun g => ?_)))
        show ((ge9 G Ls s m).2 g || ((decide (btN m (Ls s (P1 x)) = 0) || decide (btN m (Ls s (P2 x)) = 0)) && dcb (rel (tb (s + 2 ^ x)) g (P1 x)))) = (ge9 G Ls (s + 2 ^ x) (K9 G Ls ns P1 P2 s m x + 2 ^ Ls (s + 2 ^ x) (P1 x))).2 g
        rw [o, Bool.false_and, Bool.or_false]
        by_cases hg : G g
        · rw [mk g hg, mt' _ g hg, bit _ (t1 _ q1) k1]
          by_cases c3 : Ls (s + 2 ^ x) g = Ls (s + 2 ^ x) (P1 x)
          · rw [if_pos c3]
            rcases (at' g hg).mp (Or.inl c3) with e | e
            · rw [e, decide_eq_false (fun h9 => c4 (Or.inl h9))]
              rfl
            · rw [e, decide_eq_false (fun h9 => c4 (Or.inr h9))]
              rfl
          · rw [if_neg c3, (kb g hg).2 (fun h9 => c3 (h9.elim id (fun e => e.trans eq.symm)))]
        · rw [(out g hg).1, (out g hg).2.1]
end XCI7
end
section
/-! 99zzzzzzzzzzzzzzzzyze.xcht -/
-- CHAIN: the rows of the matrix
def cnI (f : Nat → Nat) (j : Nat) : List Nat → Int
  | [] => 0
  | a :: l => (if f a = j then 1 else 0) + cnI f j l
noncomputable def rwX (G : Nat → Prop) (Ls : Nat → Nat → Nat) (ns : Nat → Nat) (P1 P2 : Nat → Nat) (dg : Int) (s m x j : Nat) : Int := if btN s x = 1 then 0 else par9 (tb s) x * cnI (ix9 ns dg (s + 2 ^ x)) j (di9 G Ls ns P1 P2 s m x)
noncomputable def row9 (G : Nat → Prop) (Ls : Nat → Nat → Nat) (ns : Nat → Nat) (P1 P2 : Nat → Nat) (dg : Int) (s m n : Nat) : vc9 := fun j => sN9 (fun x => rwX G Ls ns P1 P2 dg s m x j) n
section XCI8
variable {c V k r h : Nat} {G : Nat → Prop} {P1 P2 : Nat → Nat} {rel : (Nat → Bool) → Nat → Nat → Prop} {Ls : Nat → Nat → Nat} {ns : Nat → Nat} {dg p b : Int} {s m x : Nat}
theorem va_di (hC : cu9 c V G P1 P2 P2 rel) (hL : LT9 c G rel Ls ns) (hc : c ≤ 32) (hv : va9 c ns dg h s m) (hx : x < c) (hb : btN s x = 0) {m' : Nat} (hm : m' ∈ di9 G Ls ns P1 P2 s m x) : va9 c ns dg (h + 1) (s + 2 ^ x) m' := by
  have ht := s2_lt hv.1 hx hb
  have g1 : Sg9 c V G rel 0 dg h (ge9 G Ls s m) := (Sg_va hC hL hc).mpr ⟨s, m, by rw [hv.2.1]; exact hv, by rw [hv.2.1]; rfl, rfl⟩
  have g2 : ((1 : Int), ge9 G Ls (s + 2 ^ x) m') ∈ Dx9 P1 P2 P2 rel x (ge9 G Ls s m) := by
    rw [Dx_ge hC hL hv.1 hx hb]
    exact List.mem_map.mpr ⟨m', hm, rfl⟩
  obtain ⟨s2, m2, a, e1, e2⟩ := (Sg_va hC hL hc).mp (Dx_ok hC hx g1 ((bt_0 s x).mp hb) g2)
  obtain ⟨f1, f2⟩ := ge_in hL ht a.1 (di_lt hC hL hv.1 hx hb hm) a.2.2.1 e2
  rw [← f1, ← f2] at a
  rw [← f1] at e1
  have e3 : pc (s + 2 ^ x) = h + 1 := by omega
  rw [e3] at a
  exact a
theorem E_iff (hC : cu9 c V G P1 P2 P2 rel) (hL : LT9 c G rel Ls ns) {j : Nat} (hv : va9 c ns dg (r - k) s m) (hj : j < sz9 c ns dg (r - k)) : ge9 G Ls s m = E9 c G Ls ns dg k r j ↔ ix9 ns dg s m = j := by
  have hn : ∀ s, s < 2 ^ c → ns s < 32 := fun s hs => by
    have := (hL s hs).2.2.2
    omega
  constructor
  · intro e
    obtain ⟨s2, m2, a, b⟩ := ix_on hn hj
    rw [E_at hn a b] at e
    obtain ⟨f1, f2⟩ := ge_in hL hv.1 a.1 hv.2.2.1 a.2.2.1 e
    rw [f1, f2, b]
  · intro e
    exact (E_at hn hv e).symm
theorem cf_mp (δ : gn9) (f : Nat → gn9) (g : Nat → Nat) (j : Nat) : ∀ l : List Nat, (∀ a, a ∈ l → (f a = δ ↔ g a = j)) → smf9 (id9 δ) (l.map (fun a => ((1 : Int), f a))) = cnI g j l
  | [], _ => rfl
  | a :: l, h => by
    show 1 * id9 δ (f a) + smf9 (id9 δ) (l.map (fun a => ((1 : Int), f a))) = (if g a = j then 1 else 0) + cnI g j l
    rw [cf_mp δ f g j l (fun a ha => h a (List.mem_cons_of_mem _ ha)), Int.one_mul]
    have h1 := h a List.mem_cons_self
    by_cases e : g a = j
    · rw [if_pos e, h1.mpr e, id_y]
    · rw [if_neg e, id_n (fun h9 => e (h1.mp h9))]
/-- a row of the matrix -/
theorem row_mt (hC : cu9 c V G P1 P2 P2 rel) (hL : LT9 c G rel Ls ns) (hc : c ≤ 32) (hv : va9 c ns dg h s m) (hr : r = h + k) {j : Nat} (hj : j < sz9 c ns dg (h + 1)) : cf9 (D9 P1 P2 P2 rel c (ge9 G Ls s m)) (E9 c G Ls ns dg k (r + 1) j) = row9 G Ls ns P1 P2 dg s m c j := by
  have er : r + 1 - k = h + 1 := by omega
  show smf9 (id9 (E9 c G Ls ns dg k (r + 1) j)) (D9 P1 P2 P2 rel c (ge9 G Ls s m)) = _
  rw [smf_D]
  refine sN_cg (fun x hx => ?_)
  show (if tb s x = true then 0 else par9 (tb s) x * smf9 (id9 (E9 c G Ls ns dg k (r + 1) j)) (Dx9 P1 P2 P2 rel x (ge9 G Ls s m))) = rwX G Ls ns P1 P2 dg s m x j
  unfold rwX
  rcases bt_01 s x with e | e
  · rw [if_neg (by rw [(bt_0 s x).mp e]; decide), if_neg (by omega), Dx_ge hC hL hv.1 hx e]
    rw [cf_mp _ (fun m' => ge9 G Ls (s + 2 ^ x) m') (ix9 ns dg (s + 2 ^ x)) j]
    intro m' hm'
    have v := va_di hC hL hc hv hx e hm'
    rw [← er] at v hj
    exact E_iff hC hL v hj
  · rw [if_pos (by rw [tb_b, e]; rfl), if_pos e]
/-- the matrix of a group -/
noncomputable def MT9 (c : Nat) (G : Nat → Prop) (rel : (Nat → Bool) → Nat → Nat → Prop) (P1 P2 : Nat → Nat) (Ls : Nat → Nat → Nat) (ns : Nat → Nat) (dg : Int) (h : Nat) : Nat → vc9 := mtx9 (D9 P1 P2 P2 rel c) (E9 c G Ls ns dg 0 h) (E9 c G Ls ns dg 0 (h + 1))
noncomputable def RK9 (p : Int) (c : Nat) (G : Nat → Prop) (rel : (Nat → Bool) → Nat → Nat → Prop) (P1 P2 : Nat → Nat) (Ls : Nat → Nat → Nat) (ns : Nat → Nat) (dg : Int) (h : Nat) : Nat := rk9 p (sz9 c ns dg (h + 1)) (rwl9 (MT9 c G rel P1 P2 Ls ns dg h) (sz9 c ns dg h))
theorem MT_row (hC : cu9 c V G P1 P2 P2 rel) (hL : LT9 c G rel Ls ns) (hc : c ≤ 32) (hv : va9 c ns dg h s m) {j : Nat} (hj : j < sz9 c ns dg (h + 1)) : MT9 c G rel P1 P2 Ls ns dg h (ix9 ns dg s m) j = row9 G Ls ns P1 P2 dg s m c j := by
  have hn : ∀ s, s < 2 ^ c → ns s < 32 := fun s hs => by
    have := (hL s hs).2.2.2
    omega
  show cf9 (D9 P1 P2 P2 rel c (E9 c G Ls ns dg 0 h (ix9 ns dg s m))) (E9 c G Ls ns dg 0 (h + 1) j) = _
  rw [E_at (r := h) (k := 0) hn hv rfl]
  exact row_mt (k := 0) hC hL hc hv rfl hj
/-- D of D is 0, on the matrices -/
theorem MT_dd (hC : cu9 c V G P1 P2 P2 rel) (hL : LT9 c G rel Ls ns) (hc : c ≤ 32) (h : Nat) (v : vc9) : zq9 p (sz9 c ns dg (h + 2)) (ap9 (MT9 c G rel P1 P2 Ls ns dg (h + 1)) (sz9 c ns dg (h + 1)) (ap9 (MT9 c G rel P1 P2 Ls ns dg h) (sz9 c ns dg h) v)) (fun _ => 0) := by
  have e := cx_dd (p := p) (cg_cx (fun r => en_E (k := 0) (dg := dg) hC hL hc r) (cu_cg (k := 0) (d := dg) hC)) h v
  have e1 : ∀ r, N9 c ns dg 0 r = sz9 c ns dg r := fun r => if_pos (Nat.zero_le r)
  rw [e1, e1, e1] at e
  exact e
/-- a row that begins where a D begins need not be looked at -/
theorem MT_cl (hp : pr9 p) (hi : iv9 p) (hC : cu9 c V G P1 P2 P2 rel) (hL : LT9 c G rel Ls ns) (hc : c ≤ 32) {w : vc9} {g : Nat} (hg : g < sz9 c ns dg (h + 1)) (hw : sp9 p (sz9 c ns dg (h + 1)) (rwl9 (MT9 c G rel P1 P2 Ls ns dg h) (sz9 c ns dg h)) w) (h0 : ∀ j, j < g → p ∣ w j) (hn : ¬ p ∣ w g) : ∃ a : vc9, zq9 p (sz9 c ns dg (h + 2)) (MT9 c G rel P1 P2 Ls ns dg (h + 1) g) (fun j => sN9 (fun k => if g < k then a k * MT9 c G rel P1 P2 Ls ns dg (h + 1) k j else 0) (sz9 c ns dg (h + 1))) := by
  obtain ⟨v, hv⟩ := sp_ap.mp hw
  have z := zq_t (ap_q (d := MT9 c G rel P1 P2 Ls ns dg (h + 1)) (m := sz9 c ns dg (h + 2)) hv) (MT_dd hC hL hc h v)
  obtain ⟨t, ht⟩ := hi _ hn
  refine ⟨fun k => -(t * w k), fun j hj => ?_⟩
  have z1 := z j hj
  rw [ap_sN, Int.sub_zero] at z1
  generalize hM : MT9 c G rel P1 P2 Ls ns dg (h + 1) = M at z1 ⊢
  generalize hN : sz9 c ns dg (h + 1) = N at z1 hg ⊢
  -- split the sum at g
  have sp : ∀ n, p ∣ sN9 (fun i => w i * M i j) n - ((if g < n then w g * M g j else 0) + sN9 (fun k => if g < k then w k * M k j else 0) n) := by
    intro n
    induction n with
    | zero =>
      rw [if_neg (by omega)]
      show p ∣ (0 : Int) - (0 + 0)
      exact Int.dvd_zero p
    | succ n ih =>
      show p ∣ sN9 (fun i => w i * M i j) n + w n * M n j - ((if g < n + 1 then w g * M g j else 0) + (sN9 (fun k => if g < k then w k * M k j else 0) n + (if g < n then w n * M n j else 0)))
      rcases Nat.lt_trichotomy n g with q | q | q
      · rw [if_neg (by omega), if_neg (by omega)]
        rw [if_neg (by omega)] at ih
        have a := dvl9 (M n j) (h0 n q)
        have := Int.dvd_add ih a
        rw [show sN9 (fun i => w i * M i j) n - (0 + sN9 (fun k => if g < k then w k * M k j else 0) n) + w n * M n j = sN9 (fun i => w i * M i j) n + w n * M n j - (0 + (sN9 (fun k => if g < k then w k * M k j else 0) n + 0)) by omega] at this
        exact this
      · rw [if_pos (by omega), if_neg (by omega), q]
        rw [if_neg (by omega), q] at ih
        rw [show sN9 (fun i => w i * M i j) g + w g * M g j - (w g * M g j + (sN9 (fun k => if g < k then w k * M k j else 0) g + 0)) = sN9 (fun i => w i * M i j) g - (0 + sN9 (fun k => if g < k then w k * M k j else 0) g) by omega]
        exact ih
      · rw [if_pos (by omega), if_pos (by omega)]
        rw [if_pos (by omega)] at ih
        rw [show sN9 (fun i => w i * M i j) n + w n * M n j - (w g * M g j + (sN9 (fun k => if g < k then w k * M k j else 0) n + w n * M n j)) = sN9 (fun i => w i * M i j) n - (w g * M g j + sN9 (fun k => if g < k then w k * M k j else 0) n) by omega]
        exact ih
  have s1 := sp N
  rw [if_pos hg] at s1
  have e1 : sN9 (fun k => if g < k then -(t * w k) * M k j else 0) N = -t * sN9 (fun k => if g < k then w k * M k j else 0) N := by
    rw [← sN_mulc]
    refine sN_cg (fun k _ => ?_)
    by_cases q : g < k
    · rw [if_pos q, if_pos q, Int.neg_mul, Int.neg_mul, Int.mul_assoc]
    · rw [if_neg q, if_neg q, Int.mul_zero]
  show p ∣ M g j - sN9 (fun k => if g < k then -(t * w k) * M k j else 0) N
  rw [e1]
  generalize sN9 (fun k => if g < k then w k * M k j else 0) N = sA at s1 ⊢
  generalize sN9 (fun i => w i * M i j) N = sB at s1 z1
  -- w g * M g j + sA is 0
  have a := Int.dvd_sub z1 s1
  rw [show sB - (sB - (w g * M g j + sA)) = w g * M g j + sA by omega] at a
  have a2 := dvr9 t a
  have a3 := dvl9 (M g j) ht
  have := Int.dvd_sub a2 a3
  have e : t * (w g * M g j + sA) - (w g * t - 1) * M g j = M g j - -t * sA := by
    rw [Int.mul_add, Int.sub_mul, Int.one_mul, Int.neg_mul, show t * (w g * M g j) = w g * t * M g j by rw [← Int.mul_assoc, Int.mul_comm t]]
    omega
  rw [e] at this
  exact this
/-- the number of a group, by sizes and ranks -/
theorem be_MT (hp : pr9 p) (hi : iv9 p) (hC : cu9 c V G P1 P2 P2 rel) (hL : LT9 c G rel Ls ns) (hc : c ≤ 32) (hb : be9 p (Sg9 c V G rel k dg) (D9 P1 P2 P2 rel c) r b) : (r + 1 < k → b = 0) ∧ (r + 1 = k → (sz9 c ns dg 0 : Int) = b + RK9 p c G rel P1 P2 Ls ns dg 0) ∧ ∀ h, r = h + k → (sz9 c ns dg (h + 1) : Int) = b + RK9 p c G rel P1 P2 Ls ns dg (h + 1) + RK9 p c G rel P1 P2 Ls ns dg h := by
  have e := be_en hp hi (cu_cg (k := k) (d := dg) hC) r hb (fun r => en_E (k := k) (dg := dg) hC hL hc r)
  have nil : ∀ d : Nat → vc9, ∀ n, rk9 p 0 (rwl9 d n) = 0 := fun d n => by
    induction n with
    | zero => rfl
    | succ n ih =>
      have : sp9 p 0 (rwl9 d n) (d n) := sp_q (fun i hi => absurd hi (Nat.not_lt_zero _)) sp_0
      exact (rk_y this).trans ih
  have N0 : ∀ r, r < k → N9 c ns dg k r = 0 := fun r hr => if_neg (by omega)
  have N1 : ∀ h, N9 c ns dg k (h + k) = sz9 c ns dg h := fun h => by
    unfold N9
    rw [if_pos (by omega), Nat.add_sub_cancel]
  have Ek : ∀ h, E9 c G Ls ns dg k (h + k) = E9 c G Ls ns dg 0 h := fun h => funext (fun i => by
    unfold E9
    rw [Nat.add_sub_cancel, Nat.sub_zero])
  have R1 : ∀ h, rn9 p (E9 c G Ls ns dg k) (N9 c ns dg k) (D9 P1 P2 P2 rel c) (h + k) = RK9 p c G rel P1 P2 Ls ns dg h := fun h => by
    unfold rn9 RK9 MT9
    rw [show h + k + 1 = (h + 1) + k by omega, N1, N1, Ek, Ek]
  have R0 : ∀ r, r < k → rn9 p (E9 c G Ls ns dg k) (N9 c ns dg k) (D9 P1 P2 P2 rel c) r = 0 := fun r hr => by
    unfold rn9
    rw [N0 r hr]
    rfl
  refine ⟨fun hr => ?_, fun hr => ?_, fun h hr => ?_⟩
  · rw [N0 _ hr, R0 _ hr, R0 _ (by omega)] at e
    omega
  · have e0 : r + 1 = 0 + k := by omega
    rw [e0, N1, R1, R0 r (by omega)] at e
    omega
  · have e0 : r + 1 = (h + 1) + k := by omega
    rw [e0, N1, R1, hr, R1] at e
    omega
end XCI8
end
