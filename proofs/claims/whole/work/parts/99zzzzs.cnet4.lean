/-! the class: meets; a net's writhe, alternates, append -/
def np_sum (G : Nat → Int32) : Nat → Int32
  | 0 => 0
  | n + 1 => np_sum G n + G n
def np_turn (t : Nat → Bool) (S : ow_NP) (G : Nat → Int32) : Nat → ow_NP × (Nat → Int32)
  | 0 => (S, G)
  | n + 1 => if t n then ((nu (np_turn t S G n).1.1 n ((np_turn t S G n).1.2 n), nu (np_turn t S G n).1.2 n ((np_turn t S G n).1.1 n)), su (np_turn t S G n).2 (n / 2) (-((np_turn t S G n).2 (n / 2)))) else np_turn t S G n
theorem shr1v : ∀ v : Fin 24, (nI v.val) >>> ((1 : Int32) &&& 31) = nI (v.val / 2) := by decide +kernel
section CN4
variable {vl : Nat → Nat} {y : ow_MS} {g g' p p' h : Nat} {Cs Ds : List cdT} {os qs : List Nat} {T : ow_NT}
theorem u_X3_meets_1 {vl : Nat → Nat} {x2 : Int32} {r0 : Nat} {r1 : Nat} {z : ow_MS} {Q : (Int32 × ow_MS) → Prop} (H : Tt (fun K k => cm_X3_meets_1 vl K (c_X3_meets vl K k) x2 r0 r1 z) Q) : Tt (fun K k => c_X3_meets vl K k 1 x2 r0 r1 z) Q := w_un (fun _ _ => rfl) H
theorem e_X3_meets {vl : Nat → Nat} {r0 : Nat} {r1 : Nat} {z : ow_MS} {Q : (Int32 × ow_MS) → Prop} (H : Tt (fun K k => c_X3_meets vl K k 0 0 r0 r1 z) Q) : Te (fun K => ce_X3_meets vl K r0 r1 z) Q := w_te H
theorem u_X3_meets_0 {vl : Nat → Nat} {x2 : Int32} {r0 : Nat} {r1 : Nat} {z : ow_MS} {Q : (Int32 × ow_MS) → Prop} (H : Tt (fun K k => cm_X3_meets_0 vl K (c_X3_meets vl K k) x2 r0 r1 z) Q) : Tt (fun K k => c_X3_meets vl K k 0 x2 r0 r1 z) Q := w_un (fun _ _ => rfl) H
theorem tc_meets (hg : tH g p) (hg' : tH g' p') (hT : tabC y g Cs os) (hp : os.length ≤ p) (hU : tabC y g' Ds qs) (hp' : qs.length ≤ p') : Te (fun K => ce_X3_meets vl K g g' y) (fun r => (r.1 = 1 ∧ (∃ i k, i < Cs.length ∧ k < qs.length ∧ Cs[i]? = some (atC Ds qs k)) ∨ r.1 = 0 ∧ ∀ B, B ∈ Cs → moC Ds qs B → ∀ k, k < qs.length → atC Ds qs k ≠ B) ∧ r.2 = y) := by
  have hpp := tH_p hg
  have hpq := tH_p hg'
  let Q : Int32 × ow_MS → Prop := fun r => (r.1 = 1 ∧ (∃ i k, i < Cs.length ∧ k < qs.length ∧ Cs[i]? = some (atC Ds qs k)) ∨ r.1 = 0 ∧ ∀ B, B ∈ Cs → moC Ds qs B → ∀ k, k < qs.length → atC Ds qs k ≠ B) ∧ r.2 = y
  have hl := hT.2.1
  have cself : ∀ B : cdT, cmpC B B = 0 := by
    intro B
    have aux : ∀ L : List Nat, lexD L L = 0 := by
      intro L
      induction L with
      | nil => rfl
      | cons a L ih =>
        show (if a = a then lexD L L else (a : Int) - a) = 0
        rw [if_pos rfl]
        exact ih
    unfold cmpC
    rw [if_pos rfl]
    exact aux _
  have c1 : ∀ (d i : Nat), i + d = os.length → (∀ j B, j < i → Cs[j]? = some B → moC Ds qs B → ∀ k, k < qs.length → atC Ds qs k ≠ B) → Tt (fun K t => c_X3_meets vl K t 1 (nI i) g g' y) Q := by
    intro d
    induction d with
    | zero =>
      intro i hi hn
      refine u_X3_meets_1 ?_; unfold cm_X3_meets_1
      refine w_rdF hT.1 (w_leT (by omega) (by omega) (w_okZ (Or.inl rfl) (w_some ⟨Or.inr ⟨rfl, fun B hB hm k hk => ?_⟩, rfl⟩)))
      obtain ⟨j, hj⟩ := List.getElem?_of_mem hB
      have := (List.getElem?_eq_some_iff.mp hj).1
      exact hn j B (by omega) hj hm k hk
    | succ d ih =>
      intro i hi hn
      obtain ⟨B, eB⟩ : ∃ B, Cs[i]? = some B := ⟨_, List.getElem?_eq_getElem (show i < Cs.length by omega)⟩
      obtain ⟨b1, b2⟩ := hT.2.2.1 i B eB
      refine u_X3_meets_1 ?_; unfold cm_X3_meets_1
      rw [nI_1]
      refine w_rdF hT.1 (w_leF (by omega) (by omega) (w_cs1 (tc_find hg' hg (show i < p by omega) hU hp' b1 b2) ?_))
      rintro v y1 ⟨hv, e2⟩
      dsimp only at hv e2
      subst e2
      rcases hv with ⟨k, k1, k2, k3⟩ | ⟨k, k1, k2, k3⟩
      · rw [k2]
        exact w_ltF (b := 0) (by omega) (by omega) (w_okZ (Or.inr rfl) (w_some ⟨Or.inl ⟨rfl, i, k, by omega, k1, by rw [k3]; exact eB⟩, rfl⟩))
      · rw [k2]
        refine w_ifT ((iI_lt (b := 0) (by omega) (by omega) (by omega) (by omega)).mpr (by omega)) (ih (i + 1) (by omega) (fun j B' hj hB' hm k' hk' => ?_))
        by_cases ej : j = i
        · rw [ej, eB] at hB'
          have e1 : B = B' := Option.some.inj hB'
          rw [← e1] at hm ⊢
          intro e9
          obtain ⟨m1, m2⟩ := k3 hm
          have c0 : cmpC (atC Ds qs k') B = 0 := by rw [e9]; exact cself B
          by_cases h8 : k' < k
          · have := m1 k' h8
            omega
          · have := m2 k' (by omega) hk'
            omega
        · exact hn j B' (by omega) hB' hm k' hk'
  refine e_X3_meets ?_
  refine u_X3_meets_0 ?_; unfold cm_X3_meets_0
  exact c1 os.length 0 (by omega) (fun j B hj => by omega)
theorem u_X7_writhe_1 {vl : Nat → Nat} {x1 : Int32} {x2 : Int32} {r0 : Nat} {z : ow_MS} {Q : (Int32 × ow_MS) → Prop} (H : Tt (fun K k => cm_X7_writhe_1 vl K (c_X7_writhe vl K k) x1 x2 r0 z) Q) : Tt (fun K k => c_X7_writhe vl K k 1 x1 x2 r0 z) Q := w_un (fun _ _ => rfl) H
theorem e_X7_writhe {vl : Nat → Nat} {r0 : Nat} {z : ow_MS} {Q : (Int32 × ow_MS) → Prop} (H : Tt (fun K k => c_X7_writhe vl K k 0 0 0 r0 z) Q) : Te (fun K => ce_X7_writhe vl K r0 z) Q := w_te H
theorem u_X7_writhe_0 {vl : Nat → Nat} {x1 : Int32} {x2 : Int32} {r0 : Nat} {z : ow_MS} {Q : (Int32 × ow_MS) → Prop} (H : Tt (fun K k => cm_X7_writhe_0 vl K (c_X7_writhe vl K k) x1 x2 r0 z) Q) : Tt (fun K k => c_X7_writhe vl K k 0 x1 x2 r0 z) Q := w_un (fun _ _ => rfl) H
theorem tc_writhe (hh : nH h) (hy : cAt y h T) (hT : T.1 ≤ 12) : Te (fun K => ce_X7_writhe vl K h y) (fun r => r.1 = np_sum T.2.2.2 T.1 ∧ r.2 = y) := by
  let Q : Int32 × ow_MS → Prop := fun r => r.1 = np_sum T.2.2.2 T.1 ∧ r.2 = y
  have c1 : ∀ (d i : Nat), i + d = T.1 → Tt (fun K t => c_X7_writhe vl K t 1 (np_sum T.2.2.2 i) (nI i) h y) Q := by
    intro d
    induction d with
    | zero =>
      intro i hi
      have e : i = T.1 := by omega
      subst e
      refine u_X7_writhe_1 ?_; unfold cm_X7_writhe_1
      exact w_rdF hy.1 (w_leT (by omega) (by omega) (w_some ⟨rfl, rfl⟩))
    | succ d ih =>
      intro i hi
      refine u_X7_writhe_1 ?_; unfold cm_X7_writhe_1
      rw [nI_1]
      exact w_rdF hy.1 (w_leF (by omega) (by omega) (w_crI (nH_3 hh) rfl (by omega) (hy.2.2.2.2 i) (ih (i + 1) (by omega))))
  refine e_X7_writhe ?_
  refine u_X7_writhe_0 ?_; unfold cm_X7_writhe_0
  exact c1 T.1 0 (by omega)
theorem u_X7_alternates_1 {vl : Nat → Nat} {x1 : Int32} {r0 : Nat} {z : ow_MS} {Q : (Int32 × ow_MS) → Prop} (H : Tt (fun K k => cm_X7_alternates_1 vl K (c_X7_alternates vl K k) x1 r0 z) Q) : Tt (fun K k => c_X7_alternates vl K k 1 x1 r0 z) Q := w_un (fun _ _ => rfl) H
theorem e_X7_alternates {vl : Nat → Nat} {r0 : Nat} {z : ow_MS} {Q : (Int32 × ow_MS) → Prop} (H : Tt (fun K k => c_X7_alternates vl K k 0 0 r0 z) Q) : Te (fun K => ce_X7_alternates vl K r0 z) Q := w_te H
theorem u_X7_alternates_0 {vl : Nat → Nat} {x1 : Int32} {r0 : Nat} {z : ow_MS} {Q : (Int32 × ow_MS) → Prop} (H : Tt (fun K k => cm_X7_alternates_0 vl K (c_X7_alternates vl K k) x1 r0 z) Q) : Tt (fun K k => c_X7_alternates vl K k 0 x1 r0 z) Q := w_un (fun _ _ => rfl) H
theorem tc_alternates (hh : nH h) (hy : cAt y h T) (hT : T.1 ≤ 12) : Te (fun K => ce_X7_alternates vl K h y) (fun r => (r.1 = 1 ∧ (∀ v, v < 2 * T.1 → (nI v &&& 1) ≠ (nI (T.2.2.1.1 v) &&& 1)) ∨ r.1 = 0 ∧ ∃ v, v < 2 * T.1 ∧ (nI v &&& 1) = (nI (T.2.2.1.1 v) &&& 1)) ∧ r.2 = y) := by
  let Q : Int32 × ow_MS → Prop := fun r => (r.1 = 1 ∧ (∀ v, v < 2 * T.1 → (nI v &&& 1) ≠ (nI (T.2.2.1.1 v) &&& 1)) ∨ r.1 = 0 ∧ ∃ v, v < 2 * T.1 ∧ (nI v &&& 1) = (nI (T.2.2.1.1 v) &&& 1)) ∧ r.2 = y
  have c1 : ∀ (d i : Nat), i + d = 2 * T.1 → (∀ v, v < i → (nI v &&& 1) ≠ (nI (T.2.2.1.1 v) &&& 1)) → Tt (fun K t => c_X7_alternates vl K t 1 (nI i) h y) Q := by
    intro d
    induction d with
    | zero =>
      intro i hi hn
      refine u_X7_alternates_1 ?_; unfold cm_X7_alternates_1
      refine w_rdF hy.1 ?_
      rw [show (2 : Int32) * nI T.1 = nI (2 * T.1) from pk_mul 2 _]
      exact w_leT (by omega) (by omega) (w_okZ (Or.inr rfl) (w_some ⟨Or.inl ⟨rfl, fun v hv => hn v (by omega)⟩, rfl⟩))
    | succ d ih =>
      intro i hi hn
      refine u_X7_alternates_1 ?_; unfold cm_X7_alternates_1
      refine w_rdF hy.1 ?_
      rw [show (2 : Int32) * nI T.1 = nI (2 * T.1) from pk_mul 2 _, nI_1]
      refine w_leF (by omega) (by omega) (w_crI (nH_1 hh) rfl (by omega) (hy.2.2.1 i) (w_if (fun e => w_okZ (Or.inl rfl) (w_some ⟨Or.inr ⟨rfl, i, by omega, e⟩, rfl⟩)) (fun e => ih (i + 1) (by omega) (fun v hv => ?_))))
      by_cases ev : v = i
      · rw [ev]
        exact e
      · exact hn v (by omega)
  refine e_X7_alternates ?_
  refine u_X7_alternates_0 ?_; unfold cm_X7_alternates_0
  exact c1 (2 * T.1) 0 (by omega) (fun v hv => by omega)
theorem u_X7_turn_1 {vl : Nat → Nat} {x1 : Int32} {x2 : Int32} {r0 : Nat} {z : ow_MS} {Q : ow_MS → Prop} (H : Tt (fun K k => cm_X7_turn_1 vl K (c_X7_turn vl K k) x1 x2 r0 z) Q) : Tt (fun K k => c_X7_turn vl K k 1 x1 x2 r0 z) Q := w_un (fun _ _ => rfl) H
theorem u_X7_turn_3 {vl : Nat → Nat} {x1 : Int32} {x2 : Int32} {r0 : Nat} {z : ow_MS} {Q : ow_MS → Prop} (H : Tt (fun K k => cm_X7_turn_3 vl K (c_X7_turn vl K k) x1 x2 r0 z) Q) : Tt (fun K k => c_X7_turn vl K k 3 x1 x2 r0 z) Q := w_un (fun _ _ => rfl) H
theorem u_X7_turn_2 {vl : Nat → Nat} {x1 : Int32} {x2 : Int32} {r0 : Nat} {z : ow_MS} {Q : ow_MS → Prop} (H : Tt (fun K k => cm_X7_turn_2 vl K (c_X7_turn vl K k) x1 x2 r0 z) Q) : Tt (fun K k => c_X7_turn vl K k 2 x1 x2 r0 z) Q := w_un (fun _ _ => rfl) H
theorem e_X7_turn {vl : Nat → Nat} {r0 : Nat} {x1 : Int32} {z : ow_MS} {Q : ow_MS → Prop} (H : Tt (fun K k => c_X7_turn vl K k 0 x1 0 r0 z) Q) : Te (fun K => ce_X7_turn vl K r0 x1 z) Q := w_te H
theorem u_X7_turn_0 {vl : Nat → Nat} {x1 : Int32} {x2 : Int32} {r0 : Nat} {z : ow_MS} {Q : ow_MS → Prop} (H : Tt (fun K k => cm_X7_turn_0 vl K (c_X7_turn vl K k) x1 x2 r0 z) Q) : Tt (fun K k => c_X7_turn vl K k 0 x1 x2 r0 z) Q := w_un (fun _ _ => rfl) H
theorem tc_turn {x : Int32} {F : Nat → Int32} (hh : nH h) (hy : cAt y h T) (hT : T.1 ≤ 12) (h5 : ∀ k, y.2.1 (h + 5) k = F k) : Te (fun K => ce_X7_turn vl K h x y) (fun y1 => cAt y1 h (T.1, T.2.1, (np_turn (fun v => decide (x = -1) || decide (F v = x)) T.2.2.1 T.2.2.2 (2 * T.1)).1, (np_turn (fun v => decide (x = -1) || decide (F v = x)) T.2.2.1 T.2.2.2 (2 * T.1)).2) ∧ fr (cP h) y y1) := by
  generalize ht : (fun v => decide (x = -1) || decide (F v = x)) = t
  have htv : ∀ v, t v = (decide (x = -1) || decide (F v = x)) := fun v => by rw [← ht]
  let Q : ow_MS → Prop := fun y1 => cAt y1 h (T.1, T.2.1, (np_turn t T.2.2.1 T.2.2.2 (2 * T.1)).1, (np_turn t T.2.2.1 T.2.2.2 (2 * T.1)).2) ∧ fr (cP h) y y1
  have c1 : ∀ (d i : Nat) (y1 : ow_MS), i + d = 2 * T.1 → cAt y1 h (T.1, T.2.1, (np_turn t T.2.2.1 T.2.2.2 i).1, (np_turn t T.2.2.1 T.2.2.2 i).2) → fr (cP h) y y1 → Tt (fun K k => c_X7_turn vl K k 1 x (nI i) h y1) Q := by
    intro d
    induction d with
    | zero =>
      intro i y1 hi h1 hf
      have e : i = 2 * T.1 := by omega
      rw [e] at h1
      refine u_X7_turn_1 ?_; unfold cm_X7_turn_1
      refine w_rdF (x := nI T.1) h1.1 ?_
      rw [show (2 : Int32) * nI T.1 = nI (2 * T.1) from pk_mul 2 _]
      exact w_leT (by omega) (by omega) (w_some ⟨h1, hf⟩)
    | succ d ih =>
      intro i y1 hi h1 hf
      have eo : np_turn t T.2.2.1 T.2.2.2 (i + 1) = if t i then ((nu (np_turn t T.2.2.1 T.2.2.2 i).1.1 i ((np_turn t T.2.2.1 T.2.2.2 i).1.2 i), nu (np_turn t T.2.2.1 T.2.2.2 i).1.2 i ((np_turn t T.2.2.1 T.2.2.2 i).1.1 i)), su (np_turn t T.2.2.1 T.2.2.2 i).2 (i / 2) (-((np_turn t T.2.2.1 T.2.2.2 i).2 (i / 2)))) else np_turn t T.2.2.1 T.2.2.2 i := rfl
      have k3 : ∀ y1 : ow_MS, cAt y1 h (T.1, T.2.1, (np_turn t T.2.2.1 T.2.2.2 (i + 1)).1, (np_turn t T.2.2.1 T.2.2.2 (i + 1)).2) → fr (cP h) y y1 → Tt (fun K k => c_X7_turn vl K k 3 x (nI i) h y1) Q := by
        intro y1 h1 hf
        refine u_X7_turn_3 ?_; unfold cm_X7_turn_3
        rw [nI_1]
        exact ih (i + 1) y1 (by omega) h1 hf
      have k2 : t i = true → Tt (fun K k => c_X7_turn vl K k 2 x (nI i) h y1) Q := by
        intro hti
        rw [if_pos hti] at eo
        rw [eo] at k3
        generalize np_turn t T.2.2.1 T.2.2.2 i = R at *
        obtain ⟨a, b, c, d, e⟩ := h1
        refine u_X7_turn_2 ?_; unfold cm_X7_turn_2
        rw [shr1v ⟨i, by omega⟩]
        refine w_crI (nH_1 hh) rfl (by omega) (c i) (w_crI (nH_2 hh) rfl (by omega) (d i) (w_ctI (nH_1 hh) rfl (by omega) (w_ctI (nH_2 hh) rfl (by omega) (w_crI (nH_3 hh) rfl (show i / 2 < 12 by omega) (rd_ot (by omega) (rd_ot (by omega) (e (i / 2)))) (w_ctI (nH_3 hh) rfl (show i / 2 < 12 by omega) (k3 _ ⟨a, b, fun k => rd_ot (by omega) (rd_ot (by omega) ?_), fun k => rd_ot (by omega) ?_, fun k => ?_⟩ (fr_I2 (fr_I2 (fr_I2 hf (Or.inl (by omega))) (Or.inl (by omega))) (Or.inl (by omega)))))))))
        · show _ = nI (if k = i then R.1.2 i else R.1.1 k)
          by_cases ek : k = i
          · rw [if_pos ek, ek]
            exact po_usI_at
          · rw [if_neg ek]
            exact rd_ne ek (c k)
        · show _ = nI (if k = i then R.1.1 i else R.1.2 k)
          by_cases ek : k = i
          · rw [if_pos ek, ek]
            exact po_usI_at
          · rw [if_neg ek]
            exact rd_ne ek (rd_ot (by omega) (d k))
        · show _ = if k = i / 2 then -(R.2 (i / 2)) else R.2 k
          by_cases ek : k = i / 2
          · rw [if_pos ek, ek]
            exact po_usI_at
          · rw [if_neg ek]
            exact rd_ne ek (rd_ot (by omega) (rd_ot (by omega) (e k)))
      refine u_X7_turn_1 ?_; unfold cm_X7_turn_1
      refine w_rdF (x := nI T.1) h1.1 ?_
      rw [show (2 : Int32) * nI T.1 = nI (2 * T.1) from pk_mul 2 _]
      refine w_leF (by omega) (by omega) (w_if (fun e => k2 ?_) (fun e => w_crI (x := F i) (nH_5 hh) rfl (by omega) ?_ (w_if (fun e1 => k2 ?_) (fun e1 => k3 y1 ?_ hf))))
      · rw [htv, decide_eq_true e]
        rfl
      · rw [(hf _ (fun h9 => by unfold cP at h9; omega)).2.1]
        exact h5 i
      · rw [htv, decide_eq_true e1, Bool.or_true]
      · rw [eo, htv, decide_eq_false e, decide_eq_false e1]
        exact h1
  refine e_X7_turn ?_
  refine u_X7_turn_0 ?_; unfold cm_X7_turn_0
  exact c1 (2 * T.1) 0 y (by omega) hy fr_rf
end CN4
