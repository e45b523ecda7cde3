/-! summit: the class's rows and their order -/
def cmpL : List Int32 → List Int32 → Int
  | a :: A, b :: B => if a = b then cmpL A B else if b ≤ a then 1 else -1
  | _, _ => 0
def ltF (n : Nat) (A B : List Nat) : Prop := cmpL (A.map (pkG n)) (B.map (pkG n)) = -1
section XS9B
theorem cm_v : ∀ (A B : List Int32), cmpL A B = 0 ∨ cmpL A B = 1 ∨ cmpL A B = -1
  | [], _ => Or.inl (by cases ‹List Int32› <;> rfl)
  | _ :: _, [] => Or.inl rfl
  | a :: A, b :: B => by
    have e0 : cmpL (a :: A) (b :: B) = if a = b then cmpL A B else if b ≤ a then 1 else -1 := rfl
    rw [e0]
    by_cases e : a = b
    · rw [if_pos e]
      exact cm_v A B
    · rw [if_neg e]
      by_cases c : b ≤ a
      · rw [if_pos c]
        exact Or.inr (Or.inl rfl)
      · rw [if_neg c]
        exact Or.inr (Or.inr rfl)
theorem cm_0 : ∀ (A B : List Int32), A.length = B.length → cmpL A B = 0 → A = B
  | [], [], _, _ => rfl
  | [], _ :: _, h, _ => by cases h
  | _ :: _, [], h, _ => by cases h
  | a :: A, b :: B, h, e => by
    have e : (if a = b then cmpL A B else if b ≤ a then 1 else -1) = 0 := e
    by_cases c : a = b
    · rw [if_pos c] at e
      rw [c, cm_0 A B (Nat.succ.inj h) e]
    · rw [if_neg c] at e
      by_cases d : b ≤ a
      · rw [if_pos d] at e
        cases e
      · rw [if_neg d] at e
        cases e
theorem cm_rf : ∀ (A : List Int32), cmpL A A = 0
  | [] => rfl
  | a :: A => by
    show (if a = a then cmpL A A else _) = 0
    rw [if_pos rfl]
    exact cm_rf A
theorem cm_an : ∀ (A B : List Int32), cmpL A B = 1 → cmpL B A = -1
  | [], [], h => by cases h
  | [], _ :: _, h => by cases h
  | _ :: _, [], h => by cases h
  | a :: A, b :: B, h => by
    have h : (if a = b then cmpL A B else if b ≤ a then 1 else -1) = 1 := h
    show (if b = a then cmpL B A else if a ≤ b then 1 else -1) = -1
    by_cases c : a = b
    · rw [if_pos c] at h
      rw [if_pos c.symm]
      exact cm_an A B h
    · rw [if_neg c] at h
      rw [if_neg (fun e => c e.symm)]
      by_cases d : b ≤ a
      · rw [if_neg]
        intro d2
        rw [Int32.le_iff_toInt_le] at d d2
        exact c (Int32.toInt_inj.mp (Int.le_antisymm d2 d))
      · rw [if_neg d] at h
        cases h
theorem cm_tr : ∀ (A B C : List Int32), cmpL A B = -1 → cmpL B C = -1 → cmpL A C = -1
  | [], [], _, h, _ => by cases h
  | [], _ :: _, _, h, _ => by cases h
  | _ :: _, [], _, h, _ => by cases h
  | _ :: _, _ :: _, [], _, h => by cases h
  | a :: A, b :: B, c :: C, h, k => by
    have h : (if a = b then cmpL A B else if b ≤ a then 1 else -1) = -1 := h
    have k : (if b = c then cmpL B C else if c ≤ b then 1 else -1) = -1 := k
    show (if a = c then cmpL A C else if c ≤ a then 1 else -1) = -1
    by_cases e1 : a = b
    · rw [if_pos e1] at h
      by_cases e2 : b = c
      · rw [if_pos e2] at k
        rw [if_pos (e1.trans e2)]
        exact cm_tr A B C h k
      · rw [if_neg e2] at k
        rw [e1, if_neg e2]
        exact k
    · rw [if_neg e1] at h
      by_cases d1 : b ≤ a
      · rw [if_pos d1] at h
        cases h
      · by_cases e2 : b = c
        · rw [← e2, if_neg e1, if_neg d1]
        · rw [if_neg e2] at k
          by_cases d2 : c ≤ b
          · rw [if_pos d2] at k
            cases k
          · rw [Int32.le_iff_toInt_le] at d1 d2
            have d3 : ¬ c ≤ a := fun h9 => by
              rw [Int32.le_iff_toInt_le] at h9
              omega
            have e3 : a ≠ c := fun h9 => d3 (by rw [h9, Int32.le_iff_toInt_le]; exact Int.le_refl _)
            rw [if_neg e3, if_neg d3]
variable {vl : Nat → Nat} {y : ow_MS} {h : Nat}
theorem xc_compare {r1 r3 a b A B l : Nat} {L M : List Int32} (h3 : y.1 (h + 3) = nI l) (hl : l ≤ 24) (L1 : ((cX vl).2 r1).2.1 = A) (L3 : ((cX vl).2 r3).2.1 = B) (ha : a + l ≤ A) (hb : b + l ≤ B) (hA : A < 2 ^ 31) (hB : B < 2 ^ 31) (lL : L.length = l) (lM : M.length = l) (eL : ∀ i c, L[i]? = some c → y.2.1 r1 (a + i) = c) (eM : ∀ i c, M[i]? = some c → y.2.1 r3 (b + i) = c) : Te (fun K => ce_X10_compare vl K h r1 (nI a) r3 (nI b) y) (fun r => r.1 = iI (cmpL L M) ∧ r.2 = y) := by
  let Q : Int32 × ow_MS → Prop := fun r => r.1 = iI (cmpL L M) ∧ r.2 = y
  have c1 : ∀ (d j : Nat), j + d = l → cmpL L M = cmpL (L.drop j) (M.drop j) → Tt (fun K t => c_X10_compare vl K t 1 (nI a) (nI b) (nI j) h r1 r3 y) Q := by
    intro d
    induction d with
    | zero =>
      intro j hj he
      refine u_X10_compare_1 ?_; unfold cm_X10_compare_1
      refine w_rdF h3 (w_leT (by omega) (by omega) (w_some ⟨?_, rfl⟩))
      show (0 : Int32) = iI (cmpL L M)
      rw [he, List.drop_eq_nil_of_le (by omega)]
      rfl
    | succ d ih =>
      intro j hj he
      have k1 : L.drop j = L[j]'(by omega) :: L.drop (j + 1) := List.drop_eq_getElem_cons (by omega)
      have k2 : M.drop j = M[j]'(by omega) :: M.drop (j + 1) := List.drop_eq_getElem_cons (by omega)
      rw [k1, k2] at he
      have he : cmpL L M = if L[j]'(by omega) = M[j]'(by omega) then cmpL (L.drop (j + 1)) (M.drop (j + 1)) else if M[j]'(by omega) ≤ L[j]'(by omega) then 1 else -1 := he
      have v1 := eL j _ (List.getElem?_eq_getElem (by omega))
      have v2 := eM j _ (List.getElem?_eq_getElem (by omega))
      refine u_X10_compare_1 ?_; unfold cm_X10_compare_1
      rw [nI_add, nI_add, nI_1]
      refine w_rdF h3 (w_leF (by omega) (by omega) (w_crI L1 rfl (show a + j < A by omega) v1 (w_crI L3 rfl (show b + j < B by omega) v2 (w_if (fun e => ih (j + 1) (by omega) ?_) (fun e => w_crI L1 rfl (show a + j < A by omega) v1 (w_crI L3 rfl (show b + j < B by omega) v2 (w_if (fun e2 => w_some ⟨?_, rfl⟩) (fun e2 => w_some ⟨?_, rfl⟩))))))))
      · rw [he, if_pos e]
      · show (1 : Int32) = iI (cmpL L M)
        rw [he, if_neg e, if_pos e2]
        rfl
      · show (-1 : Int32) = iI (cmpL L M)
        rw [he, if_neg e, if_neg e2]
        rfl
  refine e_X10_compare ?_
  refine u_X10_compare_0 ?_; unfold cm_X10_compare_0
  exact c1 l 0 (by omega) rfl
/-- the rows of a summit set, and their order -/
def suL (y : ow_MS) (h : Nat) (m : N5) (k : Int) (R : Nat) (Ls W : List (List Nat)) : Prop := (y.1 (h + 2) = iI k ∧ y.1 (h + 3) = nI R ∧ y.1 (h + 4) = nI Ls.length ∧ Ls.length ≤ 201 ∧ R ≤ 16) ∧ (∀ j F, Ls[j]? = some F → F.length = R ∧ okT m.1 F ∧ ∀ i c, (F.map (pkG m.1))[i]? = some c → y.2.1 (h + 5) (20 * j + i) = c) ∧ W.length = Ls.length ∧ (∀ i F, W[i]? = some F → ∃ j, y.2.1 (h + 6) i = nI j ∧ Ls[j]? = some F) ∧ W.Pairwise (ltF m.1) ∧ (∀ F, F ∈ Ls ↔ F ∈ W) ∧ Ls.Nodup
theorem pk_inj {m : N5} : ∀ (F G : List Nat), okT m.1 F → okT m.1 G → F.map (pkG m.1) = G.map (pkG m.1) → F = G
  | [], [], _, _, _ => rfl
  | [], _ :: _, _, _, e => by cases e
  | _ :: _, [], _, _, e => by cases e
  | f :: F, g :: G, hF, hG, e => by
    obtain ⟨a1, a2⟩ := okT_c.mp hF
    obtain ⟨b1, b2⟩ := okT_c.mp hG
    obtain ⟨e1, e2⟩ := List.cons.inj e
    rw [d_qi m.2.1 m.2.2 a1 b1 e1, pk_inj F G a2 b2 e2]
theorem xc_add {m : N5} {k : Int} {R : Nat} {Ls W : List (List Nat)} {F : List Nat} (hh : sO h) (h0 : suL y h m k R Ls W) (hF : okT m.1 F) (lF : F.length = R) (eF : ∀ i c, (F.map (pkG m.1))[i]? = some c → y.2.1 (h + 1000 + 4) i = c) : Te (fun K => ce_X10_add vl K h y) (fun y1 => (F ∈ Ls ∧ suL y1 h m k R Ls W ∨ F ∉ Ls ∧ (Ls.length = 201 ∧ suL y1 h m k R Ls W ∨ Ls.length ≤ 200 ∧ ∃ W', suL y1 h m k R (Ls ++ [F]) W')) ∧ fr (fun g => h + 4 ≤ g ∧ g ≤ h + 6) y y1) := by
  obtain ⟨⟨s2, s3, s4, l201, r16⟩, hrow, wl, hord, hpw, hmem, hnd⟩ := id h0
  let Q : ow_MS → Prop := fun y1 => (F ∈ Ls ∧ suL y1 h m k R Ls W ∨ F ∉ Ls ∧ (Ls.length = 201 ∧ suL y1 h m k R Ls W ∨ Ls.length ≤ 200 ∧ ∃ W', suL y1 h m k R (Ls ++ [F]) W')) ∧ fr (fun g => h + 4 ≤ g ∧ g ≤ h + 6) y y1
  have c3 : ∀ (a : Nat) (x2 x3 : Int32), a ≤ Ls.length → (∀ i G, i < a → W[i]? = some G → ltF m.1 G F) → (∀ i G, a ≤ i → W[i]? = some G → cmpL (G.map (pkG m.1)) (F.map (pkG m.1)) = 1) → Tt (fun K t => c_X10_add vl K t 3 (nI a) x2 x3 0 0 h y) Q := by
    intro a x2 x3 ha hlo hhi
    have nin : F ∉ Ls := fun h9 => by
      obtain ⟨i, hi⟩ := List.getElem?_of_mem ((hmem F).mp h9)
      rcases Nat.lt_or_ge i a with c | c
      · have := hlo i F c hi
        unfold ltF at this
        rw [cm_rf] at this
        cases this
      · have := hhi i F c hi
        rw [cm_rf] at this
        cases this
    refine u_X10_add_3 ?_; unfold cm_X10_add_3
    refine w_rdF s4 (w_lt (a := 200) (by omega) (by omega) (fun h9 => w_some ⟨Or.inr ⟨nin, Or.inl ⟨by omega, h0⟩⟩, fr_rf⟩) (fun h200 => w_rdF s3 (w_leT (b := 20) (by omega) (by omega) (w_rdF s4 (w_rdF s3 ?_)))))
    rw [m20]
    refine w_cpI (a := 0) (b := 20 * Ls.length) (n := R) (fO_4 (sO_f hh)) (sO_5 hh) rfl rfl rfl (by omega) (by omega) (w_rdF (x := nI Ls.length) s4 ?_)
    rw [show nI Ls.length - nI a = nI (Ls.length - a) from pk_sub ha, nI_1]
    refine w_cpI (a := a) (b := a + 1) (n := Ls.length - a) (sO_6 hh) (sO_6 hh) rfl rfl rfl (by omega) (by omega) (w_rdF (x := nI Ls.length) s4 (w_ctI (sO_6 hh) rfl (show a < 201 by omega) (w_rdF (x := nI Ls.length) s4 (w_wrF ?_))))
    rw [nI_1]
    have ll : (Ls ++ [F]).length = Ls.length + 1 := by rw [List.length_append]; rfl
    refine w_some ⟨Or.inr ⟨nin, Or.inr ⟨by omega, W.take a ++ F :: W.drop a, ⟨rf_ot (by omega) s2, rf_ot (by omega) s3, by rw [ll]; exact po_usF_at, by omega, r16⟩, fun j G hj => ?_, ?_, fun i G hi => ?_, ?_, fun G => ?_, ?_⟩⟩, fr_F2 (fr_I2 (fr_R2 (fr_R2 fr_rf (by omega)) (by omega)) (by omega)) (by omega)⟩
    · have hjl := (List.getElem?_eq_some_iff.mp hj).1
      rw [ll] at hjl
      have e5 : ∀ q, (usI (usR (usR y (h + 5) (va_cpy (y.2.1 (h + 1000 + 4)) (y.2.1 (h + 5)) 0 (20 * Ls.length) R)) (h + 6) (va_cpy ((usR y (h + 5) (va_cpy (y.2.1 (h + 1000 + 4)) (y.2.1 (h + 5)) 0 (20 * Ls.length) R)).2.1 (h + 6)) ((usR y (h + 5) (va_cpy (y.2.1 (h + 1000 + 4)) (y.2.1 (h + 5)) 0 (20 * Ls.length) R)).2.1 (h + 6)) a (a + 1) (Ls.length - a))) (h + 6) a (nI Ls.length)).2.1 (h + 5) q = va_cpy (y.2.1 (h + 1000 + 4)) (y.2.1 (h + 5)) 0 (20 * Ls.length) R q := fun q => by
        refine rd_ot (by omega) ?_
        rw [usR_ot (by omega), usR_at]
      by_cases ej : j = Ls.length
      · rw [ej, List.getElem?_append_right (Nat.le_refl _), Nat.sub_self] at hj
        have eG : F = G := Option.some.inj hj
        rw [← eG, ej]
        refine ⟨lF, hF, fun i c hc => (e5 _).trans ?_⟩
        have hil := (List.getElem?_eq_some_iff.mp hc).1
        rw [List.length_map] at hil
        rw [pk_cpy_in (by omega) (by omega), show 0 + (20 * Ls.length + i - 20 * Ls.length) = i by omega]
        exact eF i c hc
      · rw [List.getElem?_append_left (by omega)] at hj
        obtain ⟨g1, g2, g3⟩ := hrow j G hj
        refine ⟨g1, g2, fun i c hc => (e5 _).trans ?_⟩
        have hil := (List.getElem?_eq_some_iff.mp hc).1
        rw [List.length_map] at hil
        rw [pk_cpy_out (by omega)]
        exact g3 i c hc
    · rw [List.length_append, List.length_cons, List.length_take, List.length_drop, ll]
      omega
    · have e6 : (usR y (h + 5) (va_cpy (y.2.1 (h + 1000 + 4)) (y.2.1 (h + 5)) 0 (20 * Ls.length) R)).2.1 (h + 6) = y.2.1 (h + 6) := usR_ot (by omega)
      show ∃ j, (usI (usR (usR y (h + 5) (va_cpy (y.2.1 (h + 1000 + 4)) (y.2.1 (h + 5)) 0 (20 * Ls.length) R)) (h + 6) (va_cpy ((usR y (h + 5) (va_cpy (y.2.1 (h + 1000 + 4)) (y.2.1 (h + 5)) 0 (20 * Ls.length) R)).2.1 (h + 6)) ((usR y (h + 5) (va_cpy (y.2.1 (h + 1000 + 4)) (y.2.1 (h + 5)) 0 (20 * Ls.length) R)).2.1 (h + 6)) a (a + 1) (Ls.length - a))) (h + 6) a (nI Ls.length)).2.1 (h + 6) i = nI j ∧ (Ls ++ [F])[j]? = some G
      rw [e6]
      have hil := (List.getElem?_eq_some_iff.mp hi).1
      rw [List.length_append, List.length_cons, List.length_take, List.length_drop] at hil
      by_cases c1 : i < a
      · rw [List.getElem?_append_left (by rw [List.length_take]; omega), List.getElem?_take_of_lt c1] at hi
        obtain ⟨j, j1, j2⟩ := hord i G hi
        have jl := (List.getElem?_eq_some_iff.mp j2).1
        refine ⟨j, rd_ne (by omega) ?_, by rw [List.getElem?_append_left jl]; exact j2⟩
        rw [usR_at, pk_cpy_out (by omega)]
        exact j1
      · rw [List.getElem?_append_right (by rw [List.length_take]; omega), List.length_take, Nat.min_eq_left (by omega)] at hi
        by_cases c2 : i = a
        · rw [c2, Nat.sub_self] at hi
          have eG : F = G := Option.some.inj hi
          rw [c2, ← eG]
          exact ⟨Ls.length, po_usI_at, by rw [List.getElem?_append_right (Nat.le_refl _), Nat.sub_self]; rfl⟩
        · obtain ⟨d, hd⟩ : ∃ d, i - a = d + 1 := ⟨i - a - 1, by omega⟩
          rw [hd, List.getElem?_cons_succ, List.getElem?_drop] at hi
          obtain ⟨j, j1, j2⟩ := hord (a + d) G hi
          have jl := (List.getElem?_eq_some_iff.mp j2).1
          refine ⟨j, rd_ne c2 ?_, by rw [List.getElem?_append_left jl]; exact j2⟩
          rw [usR_at, pk_cpy_in (by omega) (by omega), show a + (i - (a + 1)) = a + d by omega]
          exact j1
    · have hp2 := hpw
      rw [← List.take_append_drop a W, List.pairwise_append] at hp2
      rw [List.pairwise_append, List.pairwise_cons]
      have gt : ∀ x, x ∈ W.drop a → ltF m.1 F x := fun x hx => by
        obtain ⟨i, hi⟩ := List.getElem?_of_mem hx
        rw [List.getElem?_drop] at hi
        exact cm_an _ _ (hhi (a + i) x (by omega) hi)
      have lt : ∀ x, x ∈ W.take a → ltF m.1 x F := fun x hx => by
        obtain ⟨i, hi⟩ := List.getElem?_of_mem hx
        have hil := (List.getElem?_eq_some_iff.mp hi).1
        rw [List.length_take] at hil
        rw [List.getElem?_take_of_lt (by omega)] at hi
        exact hlo i x (by omega) hi
      refine ⟨hp2.1, ⟨gt, hp2.2.1⟩, fun x hx y hy => ?_⟩
      rcases List.mem_cons.mp hy with e | e
      · rw [e]
        exact lt x hx
      · exact hp2.2.2 x hx y e
    · rw [List.mem_append, List.mem_append, hmem, List.mem_singleton, List.mem_cons]
      conv => lhs; rw [← List.take_append_drop a W, List.mem_append]
      constructor
      · rintro ((h9 | h9) | h9)
        · exact Or.inl h9
        · exact Or.inr (Or.inr h9)
        · exact Or.inr (Or.inl h9)
      · rintro (h9 | h9 | h9)
        · exact Or.inl (Or.inl h9)
        · exact Or.inr h9
        · exact Or.inl (Or.inr h9)
    · exact List.nodup_append.mpr ⟨hnd, List.nodup_cons.mpr ⟨List.not_mem_nil, List.nodup_nil⟩, fun x hx y hy e => nin (by rw [List.mem_singleton.mp hy] at e; rw [← e]; exact hx)⟩
  have c1 : ∀ (d i a b : Nat), i + d = 16 → a ≤ b → b ≤ Ls.length → b - a < 2 ^ d → (∀ i G, i < a → W[i]? = some G → ltF m.1 G F) → (∀ i G, b ≤ i → W[i]? = some G → cmpL (G.map (pkG m.1)) (F.map (pkG m.1)) = 1) → Tt (fun K t => c_X10_add vl K t 1 (nI a) (nI b) (nI i) 0 0 h y) Q := by
    intro d
    induction d with
    | zero =>
      intro i a b hi hab hbm hdd hlo hhi
      have eab : a = b := by
        have : b - a < 1 := hdd
        omega
      refine u_X10_add_1 ?_; unfold cm_X10_add_1
      exact w_leT (a := 16) (by omega) (by omega) (c3 a _ _ (by omega) hlo (by rw [eab]; exact hhi))
    | succ d ih =>
      intro i a b hi hab hbm hdd hlo hhi
      rw [Nat.pow_succ] at hdd
      refine u_X10_add_1 ?_; unfold cm_X10_add_1
      rw [nI_add, ushr1 (show a + b < 2 ^ 31 by omega)]
      refine w_leF (a := 16) (by omega) (by omega) (w_le (by omega) (by omega) (fun h9 => c3 a _ _ (by omega) hlo (by rw [show a = b by omega]; exact hhi)) (fun hlt => ?_))
      have hml : (a + b) / 2 < W.length := by omega
      have eW : W[(a + b) / 2]? = some W[(a + b) / 2] := List.getElem?_eq_getElem hml
      obtain ⟨j, j1, j2⟩ := hord _ _ eW
      have jl := (List.getElem?_eq_some_iff.mp j2).1
      obtain ⟨g1, g2, g3⟩ := hrow j _ j2
      refine w_crI (sO_6 hh) rfl (show (a + b) / 2 < 201 by omega) j1 ?_
      rw [m20]
      refine w_cs1 (xc_compare (a := 20 * j) (b := 0) (L := W[(a + b) / 2].map (pkG m.1)) (M := F.map (pkG m.1)) s3 (by omega) (sO_5 hh) (fO_4 (sO_f hh)) (by omega) (by omega) (by omega) (by omega) (by rw [List.length_map]; exact g1) (by rw [List.length_map]; exact lF) g3 (fun i c hc => by rw [Nat.zero_add]; exact eF i c hc)) ?_
      rintro v z ⟨e1, e2⟩
      dsimp only at e1 e2
      rw [e2, nI_1, e1]
      have lh : (W[(a + b) / 2].map (pkG m.1)).length = (F.map (pkG m.1)).length := by rw [List.length_map, List.length_map, g1, lF]
      rcases cm_v (W[(a + b) / 2].map (pkG m.1)) (F.map (pkG m.1)) with e9 | e9 | e9
      · rw [e9]
        have eq := pk_inj _ _ g2 hF (cm_0 _ _ lh e9)
        exact w_ifT rfl (w_some ⟨Or.inl ⟨by rw [← eq]; exact List.mem_of_getElem? j2, h0⟩, fr_rf⟩)
      · rw [e9]
        refine w_ifF (by decide) (w_ifT (by decide) ?_)
        refine u_X10_add_2 ?_; unfold cm_X10_add_2
        rw [nI_1]
        refine ih (i + 1) a ((a + b) / 2) (by omega) (by omega) (by omega) (by omega) hlo (fun i' G hi' hG => ?_)
        by_cases c : i' = (a + b) / 2
        · rw [c, eW] at hG
          rw [← Option.some.inj hG]
          exact e9
        · have l9 := (List.getElem?_eq_some_iff.mp hG).1
          have hlt9 : ltF m.1 W[(a + b) / 2] G := by
            have := List.pairwise_iff_getElem.mp hpw ((a + b) / 2) i' hml l9 (by omega)
            rw [List.getElem?_eq_getElem l9] at hG
            rw [Option.some.inj hG] at this
            exact this
          rcases cm_v (G.map (pkG m.1)) (F.map (pkG m.1)) with f9 | f9 | f9
          · exfalso
            obtain ⟨j', j1', j2'⟩ := hord i' G hG
            obtain ⟨k1, k2, k3⟩ := hrow j' G j2'
            have := cm_0 _ _ (by rw [List.length_map, List.length_map, k1, lF]) f9
            unfold ltF at hlt9
            rw [this, e9] at hlt9
            cases hlt9
          · exact f9
          · exfalso
            have := cm_tr _ _ _ hlt9 f9
            rw [e9] at this
            cases this
      · rw [e9]
        refine w_ifF (by decide) (w_ifF (by decide) ?_)
        refine u_X10_add_2 ?_; unfold cm_X10_add_2
        rw [nI_1]
        refine ih (i + 1) ((a + b) / 2 + 1) b (by omega) (by omega) (by omega) (by omega) (fun i' G hi' hG => ?_) hhi
        by_cases c : i' = (a + b) / 2
        · rw [c, eW] at hG
          rw [← Option.some.inj hG]
          exact e9
        · have l9 := (List.getElem?_eq_some_iff.mp hG).1
          have := List.pairwise_iff_getElem.mp hpw i' ((a + b) / 2) l9 hml (by omega)
          rw [List.getElem?_eq_getElem l9] at hG
          rw [Option.some.inj hG] at this
          exact cm_tr _ _ _ this e9
  refine e_X10_add ?_
  refine u_X10_add_0 ?_; unfold cm_X10_add_0
  refine w_rdF s4 (c1 16 0 0 Ls.length (by omega) (by omega) (by omega) (by omega) (fun i G hi => absurd hi (Nat.not_lt_zero _)) (fun i G hi hG => ?_))
  have := (List.getElem?_eq_some_iff.mp hG).1
  omega
end XS9B
