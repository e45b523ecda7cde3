/-! the class: Coder.collectParts, encode -/
theorem lexD_sym : ∀ (A B : List Nat), lexD A B = - lexD B A
  | [], [] => rfl
  | [], b :: B => rfl
  | a :: A, [] => by
    show ((a :: A).length : Int) = - - ((a :: A).length : Int)
    omega
  | a :: A, b :: B => by
    show (if a = b then lexD A B else (a : Int) - b) = - (if b = a then lexD B A else (b : Int) - a)
    by_cases e : a = b
    · rw [if_pos e, if_pos e.symm]
      exact lexD_sym A B
    · rw [if_neg e, if_neg (fun h => e h.symm)]
      omega
theorem lexD_tr : ∀ (A B C : List Nat), lexD A B ≤ 0 → lexD B C ≤ 0 → lexD A C ≤ 0
  | [], _, C => fun _ _ => by
    show - (C.length : Int) ≤ 0
    omega
  | a :: A, [], C => fun h _ => by
    have h1 : ((a :: A).length : Int) ≤ 0 := h
    rw [List.length_cons] at h1
    omega
  | a :: A, b :: B, [] => fun _ h => by
    have h1 : ((b :: B).length : Int) ≤ 0 := h
    rw [List.length_cons] at h1
    omega
  | a :: A, b :: B, c :: C => fun h1 h2 => by
    have h1' : (if a = b then lexD A B else (a : Int) - b) ≤ 0 := h1
    have h2' : (if b = c then lexD B C else (b : Int) - c) ≤ 0 := h2
    show (if a = c then lexD A C else (a : Int) - c) ≤ 0
    by_cases e1 : a = b
    · rw [if_pos e1] at h1'
      by_cases e2 : b = c
      · rw [if_pos e2] at h2'
        rw [if_pos (e1.trans e2)]
        exact lexD_tr A B C h1' h2'
      · rw [if_neg e2] at h2'
        rw [if_neg (by omega)]
        omega
    · rw [if_neg e1] at h1'
      by_cases e2 : b = c
      · rw [if_neg (by omega)]
        omega
      · rw [if_neg e2] at h2'
        rw [if_neg (by omega)]
        omega
theorem cmpC_sym {A B : cdT} : cmpC A B = - cmpC B A := by
  unfold cmpC
  by_cases e : A.1 = B.1
  · rw [if_pos e, if_pos e.symm]
    exact lexD_sym _ _
  · rw [if_neg e, if_neg (fun h => e h.symm)]
    omega
theorem cmpC_tr {A B C : cdT} (h1 : cmpC A B ≤ 0) (h2 : cmpC B C ≤ 0) : cmpC A C ≤ 0 := by
  unfold cmpC at *
  by_cases e1 : A.1 = B.1
  · rw [if_pos e1] at h1
    by_cases e2 : B.1 = C.1
    · rw [if_pos e2] at h2
      rw [if_pos (e1.trans e2)]
      exact lexD_tr _ _ _ h1 h2
    · rw [if_neg e2] at h2
      rw [if_neg (by omega)]
      omega
  · rw [if_neg e1] at h1
    by_cases e2 : B.1 = C.1
    · rw [if_neg (by omega)]
      omega
    · rw [if_neg e2] at h2
      rw [if_neg (by omega)]
      omega
theorem lexD_rf : ∀ A : List Nat, lexD A A = 0
  | [] => rfl
  | a :: A => by
    show (if a = a then lexD A A else (a : Int) - a) = 0
    rw [if_pos rfl]
    exact lexD_rf A
theorem cmpC_rf {A : cdT} : cmpC A A = 0 := by
  unfold cmpC
  rw [if_pos rfl]
  exact lexD_rf _
/-- the table is in order -/
def srt (Cs : List cdT) (os : List Nat) : Prop := ∀ i j, i < j → j < os.length → cmpC (atC Cs os i) (atC Cs os j) ≤ 0
theorem srt_mo {Cs : List cdT} {os : List Nat} (h : srt Cs os) (B : cdT) : moC Cs os B := by
  intro i j hij hj
  have h1 := h i j hij hj
  have s1 := cmpC_sym (A := atC Cs os i) (B := B)
  have s2 := cmpC_sym (A := atC Cs os j) (B := B)
  refine ⟨fun h2 => ?_, fun h2 => ?_⟩
  · apply Int.lt_of_not_ge
    intro h3
    have h4 := cmpC_tr (A := B) (B := atC Cs os i) (C := atC Cs os j) (by omega) h1
    omega
  · apply Int.lt_of_not_ge
    intro h3
    have h4 := cmpC_tr (A := atC Cs os i) (B := atC Cs os j) (C := B) h1 (by omega)
    omega
theorem atC_ins {Cs : List cdT} {os : List Nat} {B : cdT} {k j : Nat} (hk : k ≤ os.length) (hl : Cs.length = os.length) (hos : ∀ (j s : Nat), os[j]? = some s → s < Cs.length) (hj : j < os.length + 1) : atC (Cs ++ [B]) (insO os k os.length) j = if j < k then atC Cs os j else if j = k then B else atC Cs os (j - 1) := by
  have key : ∀ i, i < os.length → (Cs ++ [B]).getD (os.getD i 0) (0, []) = atC Cs os i := by
    intro i hi
    have e : os[i]? = some os[i] := List.getElem?_eq_getElem hi
    have hs := hos i _ e
    unfold atC
    rw [List.getD_eq_getElem?_getD, List.getD_eq_getElem?_getD (l := Cs), List.getD_eq_getElem?_getD, e]
    show ((Cs ++ [B])[os[i]]?).getD _ = (Cs[os[i]]?).getD _
    rw [List.getElem?_append_left hs]
  unfold atC at key ⊢
  rw [List.getD_eq_getElem?_getD (l := insO os k os.length), insO_at hk]
  by_cases h1 : j < k
  · rw [if_pos h1, if_pos h1, ← List.getD_eq_getElem?_getD]
    exact key j (by omega)
  · rw [if_neg h1, if_neg h1]
    by_cases h2 : j = k
    · rw [if_pos h2, if_pos h2]
      show (Cs ++ [B]).getD os.length (0, []) = B
      rw [List.getD_eq_getElem?_getD, List.getElem?_append_right (by omega), show os.length - Cs.length = 0 by omega]
      rfl
    · rw [if_neg h2, if_neg h2, ← List.getD_eq_getElem?_getD]
      exact key (j - 1) (by omega)
theorem srt_ins {Cs : List cdT} {os : List Nat} {B : cdT} {k : Nat} (hk : k ≤ os.length) (hl : Cs.length = os.length) (hos : ∀ (j s : Nat), os[j]? = some s → s < Cs.length) (hs : srt Cs os) (h1 : ∀ i, i < k → cmpC (atC Cs os i) B ≤ 0) (h2 : ∀ i, k ≤ i → i < os.length → cmpC B (atC Cs os i) ≤ 0) : srt (Cs ++ [B]) (insO os k os.length) := by
  intro i j hij hj
  rw [insO_len hk] at hj
  rw [atC_ins hk hl hos (by omega), atC_ins hk hl hos (by omega)]
  by_cases a1 : j < k
  · rw [if_pos a1, if_pos (by omega)]
    exact hs i j hij (by omega)
  · rw [if_neg a1]
    by_cases a2 : j = k
    · rw [if_pos a2, if_pos (by omega)]
      exact h1 i (by omega)
    · rw [if_neg a2]
      by_cases a3 : i < k
      · rw [if_pos a3]
        exact hs i (j - 1) (by omega) (by omega)
      · rw [if_neg a3]
        by_cases a4 : i = k
        · rw [if_pos a4]
          exact h2 (j - 1) (by omega) (by omega)
        · rw [if_neg a4]
          exact hs (i - 1) (j - 1) (by omega) (by omega)
theorem ins_perm {os : List Nat} {k n : Nat} (h : os.Perm (List.range n)) : (insO os k n).Perm (List.range (n + 1)) := by
  rw [List.range_succ]
  unfold insO
  have h1 : (os.take k ++ [n] ++ os.drop k).Perm (os.take k ++ os.drop k ++ [n]) := by
    rw [List.append_assoc, List.append_assoc]
    exact List.Perm.append_left _ List.perm_append_comm
  refine h1.trans ?_
  rw [List.take_append_drop]
  exact h.append_right _
/-- the codes of a net's parts and their order -/
def cpZ (T : ow_NT) (n : Nat) (Cs : List cdT) (os : List Nat) : Prop := Cs.length = n ∧ (∀ q C, Cs[q]? = some C → epC T (np_parts T.1 T.2.2.1.1).1 (nI q) C ∧ C.2.length = ptL T.1 T.2.2.1 q) ∧ os.Perm (List.range n) ∧ srt Cs os
theorem tabC_os {y : ow_MS} {g : Nat} {Cs : List cdT} {os : List Nat} (h : tabC y g Cs os) : ∀ (j s : Nat), os[j]? = some s → s < Cs.length := fun j s e => (h.2.2.2 j s e).2
/-- each part has a crossing: at most c parts -/
theorem parts_le {c : Nat} {S : ow_NP} (hv : vn c S) (hc : c ≤ 12) : (np_parts c S.1).2 ≤ c := by
  obtain ⟨i1, i2, i3, i4⟩ := parts_I hv hc
  have hpt : ∀ r, r < (np_parts c S.1).2 → 2 ≤ cntB (fun v => decide ((np_parts c S.1).1 v = nI r) && true) (2 * c) := by
    intro r hr
    obtain ⟨v, hv2, ev⟩ := i3 r hr
    have em := (i1 v hv2).2.trans ev
    have h1 := cntB_rm (q := fun v => decide ((np_parts c S.1).1 v = nI r) && true) hv2 (by rw [decide_eq_true ev]; rfl)
    have hne : mt v ≠ v := by unfold mt; split <;> omega
    have h2 := cntB_rm (q := fun k => (decide ((np_parts c S.1).1 k = nI r) && true) && decide (k ≠ v)) (mt_lt hv2) (by rw [decide_eq_true em, decide_eq_true hne]; rfl)
    omega
  have h1 := cnt_parts (F := (np_parts c S.1).1) (q := fun _ => true) (P := (np_parts c S.1).2) (by omega) (2 * c) i2
  have h2 := cntB_le (fun _ => true) (2 * c)
  have h3 : ∀ n, n ≤ (np_parts c S.1).2 → 2 * n ≤ smN (fun r => cntB (fun v => decide ((np_parts c S.1).1 v = nI r) && true) (2 * c)) n := by
    intro n
    induction n with
    | zero => exact fun _ => Nat.zero_le _
    | succ n ih =>
      intro hn
      have := ih (by omega)
      have h4 := hpt n (by omega)
      show _ ≤ smN _ n + cntB (fun v => decide ((np_parts c S.1).1 v = nI n) && true) (2 * c)
      omega
  have := h3 _ (Nat.le_refl _)
  omega
def cpP (k g h q : Nat) : Prop := epP k q ∨ cV g q ∨ cQ h q
section CF
variable {vl : Nat → Nat} {y : ow_MS} {h k g : Nat} {T : ow_NT}
theorem lfc_ex {G F : Nat → Int32} {p : Int32} : ∀ n, (∃ v, v < n ∧ F v = p) → ∃ v, v < n ∧ F v = p ∧ cd_first G v = lfc G F p n
  | 0, ⟨v, hv, _⟩ => absurd hv (Nat.not_lt_zero _)
  | n + 1, ⟨v, hv, ev⟩ => by
    have b2 := first_b (G := G) (v := n)
    show ∃ v, v < n + 1 ∧ F v = p ∧ cd_first G v = if F n = p then (if cd_first G n < lfc G F p n then cd_first G n else lfc G F p n) else lfc G F p n
    by_cases e : F n = p
    · rw [if_pos e]
      by_cases e2 : cd_first G n < lfc G F p n
      · exact ⟨n, by omega, e, by rw [if_pos e2]⟩
      · rw [if_neg e2]
        have h8 : lfc G F p n ≠ 8 := by omega
        have hex : ∃ w, w < n ∧ F w = p := by
          apply Classical.byContradiction
          intro hn
          apply h8
          have : ∀ m, m ≤ n → lfc G F p m = 8 := by
            intro m
            induction m with
            | zero => exact fun _ => rfl
            | succ m ih =>
              intro hm
              show (if F m = p then _ else lfc G F p m) = 8
              rw [if_neg (fun e3 => hn ⟨m, by omega, e3⟩)]
              exact ih (by omega)
          exact this n (Nat.le_refl _)
        obtain ⟨w, hw, e3, e4⟩ := lfc_ex (G := G) n hex
        exact ⟨w, by omega, e3, e4⟩
    · rw [if_neg e]
      have hvn : v < n := by
        rcases Nat.lt_or_ge v n with h9 | h9
        · exact h9
        · exact absurd (by rw [← show v = n by omega]; exact ev) e
      obtain ⟨w, hw, e3, e4⟩ := lfc_ex (G := G) n ⟨v, hvn, ev⟩
      exact ⟨w, by omega, e3, e4⟩
theorem u_X2_collectParts_1 {vl : Nat → Nat} {x3 : Int32} {x4 : Int32} {r0 : Nat} {r1 : Nat} {r2 : Nat} {t0 : Int32} {z : ow_MS} {Q : ow_MS → Prop} (H : Tt (fun K k => cm_X2_collectParts_1 vl K (c_X2_collectParts vl K k) x3 x4 r0 r1 r2 t0 z) Q) : Tt (fun K k => c_X2_collectParts vl K k 1 x3 x4 r0 r1 r2 t0 z) Q := w_un (fun _ _ => rfl) H
theorem u_X2_collectParts_2 {vl : Nat → Nat} {x3 : Int32} {x4 : Int32} {r0 : Nat} {r1 : Nat} {r2 : Nat} {t0 : Int32} {z : ow_MS} {Q : ow_MS → Prop} (H : Tt (fun K k => cm_X2_collectParts_2 vl K (c_X2_collectParts vl K k) x3 x4 r0 r1 r2 t0 z) Q) : Tt (fun K k => c_X2_collectParts vl K k 2 x3 x4 r0 r1 r2 t0 z) Q := w_un (fun _ _ => rfl) H
theorem e_X2_collectParts {vl : Nat → Nat} {r0 : Nat} {r1 : Nat} {r2 : Nat} {z : ow_MS} {Q : ow_MS → Prop} (H : Tt (fun K k => c_X2_collectParts vl K k 0 0 0 r0 r1 r2 0 z) Q) : Te (fun K => ce_X2_collectParts vl K r0 r1 r2 z) Q := w_te H
theorem u_X2_collectParts_0 {vl : Nat → Nat} {x3 : Int32} {x4 : Int32} {r0 : Nat} {r1 : Nat} {r2 : Nat} {t0 : Int32} {z : ow_MS} {Q : ow_MS → Prop} (H : Tt (fun K k => cm_X2_collectParts_0 vl K (c_X2_collectParts vl K k) x3 x4 r0 r1 r2 t0 z) Q) : Tt (fun K k => c_X2_collectParts vl K k 0 x3 x4 r0 r1 r2 t0 z) Q := w_un (fun _ _ => rfl) H
theorem tc_collectParts (hk : kH k) (hh : nH h) (hg : tH g 12) (hgk : g + 6 ≤ k ∨ k + 3000 ≤ g) (hgh : h + 12 ≤ g ∨ g + 6 ≤ h) (hy : cAt y h T) (t1 : vn T.1 T.2.2.1) (t2 : T.1 ≤ 12) (t3 : ow_b24 T.2.2.1) (hlen : ∀ r, r < (np_parts T.1 T.2.2.1.1).2 → ptL T.1 T.2.2.1 r ≤ 30) (hby : byR y (k + 2001)) (hb3 : byR y (g + 1)) : Te (fun K => ce_X2_collectParts vl K k h g y) (fun y1 => (∃ Cs os, cpZ T (np_parts T.1 T.2.2.1.1).2 Cs os ∧ tabC y1 g Cs os) ∧ byR y1 (k + 2001) ∧ byR y1 (g + 1) ∧ cAt y1 h T ∧ fr (cpP k g h) y y1) := by
  have hdj := kH_dj hk hh
  have hpl := parts_le t1 t2
  obtain ⟨p1, p2, p3, p4⟩ := parts_I t1 t2
  let F := (np_parts T.1 T.2.2.1.1).1
  let n := (np_parts T.1 T.2.2.1.1).2
  let Q : ow_MS → Prop := fun y1 => (∃ Cs os, cpZ T n Cs os ∧ tabC y1 g Cs os) ∧ byR y1 (k + 2001) ∧ byR y1 (g + 1) ∧ cAt y1 h T ∧ fr (cpP k g h) y y1
  have c1 : ∀ (d i : Nat) (z : ow_MS) (Cs : List cdT) (os : List Nat), i + d = n → cpZ T i Cs os → tabC z g Cs os → (∀ j, j < 2 * T.1 → z.2.1 (h + 6) j = F j) → z.1 (h + 11) = nI n → byR z (k + 2001) → byR z (g + 1) → cAt z h T → fr (cpP k g h) y z → Tt (fun K t => c_X2_collectParts vl K t 1 (nI i) 0 k h g 0 z) Q := by
    intro d
    induction d with
    | zero =>
      intro i z Cs os hi hR hC h6 h11 hb1 hb2 hz hf
      have e : i = n := by omega
      subst e
      refine u_X2_collectParts_1 ?_; unfold cm_X2_collectParts_1
      exact w_rdF h11 (w_leT (by omega) (by omega) (w_some ⟨⟨Cs, os, hR, hC⟩, hb1, hb2, hz, hf⟩))
    | succ d ih =>
      intro i z Cs os hi hR hC h6 h11 hb1 hb2 hz hf
      obtain ⟨r1, r2, r3, r4⟩ := hR
      have hos := tabC_os hC
      have hlo : Cs.length = os.length := hC.2.1
      refine u_X2_collectParts_1 ?_; unfold cm_X2_collectParts_1
      refine w_rdF h11 (w_leF (by omega) (by omega) (w_cs0 (tc_encodePart (F := F) (n0 := ptL T.1 T.2.2.1 i) hk hh hz t2 t3 h6 (hlen i (by omega)) (fun v hv ev => tf_len_pt T.2.2.2 t1 t2 hv ev) hb1) ?_))
      rintro z1 ⟨⟨C, q1, q2, q3⟩, q4, q5⟩
      have hCl : C.2.length = ptL T.1 T.2.2.1 i := by
        obtain ⟨v, hv, ev⟩ := p3 i (by omega)
        obtain ⟨w, hw, e1, e2⟩ := lfc_ex (G := T.2.2.2) (F := F) (p := nI i) (2 * T.1) ⟨v, hv, ev⟩
        rcases q1.2 with ⟨a1, a2⟩ | ⟨u, a1, a2⟩
        · exact absurd ⟨e1, e2⟩ (a1 w hw)
        · rw [a2, tfL_len]
          exact tf_len_pt T.2.2.2 t1 t2 a1.1 a1.2.1.1
      have hC1 : tabC z1 g Cs os := tabC_fr q5 (fun q hq hp => by unfold cV at hq; unfold epP at hp; omega) hC
      have hb21 : byR z1 (g + 1) := by
        intro j
        rw [(q5 (g + 1) (by unfold epP; omega)).2.1]
        exact hb2 j
      have fin : ∀ (j : Nat) (x4 : Int32), j ≤ os.length → ((j < os.length ∧ atC Cs os j = C) ∨ (moC Cs os C → (∀ i, i < j → cmpC (atC Cs os i) C < 0) ∧ ∀ i, j ≤ i → i < os.length → 0 < cmpC (atC Cs os i) C)) → Tt (fun K t => c_X2_collectParts vl K t 2 (nI i) x4 k h g (nI j) z1) Q := by
        intro j x4 s1 s2
        refine u_X2_collectParts_2 ?_; unfold cm_X2_collectParts_2
        refine w_cs0 (tc_insert hg (kH_one hk) (by omega) Nat.one_pos hC1 (by omega) s1 q2 q3 q4) ?_
        rintro z2 ⟨s3, s4, s5⟩
        rw [if_pos (by omega)] at s3
        rw [nI_1]
        have hord : (∀ a, a < j → cmpC (atC Cs os a) C ≤ 0) ∧ ∀ a, j ≤ a → a < os.length → cmpC C (atC Cs os a) ≤ 0 := by
          rcases s2 with ⟨u1, u2⟩ | u1
          · rw [← u2]
            refine ⟨fun a ha => r4 a j ha u1, fun a ha ha2 => ?_⟩
            by_cases e : j = a
            · rw [e, cmpC_rf]
              exact Int.le_refl _
            · exact r4 j a (by omega) ha2
          · have u2 := u1 (srt_mo r4 C)
            refine ⟨fun a ha => Int.le_of_lt (u2.1 a ha), fun a ha ha2 => ?_⟩
            have := u2.2 a ha ha2
            have := cmpC_sym (A := C) (B := atC Cs os a)
            omega
        have hol : os.length = i := by omega
        have hz1 : cAt z1 h T := cAt_fr q5 (fun q hq hp => by unfold cP at hq; unfold epP at hp; omega) hz
        refine ih (i + 1) z2 (Cs ++ [C]) (insO os j os.length) (by omega) ⟨by rw [List.length_append]; show _ + 1 = _; omega, fun q C' e => ?_, ?_, srt_ins s1 hlo hos r4 hord.1 hord.2⟩ s3 (fun v hv => ?_) ?_ ?_ (s4 hb21) (cAt_fr s5 (fun q hq hp => by unfold cP at hq; unfold cV at hp; omega) hz1) (fr_tr hf (fr_tr (fr_mono (fun q hq => Or.inl hq) q5) (fr_mono (fun q hq => Or.inr (Or.inl hq)) s5)))
        · by_cases e1 : q < Cs.length
          · rw [List.getElem?_append_left e1] at e
            exact r2 q C' e
          · have := (List.getElem?_eq_some_iff.mp e).1
            rw [List.length_append] at this
            have e2 : q = i := by
              have : q < Cs.length + 1 := this
              omega
            rw [List.getElem?_append_right (by omega), show q - Cs.length = 0 by omega] at e
            cases e
            rw [e2]
            exact ⟨q1, hCl⟩
        · rw [hol]
          exact ins_perm r3
        · rw [(s5 (h + 6) (by unfold cV; omega)).2.1, (q5 (h + 6) (by unfold epP; omega)).2.1]
          exact h6 v hv
        · rw [(s5 (h + 11) (by unfold cV; omega)).1, (q5 (h + 11) (by unfold epP; omega)).1]
          exact h11
        · intro v
          rw [(s5 (k + 2001) (by unfold cV; omega)).2.1]
          exact q4 v
      refine w_cs1 (tc_find hg (kH_one hk) Nat.one_pos hC1 (by omega) q2 q3) ?_
      rintro v y1 ⟨hv, e2⟩
      dsimp only at hv e2
      subst e2
      rcases hv with ⟨j, k1, k2, k3⟩ | ⟨j, k1, k2, k3⟩
      · rw [k2]
        exact w_leT (a := 0) (by omega) (by omega) (fin j _ (by omega) (Or.inl ⟨k1, k3⟩))
      · rw [k2, show (-1 : Int32) - iI (-1 - (j : Int)) = nI j from by
          rw [show (-1 : Int32) = iI (-1) from rfl, iI_sub, nI_iI]
          congr 1
          omega]
        refine w_ifF (fun h9 => ?_) (fin j _ k1 (Or.inr k3))
        have := (iI_le (a := 0) (b := -1 - (j : Int)) (by omega) (by omega) (by omega) (by omega)).mp h9
        omega
  have hof := np_parts_of (N := T.2.2.1.1) (c := T.1) (fun a ha => (t1 a ha).1) t2 (y.2.1 (h + 6))
  refine e_X2_collectParts ?_
  refine u_X2_collectParts_0 ?_; unfold cm_X2_collectParts_0
  refine w_cs0 (tc_markParts hh hy (fun a ha => (t1 a ha).1) t2) ?_
  rintro z1 ⟨m1, m2, m3⟩
  have hz1 : cAt z1 h T := cAt_fr m3 (fun q hq hp => by unfold cP at hq; unfold cQ at hp; omega) hy
  refine w_wrF (c1 n 0 _ [] [] (by omega) ⟨rfl, fun q C e => (by rw [List.getElem?_nil] at e; cases e), List.Perm.refl _, fun i j _ hj => absurd hj (Nat.not_lt_zero _)⟩ ⟨po_usF_at, rfl, fun s C e => (by rw [List.getElem?_nil] at e; cases e), fun j s e => (by rw [List.getElem?_nil] at e; cases e)⟩ (fun j hj => ?_) ?_ ?_ ?_ (cAt_fr (P := cV g) (fr_F ⟨by omega, by omega⟩) (fun q hq hp => by unfold cP at hq; unfold cV at hp; omega) hz1) (fr_F2 (fr_mono (fun q hq => Or.inr (Or.inr hq)) m3) (Or.inr (Or.inl ⟨by omega, by omega⟩))))
  · show z1.2.1 (h + 6) j = F j
    rw [m1 j]
    exact hof.1 j hj
  · rw [rf_ot (by omega) m2]
    rw [hof.2]
  · intro j
    show fits .byte (.int (z1.2.1 (k + 2001) j)) = true
    rw [(m3 (k + 2001) (by unfold cQ; omega)).2.1]
    exact hby j
  · intro j
    show fits .byte (.int (z1.2.1 (g + 1) j)) = true
    rw [(m3 (g + 1) (by unfold cQ; omega)).2.1]
    exact hb3 j
end CF
