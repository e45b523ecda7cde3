/-! summit and conjugate: the answers are one; summit of both sides -/
theorem pw_un {α : Type} {r : α → α → Prop} (hi : ∀ a b, r a b → r b a → False) : ∀ (A B : List α), A.Pairwise r → B.Pairwise r → (∀ x, x ∈ A ↔ x ∈ B) → A = B
  | [], [], _, _, _ => rfl
  | [], b :: B, _, _, h => absurd ((h b).mpr List.mem_cons_self) List.not_mem_nil
  | a :: A, [], _, _, h => absurd ((h a).mp List.mem_cons_self) List.not_mem_nil
  | a :: A, b :: B, hA, hB, h => by
    rw [List.pairwise_cons] at hA hB
    have e : a = b := by
      rcases List.mem_cons.mp ((h a).mp List.mem_cons_self) with h1 | h1
      · exact h1
      · rcases List.mem_cons.mp ((h b).mpr List.mem_cons_self) with h3 | h3
        · exact h3.symm
        · exact (hi a b (hA.1 b h3) (hB.1 a h1)).elim
    subst e
    rw [pw_un hi A B hA.2 hB.2 (fun x => ⟨fun hx => ?_, fun hx => ?_⟩)]
    · rcases List.mem_cons.mp ((h x).mp (List.mem_cons_of_mem _ hx)) with h1 | h1
      · exact (hi a a (by have := hA.1 x hx; rw [h1] at this; exact this) (by have := hA.1 x hx; rw [h1] at this; exact this)).elim
      · exact h1
    · rcases List.mem_cons.mp ((h x).mpr (List.mem_cons_of_mem _ hx)) with h1 | h1
      · exact (hi a a (by have := hB.1 x hx; rw [h1] at this; exact this) (by have := hB.1 x hx; rw [h1] at this; exact this)).elim
      · exact h1
theorem lt_as {n : Nat} (A B : List Nat) (h1 : ltF n A B) (h2 : ltF n B A) : False := by
  have := cm_tr _ _ _ h1 h2
  rw [cm_rf] at this
  exact absurd this (by decide)
section XSCC
variable {m : N5}
/-- a set of more than 200, of just c -/
def opS (a : Gn m) : Prop := ∃ (k : Int) (R : Nat), nrs a k ∧ nls a (k + (R : Int)) ∧ smB a k R
def clS (a : Gn m) (c : Nat) : Prop := ∃ (k : Int) (R : Nat), nrs a k ∧ nls a (k + (R : Int)) ∧ (∃ F, sss a k R F) ∧ c ≤ 200 ∧ cnt9 (sss a k R) c
theorem opt_uni {a : Gn m} {k k' : Int} {R R' : Nat} {F F' : List Nat} (h1 : nrs a k) (h2 : nls a (k + (R : Int))) (h3 : sss a k R F) (h1' : nrs a k') (h2' : nls a (k' + (R' : Int))) (h3' : sss a k' R' F') : k = k' ∧ R = R' := by
  obtain ⟨n, l, hF, x, e⟩ := h3
  obtain ⟨n', l', hF', x', e2⟩ := h3'
  have a1 : ¬ k + 1 ≤ k' := fun h9 => h1 x' (by rw [← e2]; exact (inf_F n').mpr h9)
  have a2 : ¬ k' + 1 ≤ k := fun h9 => h1' x (by rw [← e]; exact (inf_F n).mpr h9)
  have a3 : ¬ k + (F.length : Int) ≤ k' + (R' : Int) - 1 := fun h9 => h2' x (by rw [← e]; exact (sup_F n).mpr h9)
  have a4 : ¬ k' + (F'.length : Int) ≤ k + (R : Int) - 1 := fun h9 => h2 x' (by rw [← e2]; exact (sup_F n').mpr h9)
  rw [l] at a3
  rw [l'] at a4
  omega
theorem smB_s {a : Gn m} {k : Int} {R : Nat} (h : smB a k R) : ∃ F, sss a k R F := by
  obtain ⟨Ls, h1, h2, h3⟩ := h
  exact ⟨Ls[0], h3 _ (List.getElem_mem (by omega))⟩
theorem op_cl {a : Gn m} {c : Nat} (h : opS a) (h' : clS a c) : False := by
  obtain ⟨k, R, q1, q2, q3⟩ := h
  obtain ⟨k', R', q1', q2', ⟨F', q3'⟩, q4, L', q5, q6, q7⟩ := h'
  obtain ⟨F, hF⟩ := smB_s q3
  obtain ⟨rfl, rfl⟩ := opt_uni q1 q2 hF q1' q2' q3'
  obtain ⟨Ls, s1, s2, s3⟩ := q3
  have := nodup_le Ls L' s1 (fun F hF => (q6 F).mpr (s3 F hF))
  omega
theorem cl_cl {a : Gn m} {c c' : Nat} (h : clS a c) (h' : clS a c') : c = c' := by
  obtain ⟨k, R, q1, q2, ⟨F, q3⟩, -, q5⟩ := h
  obtain ⟨k', R', q1', q2', ⟨F', q3'⟩, -, q5'⟩ := h'
  obtain ⟨rfl, rfl⟩ := opt_uni q1 q2 q3 q1' q2' q3'
  exact cnt_uni q5 q5'
/-- what summit answers -/
def smV9 (a : Gn m) (v : Int32) : Prop := v = -2 ∧ opS a ∨ ∃ c, v = nI c ∧ clS a c
theorem sm_uni {a : Gn m} {v v' : Int32} (h : smV9 a v) (h' : smV9 a v') : v = v' := by
  rcases h with ⟨e, h⟩ | ⟨c, e, h⟩
  · rcases h' with ⟨e2, h'⟩ | ⟨c', e2, h'⟩
    · exact e.trans e2.symm
    · exact (op_cl h h').elim
  · rcases h' with ⟨e2, h'⟩ | ⟨c', e2, h'⟩
    · exact (op_cl h' h).elim
    · rw [e, e2, cl_cl h h']
/-- conjugate ones have the same set -/
theorem nrs_c {a b x : Gn m} {k : Int} (e : b = cnj x a) (h : nrs a k) : nrs b k := fun y => by
  rw [e, ← cnj_m]
  exact h _
theorem nls_c {a b x : Gn m} {s : Int} (e : b = cnj x a) (h : nls a s) : nls b s := fun y => by
  rw [e, ← cnj_m]
  exact h _
theorem cj_bk {a b x : Gn m} (e : b = cnj x a) : a = cnj (gi x) b := by
  have h := cnj_all e (g1 m)
  rw [cnj_1] at h
  rw [h]
  congr 1
  exact g1_r _
theorem sss_c {a b x : Gn m} {k : Int} {R : Nat} {F : List Nat} (e : b = cnj x a) (h : sss a k R F) : sss b k R F := by
  obtain ⟨n, l, hF, y, ey⟩ := h
  refine ⟨n, l, hF, gm (gi x) y, ?_⟩
  rw [ey]
  exact cnj_all e y
theorem cl_c {a b x : Gn m} {c : Nat} (e : b = cnj x a) (h : clS a c) : clS b c := by
  obtain ⟨k, R, q1, q2, ⟨F, q3⟩, q4, L, q5, q6, q7⟩ := h
  exact ⟨k, R, nrs_c e q1, nls_c e q2, ⟨F, sss_c e q3⟩, q4, L, q5, fun F => (q6 F).trans ⟨sss_c e, sss_c (cj_bk e)⟩, q7⟩
/-- what conjugate answers -/
def cjV9 (a b : Gn m) (v : Int32) : Prop := v = -2 ∧ (opS a ∨ opS b) ∨ (∃ c, clS a c) ∧ (∃ c, clS b c) ∧ (v = 1 ∧ (∃ x, b = cnj x a) ∨ v = 0 ∧ ¬ ∃ x, b = cnj x a)
theorem cv_uni {a b : Gn m} {v v' : Int32} (h : cjV9 a b v) (h' : cjV9 a b v') : v = v' := by
  have no : (opS a ∨ opS b) → (∃ c, clS a c) → (∃ c, clS b c) → False := fun h ⟨c, h1⟩ ⟨c', h2⟩ => h.elim (fun h9 => op_cl h9 h1) (fun h9 => op_cl h9 h2)
  rcases h with ⟨e, h⟩ | ⟨h1, h2, h3⟩
  · rcases h' with ⟨e2, h'⟩ | ⟨h1', h2', h3'⟩
    · exact e.trans e2.symm
    · exact (no h h1' h2').elim
  · rcases h' with ⟨e2, h'⟩ | ⟨h1', h2', h3'⟩
    · exact (no h' h1 h2).elim
    · rcases h3 with ⟨e, h3⟩ | ⟨e, h3⟩
      · rcases h3' with ⟨e2, h3'⟩ | ⟨e2, h3'⟩
        · exact e.trans e2.symm
        · exact absurd h3 h3'
      · rcases h3' with ⟨e2, h3'⟩ | ⟨e2, h3'⟩
        · exact absurd h3' h3
        · exact e.trans e2.symm
end XSCC
section XSCD
variable {n : Nat}
theorem fo_bd {w : Nat → Nat × Bool} : ∀ (l : Nat), (foT n w l).1.length = l ∧ -(l : Int) ≤ (foT n w l).2 ∧ (foT n w l).2 ≤ 0
  | 0 => ⟨rfl, by show -((0 : Nat) : Int) ≤ (0 : Int); omega, Int.le_refl _⟩
  | l + 1 => by
    obtain ⟨h1, h2, h3⟩ := fo_bd (w := w) l
    have e : foT n w (l + 1) = stB9 n (w l) (foT n w l) := rfl
    rw [e]
    unfold stB9
    split
    · refine ⟨?_, ?_, ?_⟩
      · simp [h1]
      · show -((l + 1 : Nat) : Int) ≤ (foT n w l).2 - 1
        omega
      · show (foT n w l).2 - 1 ≤ 0
        omega
    · refine ⟨?_, ?_, ?_⟩
      · simp [h1]
      · show -((l + 1 : Nat) : Int) ≤ (foT n w l).2
        omega
      · exact h3
theorem fo_cg {w w' : Nat → Nat × Bool} : ∀ (l : Nat), (∀ i, i < l → w i = w' i) → foT n w l = foT n w' l
  | 0, _ => rfl
  | l + 1, h => by
    show stB9 n (w l) (foT n w l) = stB9 n (w' l) (foT n w' l)
    rw [h l (Nat.lt_succ_self _), fo_cg l (fun i hi => h i (by omega))]
theorem lx_inj {p q : Nat × Bool} (hp : p.1 + 1 < 10) (hq : q.1 + 1 < 10) (h : lx9 p = lx9 q) : p = q := by
  have key : ∀ (a b : Fin 10) (s t : Bool), lx9 (a.1, s) = lx9 (b.1, t) → a = b ∧ s = t := by decide
  obtain ⟨a, s⟩ := p
  obtain ⟨b, t⟩ := q
  have hp : a + 1 < 10 := hp
  have hq : b + 1 < 10 := hq
  obtain ⟨k1, k2⟩ := key ⟨a, by omega⟩ ⟨b, by omega⟩ s t h
  cases k1
  cases k2
  rfl
theorem fo_sl (m : N5) {w : Nat → Nat × Bool} {l j : Nat} {F : List Nat} (h0 : okT m.1 (foT m.1 w l).1) (f1 : nfL m.1 F) (f2 : eqT m.1 (foT m.1 w l).1 (List.replicate j (gNN m.1 - 1) ++ F)) : F.length + j ≤ l := by
  have e := F_eq (m := m) (k := 0) (hT := h0) (hF := f1.1) f2
  have a1 : gle (gF m 0 (foT m.1 w l).1 h0) (gD m ((foT m.1 w l).1.length : Int)) := by
    unfold gF
    have : gD m 0 = g1 m := rfl
    rw [this, g1_l]
    exact sup_le _
  rw [e] at a1
  have := (sup_F f1).mp a1
  have := (fo_bd (n := m.1) (w := w) l).1
  omega
def smW (n l : Nat) (w : Nat → Nat × Bool) (v : Int32) : Prop := ∃ (hn : 2 ≤ n ∧ n ≤ 5) (h : okT n (foT n w l).1), smV9 (gF ⟨n, hn⟩ (foT n w l).2 (foT n w l).1 h) v
theorem smW_uni {l : Nat} {w w' : Nat → Nat × Bool} {v v' : Int32} (hw : ∀ i, i < l → w i = w' i) (h : smW n l w v) (h' : smW n l w' v') : v = v' := by
  unfold smW at h h'
  rw [← fo_cg l hw] at h'
  obtain ⟨hn, h1, h2⟩ := h
  obtain ⟨hn', h1', h2'⟩ := h'
  exact sm_uni h2 h2'
def cjW9 (n l : Nat) (w : Nat → Nat × Bool) (l' : Nat) (w' : Nat → Nat × Bool) (v : Int32) : Prop := ∃ (hn : 2 ≤ n ∧ n ≤ 5) (h : okT n (foT n w l).1) (h' : okT n (foT n w' l').1), cjV9 (gF ⟨n, hn⟩ (foT n w l).2 (foT n w l).1 h) (gF ⟨n, hn⟩ (foT n w' l').2 (foT n w' l').1 h') v
theorem cjW9_uni {l l' : Nat} {w w' u u' : Nat → Nat × Bool} {v v' : Int32} (hw : ∀ i, i < l → w i = u i) (hw' : ∀ i, i < l' → w' i = u' i) (h : cjW9 n l w l' w' v) (h' : cjW9 n l u l' u' v') : v = v' := by
  unfold cjW9 at h h'
  rw [← fo_cg l hw, ← fo_cg l' hw'] at h'
  obtain ⟨hn, h1, h2, h3⟩ := h
  obtain ⟨hn', h1', h2', h3'⟩ := h'
  exact cv_uni h3 h3'
end XSCD
