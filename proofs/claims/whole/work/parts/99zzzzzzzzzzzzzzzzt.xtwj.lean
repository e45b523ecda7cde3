/-! two: lists that show one net show one closed braid -/
section XTWJ
variable {n : Nat} {W : wd9} {ov sg sb : Nat → Bool} {A B : rn_L} {N : Nat → Nat} {lab : vT → Nat}
theorem sc_lst {p q a : vT} {X : List vT} (h : (X ++ [a]).head? = some p) (ha : a ∉ X) : sc (X ++ [a]) a = p := by
  cases X with
  | nil => exact Option.some.inj h
  | cons b X =>
    have h : some b = some p := h
    rw [← Option.some.inj h]
    exact sc_end ha
theorem cy_eq {p : vT} : ∀ (c d X : List vT) (a : vT), (X ++ a :: c).Nodup → (X ++ a :: d).Nodup → (X ++ [a]).head? = some p → (∀ q, q ∈ X ++ a :: c → q ∈ X ++ a :: d → sc (X ++ a :: c) q = sc (X ++ a :: d) q) → c = d := by
  have pin : ∀ (X : List vT) (a : vT), (X ++ [a]).head? = some p → p ∈ X ++ [a] := fun X a h => List.mem_of_mem_head? h
  intro c
  induction c with
  | nil =>
    intro d X a hc hd hp h
    cases d with
    | nil => rfl
    | cons b d =>
      exfalso
      obtain ⟨aX, -⟩ := nd_mid hc
      have h1 := h a (List.mem_append_right _ List.mem_cons_self) (List.mem_append_right _ List.mem_cons_self)
      rw [sc_lst (q := a) hp aX, sc_mid aX] at h1
      have h2 := pin X a hp
      rw [h1] at h2
      have e : X ++ a :: b :: d = (X ++ [a]) ++ b :: d := by
        rw [List.append_assoc]
        rfl
      rw [e] at hd
      exact (nd_mid hd).1 h2
  | cons b c ih =>
    intro d X a hc hd hp h
    obtain ⟨aX, -⟩ := nd_mid hc
    cases d with
    | nil =>
      exfalso
      have h1 := h a (List.mem_append_right _ List.mem_cons_self) (List.mem_append_right _ List.mem_cons_self)
      rw [sc_lst (q := a) hp aX, sc_mid aX] at h1
      have h2 := pin X a hp
      rw [← h1] at h2
      have e : X ++ a :: b :: c = (X ++ [a]) ++ b :: c := by
        rw [List.append_assoc]
        rfl
      rw [e] at hc
      exact (nd_mid hc).1 h2
    | cons b' d =>
      have h1 := h a (List.mem_append_right _ List.mem_cons_self) (List.mem_append_right _ List.mem_cons_self)
      rw [sc_mid aX, sc_mid aX] at h1
      subst h1
      have e : ∀ c : List vT, X ++ a :: b :: c = (X ++ [a]) ++ b :: c := fun c => by
        rw [List.append_assoc]
        rfl
      rw [e] at hc hd h
      rw [e] at h
      refine congrArg _ (ih d (X ++ [a]) b hc hd ?_ h)
      rw [← hp]
      cases X with
      | nil => rfl
      | cons t X => rfl
theorem cir_p {P Q : rn_L} : cirs (P ++ [] :: Q) = cirs (P ++ Q) + 1 := by
  unfold cirs
  rw [List.countP_append, List.countP_cons_of_pos rfl, List.countP_append]
  omega
theorem cir_n {P Q : rn_L} {p : vT} {c : List vT} : cirs (P ++ (p :: c) :: Q) = cirs (P ++ Q) := by
  unfold cirs
  rw [List.countP_append, List.countP_cons_of_neg (by simp), List.countP_append]
theorem cir_pos : ∀ {A : rn_L}, 0 < cirs A → [] ∈ A
  | [], h => absurd h (Nat.lt_irrefl 0)
  | c :: A, h => by
    cases c with
    | nil => exact List.mem_cons_self
    | cons p c =>
      have e : cirs ((p :: c) :: A) = cirs A := cir_n (P := [])
      rw [e] at h
      exact List.mem_cons_of_mem _ (cir_pos h)
theorem rb_ex : ∀ (A : rn_L) (L : List (List tk9)), shw N lab A → shw N lab (L.map (pjz ov)) → A.flatten.Nodup → (L.map (pjz ov)).flatten.Nodup → (∀ p, p ∈ A.flatten ↔ p ∈ (L.map (pjz ov)).flatten) → (∀ p q, p ∈ A.flatten → q ∈ A.flatten → lab p = lab q → p = q) → cirs A = cirs (L.map (pjz ov)) → ∃ L', (∀ P, orz n W (P ++ L) → orz n W (P ++ L')) ∧ L'.map (pjz ov) = A := by
  intro A
  induction A with
  | nil =>
    intro L hA hL nA nL hm hi hc
    cases L with
    | nil => exact ⟨[], fun P h => h, rfl⟩
    | cons e L =>
      exfalso
      have e0 : pjz ov e = [] := List.eq_nil_iff_forall_not_mem.mpr (fun q hq => by
        have := (hm q).mpr (List.mem_flatten.mpr ⟨_, List.mem_cons_self, hq⟩)
        exact absurd this List.not_mem_nil)
      rw [List.map_cons, e0] at hc
      have h2 : cirs ([] :: L.map (pjz ov)) = cirs (L.map (pjz ov)) + 1 := cir_p (P := [])
      rw [h2] at hc
      have h3 : cirs ([] : rn_L) = 0 := rfl
      omega
  | cons c A ih =>
    intro L hA hL nA nL hm hi hc
    have hA2 : shw N lab A := fun K hK => hA K (List.mem_cons_of_mem _ hK)
    rw [List.flatten_cons] at nA
    obtain ⟨nc, nA2, nd⟩ := List.nodup_append.mp nA
    have prm : ∀ (L1 L2 : List (List tk9)) (e : List tk9), ((L1 ++ e :: L2).map (pjz ov)).flatten.Perm (pjz ov e ++ ((L1 ++ L2).map (pjz ov)).flatten) := fun L1 L2 e => ((List.perm_middle (l₁ := L1) (a := e) (l₂ := L2)).map (pjz ov)).flatten
    have sub : ∀ (L1 L2 : List (List tk9)) (e : List tk9), shw N lab ((L1 ++ e :: L2).map (pjz ov)) → shw N lab ((L1 ++ L2).map (pjz ov)) := fun L1 L2 e h K hK => h K (by
      rw [List.map_append] at hK ⊢
      rcases List.mem_append.mp hK with h9 | h9
      · exact List.mem_append_left _ h9
      · exact List.mem_append_right _ (List.mem_cons_of_mem _ h9))
    have orp : ∀ (P L1 L2 : List (List tk9)) (e : List tk9), orz n W (P ++ (L1 ++ e :: L2)) → orz n W ((P ++ [e]) ++ (L1 ++ L2)) := fun P L1 L2 e h => by
      rw [List.append_assoc]
      exact orz_p (List.Perm.append_left P (List.perm_middle (l₁ := L1) (a := e) (l₂ := L2)).symm) h
    cases c with
    | nil =>
      have hc1 : cirs ([] :: A) = cirs A + 1 := cir_p (P := [])
      have hx : [] ∈ L.map (pjz ov) := cir_pos (by rw [← hc, hc1]; omega)
      obtain ⟨e, he, e0⟩ := List.mem_map.mp hx
      obtain ⟨L1, L2, rfl⟩ := spl_m he
      have hp := prm L1 L2 e
      rw [e0, List.nil_append] at hp
      have hc2 : cirs ((L1 ++ e :: L2).map (pjz ov)) = cirs ((L1 ++ L2).map (pjz ov)) + 1 := by
        rw [List.map_append, List.map_cons, e0, cir_p, List.map_append]
      obtain ⟨L', k1, k2⟩ := ih (L1 ++ L2) hA2 (sub L1 L2 e hL) nA2 (hp.nodup_iff.mp nL) (fun p => ((hm p).trans hp.mem_iff)) (fun p q h1 h2 => hi p q h1 h2) (by omega)
      refine ⟨e :: L', fun P h => ?_, by rw [List.map_cons, e0, k2]⟩
      have := k1 _ (orp P L1 L2 e h)
      rw [List.append_assoc] at this
      exact this
    | cons p c =>
      have pm9 : p ∈ ((p :: c) :: A).flatten := List.mem_flatten.mpr ⟨_, List.mem_cons_self, List.mem_cons_self⟩
      obtain ⟨f, hf, hpf⟩ := List.mem_flatten.mp ((hm p).mp pm9)
      obtain ⟨e, he, ef⟩ := List.mem_map.mp hf
      obtain ⟨L1, L2, rfl⟩ := spl_m he
      obtain ⟨X, Y, eXY⟩ := spl_m hpf
      obtain ⟨a, u, b, rfl, u2, p1, p2, p3⟩ := pjz_sp (ef.trans eXY)
      have hp := prm L1 L2 (a ++ u :: b)
      have nL2 := hp.nodup_iff.mp nL
      obtain ⟨ne, nr, ndj⟩ := List.nodup_append.mp nL2
      have hmem : ∀ q, q ∈ X ++ p :: Y → q ∈ ((p :: c) :: A).flatten := fun q hq => (hm q).mpr (hp.mem_iff.mpr (List.mem_append_left _ (by rw [ef, eXY]; exact hq)))
      rw [ef, eXY] at ne
      have ne2 : ((p :: Y) ++ X).Nodup := nd_rot ne
      have scE : ∀ q, q ∈ p :: c → q ∈ (p :: Y) ++ X → sc (p :: c) q = sc ((p :: Y) ++ X) q := fun q h1 h2 => by
        have h3 : q ∈ X ++ p :: Y := by
          rcases List.mem_append.mp h2 with h9 | h9
          · exact List.mem_append_right _ h9
          · exact List.mem_append_left _ h9
        rw [sc_rot ne h3]
        have s1 := sc_in h1 nc
        have s2 := sc_in h3 ne
        refine hi _ _ (List.mem_flatten.mpr ⟨_, List.mem_cons_self, s1⟩) (hmem _ s2) ?_
        rw [← hA (p :: c) List.mem_cons_self q h1, ← hL (X ++ p :: Y) (by rw [← eXY]; exact hf) q h3]
      have ec : c = Y ++ X := cy_eq (p := p) c (Y ++ X) [] p nc ne2 rfl scE
      have same : ∀ q, q ∈ p :: c ↔ q ∈ pjz ov (a ++ u :: b) := fun q => by
        rw [ef, eXY, ec, List.mem_cons, List.mem_append, List.mem_append, List.mem_cons]
        constructor
        · rintro (h | h | h)
          · exact Or.inr (Or.inl h)
          · exact Or.inr (Or.inr h)
          · exact Or.inl h
        · rintro (h | h | h)
          · exact Or.inr (Or.inr h)
          · exact Or.inl h
          · exact Or.inr (Or.inl h)
      have hm2 : ∀ q, q ∈ A.flatten ↔ q ∈ ((L1 ++ L2).map (pjz ov)).flatten := fun q => by
        have h1 := (hm q).trans hp.mem_iff
        rw [List.flatten_cons, List.mem_append, List.mem_append, same q] at h1
        constructor
        · intro h
          rcases h1.mp (Or.inr h) with h9 | h9
          · exact absurd rfl (nd q ((same q).mpr h9) q h)
          · exact h9
        · intro h
          rcases h1.mpr (Or.inr h) with h9 | h9
          · exact absurd rfl (ndj q h9 q h)
          · exact h9
      have hc1 : cirs ((p :: c) :: A) = cirs A := cir_n (P := [])
      have hc2 : cirs ((L1 ++ (a ++ u :: b) :: L2).map (pjz ov)) = cirs ((L1 ++ L2).map (pjz ov)) := by
        obtain ⟨t, Z, et⟩ : ∃ t Z, pjz ov (a ++ u :: b) = t :: Z := by
          rw [ef, eXY]
          cases X with
          | nil => exact ⟨p, Y, rfl⟩
          | cons t X => exact ⟨t, X ++ p :: Y, rfl⟩
        rw [List.map_append, List.map_cons, et, cir_n, List.map_append]
      obtain ⟨L', k1, k2⟩ := ih (L1 ++ L2) hA2 (sub L1 L2 _ hL) nA2 nr hm2 (fun q r h1 h2 => hi q r (by rw [List.flatten_cons]; exact List.mem_append_right _ h1) (by rw [List.flatten_cons]; exact List.mem_append_right _ h2)) (by omega)
      refine ⟨((u :: b) ++ a) :: L', fun P h => ?_, ?_⟩
      · have h9 := k1 _ (orp P L1 L2 _ h)
        rw [List.append_assoc] at h9
        exact orz_t h9
      · rw [List.map_cons, pjz_a, pjz_v u2, p1, p2, p3, k2, ec]
        rfl
theorem bd_iso (h : bdz n W ov B sb) (hB : shw N lab B) (hA : shw N lab A) (nA : A.flatten.Nodup) (nB : B.flatten.Nodup) (hm : ∀ p, p ∈ A.flatten ↔ p ∈ B.flatten) (hi : ∀ p q, p ∈ A.flatten → q ∈ A.flatten → lab p = lab q → p = q) (hc : cirs A = cirs B) : bdz n W ov A sb := by
  obtain ⟨ho, ⟨L, hL, rfl⟩, hs⟩ := h
  obtain ⟨L', k1, k2⟩ := rb_ex (n := n) (W := W) A L hA hB nA nB hm hi hc
  exact ⟨ho, ⟨L', k1 [] hL, k2.symm⟩, hs⟩
/-- a list that shows the closed braid's net -/
theorem bd_cl {T : ow_NT} {g w : Nat → Nat} {lp : Nat → Bool} {Rs : List (List Nat)} (hA : isoV A sg g T) (hR : isoV (rgS w lp T.1 Rs) (fun i => !lp i) (fun x => x) T) (hw : ∀ i, i < T.1 → w i + 1 < n) (hQ : clQ w n T.1 Rs) (hall : ∀ s, s < n → s ∈ Rs.flatten) : ∃ W, bdz n W (fun x => !sg x) A sg := by
  have hsur : ∀ i, ∃ x, i < T.1 → (x, 0) ∈ A.flatten ∧ (x, 1) ∈ A.flatten ∧ g x = i := fun i => by
    by_cases hi : i < T.1
    · obtain ⟨⟨x, u⟩, h1, h2⟩ := gl_sur hA (k := 2 * i) (by omega)
      have h3 := hA.1.1.2 _ h1
      have h4 : u < 2 := h3.2.1
      have h5 : ((x, 1 - u) : Nat × Nat) ∈ A.flatten := h3.2.2
      have h2 : 2 * g x + u = 2 * i := h2
      have hu : u = 0 := by omega
      subst hu
      exact ⟨x, fun _ => ⟨h1, h5, by omega⟩⟩
    · exact ⟨0, fun h9 => absurd h9 hi⟩
  obtain ⟨ν, hν⟩ : ∃ ν : Nat → Nat, ∀ i, i < T.1 → (ν i, 0) ∈ A.flatten ∧ (ν i, 1) ∈ A.flatten ∧ g (ν i) = i := ⟨fun i => Classical.choose (hsur i), fun i => Classical.choose_spec (hsur i)⟩
  have inj : ∀ i j, i < T.1 → j < T.1 → ν i = ν j → i = j := fun i j hi hj e => by
    have h1 := (hν i hi).2.2
    have h2 := (hν j hj).2.2
    rw [e, h2] at h1
    exact h1.symm
  have ok := cl_ok (lp := lp) hw hQ hall
  have hsg : ∀ k, k < T.1 → sg (ν k) = !lp k := fun k hk => by
    have h1 := hA.1.2.2.2.2.2.2.1 (ν k, 0) (hν k hk).1
    have h1 : T.2.2.2 (g (ν k)) < 0 ↔ sg (ν k) = true := h1
    rw [(hν k hk).2.2] at h1
    have h2 := hR.1.2.2.2.2.2.2.1 (k, 0) ((ok.2 (k, 0)).mpr ⟨hk, by omega⟩)
    have h2 : T.2.2.2 k < 0 ↔ (!lp k) = true := h2
    have h3 := h1.symm.trans h2
    revert h3
    cases sg (ν k) <;> cases lp k <;> simp
  have hb := cl_bdz (ov := fun x => !sg x) (sg := sg) hw inj hQ hall (fun k hk => by show (!sg (ν k)) = lp k; rw [hsg k hk, Bool.not_not]) hsg
  have fl : ∀ D : rn_L, (D.map (List.map (nmf ν))).flatten = D.flatten.map (nmf ν) := fun D => by
    induction D with
    | nil => rfl
    | cons c D ih => rw [List.map_cons, List.flatten_cons, List.flatten_cons, List.map_append, ih]
  have nj : ∀ p q, p ∈ (rgS w lp T.1 Rs).flatten → q ∈ (rgS w lp T.1 Rs).flatten → nmf ν p = nmf ν q → p = q := fun p q hp hq e => by
    obtain ⟨e1, e2⟩ := Prod.mk.inj e
    exact Prod.ext (inj _ _ ((ok.2 p).mp hp).1 ((ok.2 q).mp hq).1 e1) e2
  have glE : ∀ p, p ∈ (rgS w lp T.1 Rs).flatten → gl g (nmf ν p) = gl (fun x => x) p := fun p hp => by
    show 2 * g (ν p.1) + p.2 = 2 * p.1 + p.2
    rw [(hν p.1 ((ok.2 p).mp hp).1).2.2]
  have ndc : ∀ c, c ∈ rgS w lp T.1 Rs → c.Nodup := fun c hc => by
    have := ok.1
    rw [List.nodup_iff_pairwise_ne, List.pairwise_flatten] at this
    exact this.1 c hc
  refine ⟨_, bd_iso (N := T.2.2.1.1) (lab := gl g) hb (fun K hK q hq => ?_) hA.1.2.2.2.2.2.1 hA.1.1.1 ?_ (fun q => ?_) (fun p q hp hq e => ?_) ?_⟩
  · obtain ⟨c, hc, rfl⟩ := List.mem_map.mp hK
    obtain ⟨p, hp, rfl⟩ := List.mem_map.mp hq
    have inF : ∀ r, r ∈ c → r ∈ (rgS w lp T.1 Rs).flatten := fun r hr => List.mem_flatten.mpr ⟨c, hc, hr⟩
    rw [sc_map (ndc c hc) (fun r t hr ht => nj r t (inF r hr) (inF t ht)) hp, glE p (inF p hp), glE _ (inF _ (sc_in hp (ndc c hc)))]
    exact hR.1.2.2.2.2.2.1 c hc p hp
  · rw [fl]
    exact nodup_map ok.1 nj
  · rw [fl, List.mem_map]
    constructor
    · intro h
      have h3 := hA.1.1.2 _ h
      have h4 := hA.1.2.2.2.1 _ h
      have h5 := hν (g q.1) h4
      have h6 : ν (g q.1) = q.1 := hA.1.2.2.2.2.1 _ _ h5.1 h h5.2.2
      exact ⟨(g q.1, q.2), (ok.2 _).mpr ⟨h4, h3.2.1⟩, Prod.ext h6 rfl⟩
    · rintro ⟨p, h1, rfl⟩
      obtain ⟨h2, h3⟩ := (ok.2 p).mp h1
      have h5 := hν p.1 h2
      show (ν p.1, p.2) ∈ A.flatten
      rcases (show p.2 = 0 ∨ p.2 = 1 by omega) with e | e
      · rw [e]
        exact h5.1
      · rw [e]
        exact h5.2.1
  · have e : 2 * g p.1 + p.2 = 2 * g q.1 + q.2 := e
    have a1 := (hA.1.1.2 _ hp).2.1
    have a2 := (hA.1.1.2 _ hq).2.1
    exact Prod.ext (hA.1.2.2.2.2.1 p q hp hq (by omega)) (by omega)
  · have e1 : cirs ((rgS w lp T.1 Rs).map (List.map (nmf ν))) = cirs (rgS w lp T.1 Rs) := by
      unfold cirs
      rw [List.countP_map]
      refine List.countP_congr (fun c _ => ?_)
      cases c <;> simp
    rw [e1, hA.1.2.2.2.2.2.2.2, hR.1.2.2.2.2.2.2.2]
end XTWJ
