section
/-! 99zzzzzzzzzzzzzzzzt.xtwj -/
/-! two: lists that show one net show one closed braid -/
section XTWJ
variable {n : Nat} {W : wd9} {ov sg sb : Nat → Bool} {A B : rn_L} {N : Nat → Nat} {lab : vT → Nat}
theorem sc_lst {p q a : vT} {X : List vT} (h : (X ++ [a]).head? = some p) (ha : a ∉ X) : sc (X ++ [a]) a = p := by
  cases X with
  | nil => exact Option.some.inj h
  | cons b X =>
    have h : some b = some p := h
    rw [← Option.some.inj h]
    exact sc_end ha
theorem cy_eq {p : vT} : ∀ (c d X : List vT) (a : vT), (X ++ a :: c).Nodup → (X ++ a :: d).Nodup → (X ++ [a]).head? = some p → (∀ q, q ∈ X ++ a :: c → q ∈ X ++ a :: d → sc (X ++ a :: c) q = sc (X ++ a :: d) q) → c = d := by
  have pin : ∀ (X : List vT) (a : vT), (X ++ [a]).head? = some p → p ∈ X ++ [a] := fun X a h => List.mem_of_mem_head? h
  intro c
  induction c with
  | nil =>
    intro d X a hc hd hp h
    cases d with
    | nil => rfl
    | cons b d =>
      exfalso
      obtain ⟨aX, -⟩ := nd_mid hc
      have h1 := h a (List.mem_append_right _ List.mem_cons_self) (List.mem_append_right _ List.mem_cons_self)
      rw [sc_lst (q := a) hp aX, sc_mid aX] at h1
      have h2 := pin X a hp
      rw [h1] at h2
      have e : X ++ a :: b :: d = (X ++ [a]) ++ b :: d := by
        rw [List.append_assoc]
        rfl
      rw [e] at hd
      exact (nd_mid hd).1 h2
  | cons b c ih =>
    intro d X a hc hd hp h
    obtain ⟨aX, -⟩ := nd_mid hc
    cases d with
    | nil =>
      exfalso
      have h1 := h a (List.mem_append_right _ List.mem_cons_self) (List.mem_append_right _ List.mem_cons_self)
      rw [sc_lst (q := a) hp aX, sc_mid aX] at h1
      have h2 := pin X a hp
      rw [← h1] at h2
      have e : X ++ a :: b :: c = (X ++ [a]) ++ b :: c := by
        rw [List.append_assoc]
        rfl
      rw [e] at hc
      exact (nd_mid hc).1 h2
    | cons b' d =>
      have h1 := h a (List.mem_append_right _ List.mem_cons_self) (List.mem_append_right _ List.mem_cons_self)
      rw [sc_mid aX, sc_mid aX] at h1
      subst h1
      have e : ∀ c : List vT, X ++ a :: b :: c = (X ++ [a]) ++ b :: c := fun c => by
        rw [List.append_assoc]
        rfl
      rw [e] at hc hd h
      rw [e] at h
      refine congrArg _ (ih d (X ++ [a]) b hc hd ?_ h)
      rw [← hp]
      cases X with
      | nil => rfl
      | cons t X => rfl
theorem cir_p {P Q : rn_L} : cirs (P ++ [] :: Q) = cirs (P ++ Q) + 1 := by
  unfold cirs
  rw [List.countP_append, List.countP_cons_of_pos rfl, List.countP_append]
  omega
theorem cir_n {P Q : rn_L} {p : vT} {c : List vT} : cirs (P ++ (p :: c) :: Q) = cirs (P ++ Q) := by
  unfold cirs
  rw [List.countP_append, List.countP_cons_of_neg (by simp), List.countP_append]
theorem cir_pos : ∀ {A : rn_L}, 0 < cirs A → [] ∈ A
  | [], h => absurd h (Nat.lt_irrefl 0)
  | c :: A, h => by
    cases c with
    | nil => exact List.mem_cons_self
    | cons p c =>
      have e : cirs ((p :: c) :: A) = cirs A := cir_n (P := [])
      rw [e] at h
      exact List.mem_cons_of_mem _ (cir_pos h)
theorem rb_ex : ∀ (A : rn_L) (L : List (List tk9)), shw N lab A → shw N lab (L.map (pjz ov)) → A.flatten.Nodup → (L.map (pjz ov)).flatten.Nodup → (∀ p, p ∈ A.flatten ↔ p ∈ (L.map (pjz ov)).flatten) → (∀ p q, p ∈ A.flatten → q ∈ A.flatten → lab p = lab q → p = q) → cirs A = cirs (L.map (pjz ov)) → ∃ L', (∀ P, orz n W (P ++ L) → orz n W (P ++ L')) ∧ L'.map (pjz ov) = A := by
  intro A
  induction A with
  | nil =>
    intro L hA hL nA nL hm hi hc
    cases L with
    | nil => exact ⟨[], fun P h => h, rfl⟩
    | cons e L =>
      exfalso
      have e0 : pjz ov e = [] := List.eq_nil_iff_forall_not_mem.mpr (fun q hq => by
        have := (hm q).mpr (List.mem_flatten.mpr ⟨_, List.mem_cons_self, hq⟩)
        exact absurd this List.not_mem_nil)
      rw [List.map_cons, e0] at hc
      have h2 : cirs ([] :: L.map (pjz ov)) = cirs (L.map (pjz ov)) + 1 := cir_p (P := [])
      rw [h2] at hc
      have h3 : cirs ([] : rn_L) = 0 := rfl
      omega
  | cons c A ih =>
    intro L hA hL nA nL hm hi hc
    have hA2 : shw N lab A := fun K hK => hA K (List.mem_cons_of_mem _ hK)
    rw [List.flatten_cons] at nA
    obtain ⟨nc, nA2, nd⟩ := List.nodup_append.mp nA
    have prm : ∀ (L1 L2 : List (List tk9)) (e : List tk9), ((L1 ++ e :: L2).map (pjz ov)).flatten.Perm (pjz ov e ++ ((L1 ++ L2).map (pjz ov)).flatten) := fun L1 L2 e => ((List.perm_middle (l₁ := L1) (a := e) (l₂ := L2)).map (pjz ov)).flatten
    have sub : ∀ (L1 L2 : List (List tk9)) (e : List tk9), shw N lab ((L1 ++ e :: L2).map (pjz ov)) → shw N lab ((L1 ++ L2).map (pjz ov)) := fun L1 L2 e h K hK => h K (by
      rw [List.map_append] at hK ⊢
      rcases List.mem_append.mp hK with h9 | h9
      · exact List.mem_append_left _ h9
      · exact List.mem_append_right _ (List.mem_cons_of_mem _ h9))
    have orp : ∀ (P L1 L2 : List (List tk9)) (e : List tk9), orz n W (P ++ (L1 ++ e :: L2)) → orz n W ((P ++ [e]) ++ (L1 ++ L2)) := fun P L1 L2 e h => by
      rw [List.append_assoc]
      exact orz_p (List.Perm.append_left P (List.perm_middle (l₁ := L1) (a := e) (l₂ := L2)).symm) h
    cases c with
    | nil =>
      have hc1 : cirs ([] :: A) = cirs A + 1 := cir_p (P := [])
      have hx : [] ∈ L.map (pjz ov) := cir_pos (by rw [← hc, hc1]; omega)
      obtain ⟨e, he, e0⟩ := List.mem_map.mp hx
      obtain ⟨L1, L2, rfl⟩ := spl_m he
      have hp := prm L1 L2 e
      rw [e0, List.nil_append] at hp
      have hc2 : cirs ((L1 ++ e :: L2).map (pjz ov)) = cirs ((L1 ++ L2).map (pjz ov)) + 1 := by
        rw [List.map_append, List.map_cons, e0, cir_p, List.map_append]
      obtain ⟨L', k1, k2⟩ := ih (L1 ++ L2) hA2 (sub L1 L2 e hL) nA2 (hp.nodup_iff.mp nL) (fun p => ((hm p).trans hp.mem_iff)) (fun p q h1 h2 => hi p q h1 h2) (by omega)
      refine ⟨e :: L', fun P h => ?_, by rw [List.map_cons, e0, k2]⟩
      have := k1 _ (orp P L1 L2 e h)
      rw [List.append_assoc] at this
      exact this
    | cons p c =>
      have pm9 : p ∈ ((p :: c) :: A).flatten := List.mem_flatten.mpr ⟨_, List.mem_cons_self, List.mem_cons_self⟩
      obtain ⟨f, hf, hpf⟩ := List.mem_flatten.mp ((hm p).mp pm9)
      obtain ⟨e, he, ef⟩ := List.mem_map.mp hf
      obtain ⟨L1, L2, rfl⟩ := spl_m he
      obtain ⟨X, Y, eXY⟩ := spl_m hpf
      obtain ⟨a, u, b, rfl, u2, p1, p2, p3⟩ := pjz_sp (ef.trans eXY)
      have hp := prm L1 L2 (a ++ u :: b)
      have nL2 := hp.nodup_iff.mp nL
      obtain ⟨ne, nr, ndj⟩ := List.nodup_append.mp nL2
      have hmem : ∀ q, q ∈ X ++ p :: Y → q ∈ ((p :: c) :: A).flatten := fun q hq => (hm q).mpr (hp.mem_iff.mpr (List.mem_append_left _ (by rw [ef, eXY]; exact hq)))
      rw [ef, eXY] at ne
      have ne2 : ((p :: Y) ++ X).Nodup := nd_rot ne
      have scE : ∀ q, q ∈ p :: c → q ∈ (p :: Y) ++ X → sc (p :: c) q = sc ((p :: Y) ++ X) q := fun q h1 h2 => by
        have h3 : q ∈ X ++ p :: Y := by
          rcases List.mem_append.mp h2 with h9 | h9
          · exact List.mem_append_right _ h9
          · exact List.mem_append_left _ h9
        rw [sc_rot ne h3]
        have s1 := sc_in h1 nc
        have s2 := sc_in h3 ne
        refine hi _ _ (List.mem_flatten.mpr ⟨_, List.mem_cons_self, s1⟩) (hmem _ s2) ?_
        rw [← hA (p :: c) List.mem_cons_self q h1, ← hL (X ++ p :: Y) (by rw [← eXY]; exact hf) q h3]
      have ec : c = Y ++ X := cy_eq (p := p) c (Y ++ X) [] p nc ne2 rfl scE
      have same : ∀ q, q ∈ p :: c ↔ q ∈ pjz ov (a ++ u :: b) := fun q => by
        rw [ef, eXY, ec, List.mem_cons, List.mem_append, List.mem_append, List.mem_cons]
        constructor
        · rintro (h | h | h)
          · exact Or.inr (Or.inl h)
          · exact Or.inr (Or.inr h)
          · exact Or.inl h
        · rintro (h | h | h)
          · exact Or.inr (Or.inr h)
          · exact Or.inl h
          · exact Or.inr (Or.inl h)
      have hm2 : ∀ q, q ∈ A.flatten ↔ q ∈ ((L1 ++ L2).map (pjz ov)).flatten := fun q => by
        have h1 := (hm q).trans hp.mem_iff
        rw [List.flatten_cons, List.mem_append, List.mem_append, same q] at h1
        constructor
        · intro h
          rcases h1.mp (Or.inr h) with h9 | h9
          · exact absurd rfl (nd q ((same q).mpr h9) q h)
          · exact h9
        · intro h
          rcases h1.mpr (Or.inr h) with h9 | h9
          · exact absurd rfl (ndj q h9 q h)
          · exact h9
      have hc1 : cirs ((p :: c) :: A) = cirs A := cir_n (P := [])
      have hc2 : cirs ((L1 ++ (a ++ u :: b) :: L2).map (pjz ov)) = cirs ((L1 ++ L2).map (pjz ov)) := by
        obtain ⟨t, Z, et⟩ : ∃ t Z, pjz ov (a ++ u :: b) = t :: Z := by
          rw [ef, eXY]
          cases X with
          | nil => exact ⟨p, Y, rfl⟩
          | cons t X => exact ⟨t, X ++ p :: Y, rfl⟩
        rw [List.map_append, List.map_cons, et, cir_n, List.map_append]
      obtain ⟨L', k1, k2⟩ := ih (L1 ++ L2) hA2 (sub L1 L2 _ hL) nA2 nr hm2 (fun q r h1 h2 => hi q r (by rw [List.flatten_cons]; exact List.mem_append_right _ h1) (by rw [List.flatten_cons]; exact List.mem_append_right _ h2)) (by omega)
      refine ⟨((u :: b) ++ a) :: L', fun P h => ?_, ?_⟩
      · have h9 := k1 _ (orp P L1 L2 _ h)
        rw [List.append_assoc] at h9
        exact orz_t h9
      · rw [List.map_cons, pjz_a, pjz_v u2, p1, p2, p3, k2, ec]
        rfl
theorem bd_iso (h : bdz n W ov B sb) (hB : shw N lab B) (hA : shw N lab A) (nA : A.flatten.Nodup) (nB : B.flatten.Nodup) (hm : ∀ p, p ∈ A.flatten ↔ p ∈ B.flatten) (hi : ∀ p q, p ∈ A.flatten → q ∈ A.flatten → lab p = lab q → p = q) (hc : cirs A = cirs B) : bdz n W ov A sb := by
  obtain ⟨ho, ⟨L, hL, rfl⟩, hs⟩ := h
  obtain ⟨L', k1, k2⟩ := rb_ex (n := n) (W := W) A L hA hB nA nB hm hi hc
  exact ⟨ho, ⟨L', k1 [] hL, k2.symm⟩, hs⟩
/-- a list that shows the closed braid's net -/
theorem bd_cl {T : ow_NT} {g w : Nat → Nat} {lp : Nat → Bool} {Rs : List (List Nat)} (hA : isoV A sg g T) (hR : isoV (rgS w lp T.1 Rs) (fun i => !lp i) (fun x => x) T) (hw : ∀ i, i < T.1 → w i + 1 < n) (hQ : clQ w n T.1 Rs) (hall : ∀ s, s < n → s ∈ Rs.flatten) : ∃ W, bdz n W (fun x => !sg x) A sg := by
  have hsur : ∀ i, ∃ x, i < T.1 → (x, 0) ∈ A.flatten ∧ (x, 1) ∈ A.flatten ∧ g x = i := fun i => by
    by_cases hi : i < T.1
    · obtain ⟨⟨x, u⟩, h1, h2⟩ := gl_sur hA (k := 2 * i) (by omega)
      have h3 := hA.1.1.2 _ h1
      have h4 : u < 2 := h3.2.1
      have h5 : ((x, 1 - u) : Nat × Nat) ∈ A.flatten := h3.2.2
      have h2 : 2 * g x + u = 2 * i := h2
      have hu : u = 0 := by omega
      subst hu
      exact ⟨x, fun _ => ⟨h1, h5, by omega⟩⟩
    · exact ⟨0, fun h9 => absurd h9 hi⟩
  obtain ⟨ν, hν⟩ : ∃ ν : Nat → Nat, ∀ i, i < T.1 → (ν i, 0) ∈ A.flatten ∧ (ν i, 1) ∈ A.flatten ∧ g (ν i) = i := ⟨fun i => Classical.choose (hsur i), fun i => Classical.choose_spec (hsur i)⟩
  have inj : ∀ i j, i < T.1 → j < T.1 → ν i = ν j → i = j := fun i j hi hj e => by
    have h1 := (hν i hi).2.2
    have h2 := (hν j hj).2.2
    rw [e, h2] at h1
    exact h1.symm
  have ok := cl_ok (lp := lp) hw hQ hall
  have hsg : ∀ k, k < T.1 → sg (ν k) = !lp k := fun k hk => by
    have h1 := hA.1.2.2.2.2.2.2.1 (ν k, 0) (hν k hk).1
    have h1 : T.2.2.2 (g (ν k)) < 0 ↔ sg (ν k) = true := h1
    rw [(hν k hk).2.2] at h1
    have h2 := hR.1.2.2.2.2.2.2.1 (k, 0) ((ok.2 (k, 0)).mpr ⟨hk, by omega⟩)
    have h2 : T.2.2.2 k < 0 ↔ (!lp k) = true := h2
    have h3 := h1.symm.trans h2
    revert h3
    cases sg (ν k) <;> cases lp k <;> simp
  have hb := cl_bdz (ov := fun x => !sg x) (sg := sg) hw inj hQ hall (fun k hk => by show (!sg (ν k)) = lp k; rw [hsg k hk, Bool.not_not]) hsg
  have fl : ∀ D : rn_L, (D.map (List.map (nmf ν))).flatten = D.flatten.map (nmf ν) := fun D => by
    induction D with
    | nil => rfl
    | cons c D ih => rw [List.map_cons, List.flatten_cons, List.flatten_cons, List.map_append, ih]
  have nj : ∀ p q, p ∈ (rgS w lp T.1 Rs).flatten → q ∈ (rgS w lp T.1 Rs).flatten → nmf ν p = nmf ν q → p = q := fun p q hp hq e => by
    obtain ⟨e1, e2⟩ := Prod.mk.inj e
    exact Prod.ext (inj _ _ ((ok.2 p).mp hp).1 ((ok.2 q).mp hq).1 e1) e2
  have glE : ∀ p, p ∈ (rgS w lp T.1 Rs).flatten → gl g (nmf ν p) = gl (fun x => x) p := fun p hp => by
    show 2 * g (ν p.1) + p.2 = 2 * p.1 + p.2
    rw [(hν p.1 ((ok.2 p).mp hp).1).2.2]
  have ndc : ∀ c, c ∈ rgS w lp T.1 Rs → c.Nodup := fun c hc => by
    have := ok.1
    rw [List.nodup_iff_pairwise_ne, List.pairwise_flatten] at this
    exact this.1 c hc
  refine ⟨_, bd_iso (N := T.2.2.1.1) (lab := gl g) hb (fun K hK q hq => ?_) hA.1.2.2.2.2.2.1 hA.1.1.1 ?_ (fun q => ?_) (fun p q hp hq e => ?_) ?_⟩
  · obtain ⟨c, hc, rfl⟩ := List.mem_map.mp hK
    obtain ⟨p, hp, rfl⟩ := List.mem_map.mp hq
    have inF : ∀ r, r ∈ c → r ∈ (rgS w lp T.1 Rs).flatten := fun r hr => List.mem_flatten.mpr ⟨c, hc, hr⟩
    rw [sc_map (ndc c hc) (fun r t hr ht => nj r t (inF r hr) (inF t ht)) hp, glE p (inF p hp), glE _ (inF _ (sc_in hp (ndc c hc)))]
    exact hR.1.2.2.2.2.2.1 c hc p hp
  · rw [fl]
    exact nodup_map ok.1 nj
  · rw [fl, List.mem_map]
    constructor
    · intro h
      have h3 := hA.1.1.2 _ h
      have h4 := hA.1.2.2.2.1 _ h
      have h5 := hν (g q.1) h4
      have h6 : ν (g q.1) = q.1 := hA.1.2.2.2.2.1 _ _ h5.1 h h5.2.2
      exact ⟨(g q.1, q.2), (ok.2 _).mpr ⟨h4, h3.2.1⟩, Prod.ext h6 rfl⟩
    · rintro ⟨p, h1, rfl⟩
      obtain ⟨h2, h3⟩ := (ok.2 p).mp h1
      have h5 := hν p.1 h2
      show (ν p.1, p.2) ∈ A.flatten
      rcases (show p.2 = 0 ∨ p.2 = 1 by omega) with e | e
      · rw [e]
        exact h5.1
      · rw [e]
        exact h5.2.1
  · have e : 2 * g p.1 + p.2 = 2 * g q.1 + q.2 := e
    have a1 := (hA.1.1.2 _ hp).2.1
    have a2 := (hA.1.1.2 _ hq).2.1
    exact Prod.ext (hA.1.2.2.2.2.1 p q hp hq (by omega)) (by omega)
  · have e1 : cirs ((rgS w lp T.1 Rs).map (List.map (nmf ν))) = cirs (rgS w lp T.1 Rs) := by
      unfold cirs
      rw [List.countP_map]
      refine List.countP_congr (fun c _ => ?_)
      cases c <;> simp
    rw [e1, hA.1.2.2.2.2.2.2.2, hR.1.2.2.2.2.2.2.2]
end XTWJ
end
section
/-! 99zzzzzzzzzzzzzzzzu.xtwk -/
/-! two: the reference's skein, exactly -/
def sgt9 (t : Nat) : Int := if t % 2 = 0 then 1 else -1
def tmz (k : Nat) : Nat → pz9
  | 0 => fun _ _ => 0
  | t + 1 => fun p q => tmz k t p q + (if p = 2 * (t : Int) - k ∧ q = -(k : Int) then sgt9 t * (binN k t : Int) else 0)
theorem sgt9_s (t : Nat) : sgt9 (t + 1) = -sgt9 t := by
  unfold sgt9
  by_cases h : t % 2 = 0
  · rw [if_pos h, if_neg (by omega)]
  · rw [if_neg h, if_pos (by omega)]
    decide
theorem tmz_cr (k : Nat) : ∀ (m : Nat) (p q : Int), tmz (k + 1) (m + 1) p q = (tmz k m (p + 1) (q + 1) - tmz k m (p - 1) (q + 1)) + (if p = 2 * (m : Int) - ((k : Int) + 1) ∧ q = -((k : Int) + 1) then sgt9 m * (binN k m : Int) else 0)
  | 0, p, q => by
    show (0 : Int) + (if p = 2 * ((0 : Nat) : Int) - ((k + 1 : Nat) : Int) ∧ q = -((k + 1 : Nat) : Int) then sgt9 0 * (binN (k + 1) 0 : Int) else 0) = ((0 : Int) - 0) + (if p = 2 * ((0 : Nat) : Int) - ((k : Int) + 1) ∧ q = -((k : Int) + 1) then sgt9 0 * (binN k 0 : Int) else 0)
    rw [binN_z, binN_z]
    by_cases c : p = 2 * ((0 : Nat) : Int) - ((k : Int) + 1) ∧ q = -((k : Int) + 1)
    · rw [if_pos c, if_pos ⟨by omega, by omega⟩]
      rfl
    · rw [if_neg c, if_neg (fun h => c ⟨by omega, by omega⟩)]
      rfl
  | m + 1, p, q => by
    have ih := tmz_cr k m p q
    show tmz (k + 1) (m + 1) p q + (if p = 2 * ((m + 1 : Nat) : Int) - ((k + 1 : Nat) : Int) ∧ q = -((k + 1 : Nat) : Int) then sgt9 (m + 1) * (binN (k + 1) (m + 1) : Int) else 0) = ((tmz k m (p + 1) (q + 1) + (if p + 1 = 2 * (m : Int) - k ∧ q + 1 = -(k : Int) then sgt9 m * (binN k m : Int) else 0)) - (tmz k m (p - 1) (q + 1) + (if p - 1 = 2 * (m : Int) - k ∧ q + 1 = -(k : Int) then sgt9 m * (binN k m : Int) else 0))) + (if p = 2 * ((m + 1 : Nat) : Int) - ((k : Int) + 1) ∧ q = -((k : Int) + 1) then sgt9 (m + 1) * (binN k (m + 1) : Int) else 0)
    rw [ih]
    have eb : sgt9 (m + 1) * ((binN (k + 1) (m + 1) : Nat) : Int) = -(sgt9 m * (binN k m : Int)) + sgt9 (m + 1) * (binN k (m + 1) : Int) := by
      show sgt9 (m + 1) * ((binN k m + binN k (m + 1) : Nat) : Int) = _
      rw [Int.natCast_add, Int.mul_add, sgt9_s, Int.neg_mul]
    rw [eb]
    generalize sgt9 m * (binN k m : Int) = X
    generalize sgt9 (m + 1) * (binN k (m + 1) : Int) = Y
    generalize tmz k m (p + 1) (q + 1) = u
    generalize tmz k m (p - 1) (q + 1) = v
    by_cases cq : q = -((k : Int) + 1)
    · by_cases c1 : p = 2 * (m : Int) - ((k : Int) + 1)
      · rw [if_pos ⟨c1, cq⟩, if_neg (fun h => by omega), if_pos (show p + 1 = 2 * (m : Int) - k ∧ q + 1 = -(k : Int) from ⟨by omega, by omega⟩), if_neg (fun h => by omega), if_neg (fun h => by omega)]
        omega
      · by_cases c2 : p = 2 * ((m + 1 : Nat) : Int) - ((k : Int) + 1)
        · rw [if_neg (fun h => c1 h.1), if_pos (show p = 2 * ((m + 1 : Nat) : Int) - ((k + 1 : Nat) : Int) ∧ q = -((k + 1 : Nat) : Int) from ⟨by omega, by omega⟩), if_neg (fun h => by omega), if_pos (show p - 1 = 2 * (m : Int) - k ∧ q + 1 = -(k : Int) from ⟨by omega, by omega⟩), if_pos ⟨c2, cq⟩]
          omega
        · rw [if_neg (fun h => c1 h.1), if_neg (fun h => c2 (by omega)), if_neg (fun h => c1 (by omega)), if_neg (fun h => c2 (by omega)), if_neg (fun h => c2 h.1)]
          omega
    · rw [if_neg (fun h => cq h.2), if_neg (fun h => cq (by omega)), if_neg (fun h => cq (by omega)), if_neg (fun h => cq (by omega)), if_neg (fun h => cq h.2)]
      omega
theorem tmz_l : ∀ (k : Nat) (p q : Int), tmz k (k + 1) p q = lfz k p q
  | 0, p, q => by
    show (0 : Int) + (if p = 2 * ((0 : Nat) : Int) - ((0 : Nat) : Int) ∧ q = -((0 : Nat) : Int) then sgt9 0 * (binN 0 0 : Int) else 0) = (if p = 0 ∧ q = 0 then 1 else 0)
    by_cases c : p = 0 ∧ q = 0
    · rw [if_pos c, if_pos ⟨by omega, by omega⟩]
      rfl
    · rw [if_neg c, if_neg (fun h => c ⟨by omega, by omega⟩)]
      rfl
  | k + 1, p, q => by
    rw [tmz_cr k (k + 1) p q, binN_0 (Nat.lt_succ_self k), tmz_l k, tmz_l k]
    show _ + (if p = 2 * ((k + 1 : Nat) : Int) - ((k : Int) + 1) ∧ q = -((k : Int) + 1) then sgt9 (k + 1) * (0 : Int) else 0) = lfz k (p + 1) (q + 1) - lfz k (p - 1) (q + 1)
    rw [Int.mul_zero]
    split
    · omega
    · omega
theorem lf_tab : ∀ m : Fin 18, ∀ t : Fin 18, t.val ≤ m.val → (Int64.ofInt (1 * (binN m.val t.val : Int)) * (nI m.val - nI t.val).toInt64) / (nI (t.val + 1)).toInt64 = Int64.ofInt (1 * (binN m.val (t.val + 1) : Int)) ∧ (Int64.ofInt (-1 * (binN m.val t.val : Int)) * (nI m.val - nI t.val).toInt64) / (nI (t.val + 1)).toInt64 = Int64.ofInt (-1 * (binN m.val (t.val + 1) : Int)) := by decide +kernel
theorem lf_par : ∀ t : Fin 18, (nI t.val &&& 1) = 0 ↔ t.val % 2 = 0 := by decide +kernel
/-- the reference's table -/
def twA (z : ow_MS) (n : pz9) : Prop := ∀ a b : Nat, a < 129 → b < 41 → z.2.2 44 (129 * b + a) = Int64.ofInt (n ((a : Int) - 64) ((b : Int) - 20))
theorem twA_fr {P : Nat → Prop} {z z1 : ow_MS} {n : pz9} (hf : fr P z z1) (hP : ¬ P 44) (h : twA z n) : twA z1 n := fun a b ha hb => by
  rw [(hf 44 hP).2.2]
  exact h a b ha hb
theorem twA_cg {z : ow_MS} {n n' : pz9} (h : twA z n) (e : ∀ p q, n p q = n' p q) : twA z n' := fun a b ha hb => by
  rw [← e]
  exact h a b ha hb
section XTWK1
variable {z : ow_MS}
theorem xr_leaf2 {c j a : Nat} {σ : Int} {n : pz9} (hc : 1 ≤ c) (hcj : c ≤ j + 6) (hj : j ≤ 12) (ha : 16 ≤ a) (ha2 : a ≤ 64) (hσ : σ = 1 ∨ σ = -1) (h46 : z.1 46 = 1) (hn : twA z n) : Te (fun K => qe_X13_leaf K (nI c) (Int64.ofInt σ) (nI a - 40) (nI j) z) (fun z1 => fr (fun g => g = 44) z z1 ∧ twA z1 (fun p q => n p q + σ * lfz (c - 1) (p - ((a : Int) - 40)) (q - (j : Int)))) := by
  let Q : ow_MS → Prop := fun z1 => fr (fun g => g = 44) z z1 ∧ twA z1 (fun p q => n p q + σ * lfz (c - 1) (p - ((a : Int) - 40)) (q - (j : Int)))
  have key : ∀ (d t : Nat) (y : ow_MS), t + d = c → fr (fun g => g = 44) z y → twA y (fun p q => n p q + σ * tmz (c - 1) t (p - ((a : Int) - 40)) (q - (j : Int))) → Tt (fun K i => q_X13_leaf K i 1 (nI c) (nI a - 40) (nI j) (nI (c - 1)) (nI t) (Int64.ofInt σ) (Int64.ofInt (σ * (binN (c - 1) t : Int))) 0 0 0 y) Q := by
    intro d
    induction d with
    | zero =>
      intro t y ht hf hy
      refine u_X13_leaf_1 ?_; unfold qm_X13_leaf_1
      refine w_ltT (by omega) (by omega) (w_some ⟨hf, twA_cg hy (fun p q => ?_)⟩)
      rw [show t = (c - 1) + 1 by omega, tmz_l]
    | succ d ih =>
      intro t y ht hf hy
      have ix := lf_ix (j := j) (k := c - 1) (t := t) (a := a) hj (by omega) (by omega) ha ha2
      have e9 : 129 * (j + 20 - (c - 1)) + a + 2 * t + 24 - (c - 1) = 129 * (j + 20 - (c - 1)) + (a + 2 * t + 24 - (c - 1)) := by omega
      rw [e9] at ix
      have hlt : 129 * (j + 20 - (c - 1)) + (a + 2 * t + 24 - (c - 1)) < 5289 := by omega
      have rd := hy (a + 2 * t + 24 - (c - 1)) (j + 20 - (c - 1)) (by omega) (by omega)
      have many : (Int64.ofInt (σ * (binN (c - 1) t : Int)) * (nI (c - 1) - nI t).toInt64) / (nI (t + 1)).toInt64 = Int64.ofInt (σ * (binN (c - 1) (t + 1) : Int)) := by
        have tb := lf_tab ⟨c - 1, by omega⟩ ⟨t, by omega⟩ (show t ≤ c - 1 by omega)
        rcases hσ with e | e
        · rw [e]
          exact tb.1
        · rw [e]
          exact tb.2
      have c2 : Tt (fun K i => q_X13_leaf K i 2 (nI c) (nI a - 40) (nI j) (nI (c - 1)) (nI t) (Int64.ofInt σ) (Int64.ofInt (σ * (binN (c - 1) t : Int))) (nI (129 * (j + 20 - (c - 1)) + (a + 2 * t + 24 - (c - 1)))) (Int64.ofInt (σ * (sgt9 t * (binN (c - 1) t : Int)))) (Int64.ofInt (n (((a + 2 * t + 24 - (c - 1) : Nat) : Int) - 64) (((j + 20 - (c - 1) : Nat) : Int) - 20) + σ * tmz (c - 1) t (((a + 2 * t + 24 - (c - 1) : Nat) : Int) - 64 - ((a : Int) - 40)) (((j + 20 - (c - 1) : Nat) : Int) - 20 - (j : Int)))) y) Q := by
        refine u_X13_leaf_2 ?_; unfold qm_X13_leaf_2
        rw [nI_1, many]
        have hnz : (nI (t + 1)).toInt64 ≠ 0 := by
          rw [nI_l (by omega)]
          exact fun e => by
            have := (pk_lEQ (a := t + 1) (b := 0) (by omega) (by omega)).mp e
            omega
        refine w_wrJ ml44 rfl hlt (w_nzJ hnz (ih (t + 1) _ (by omega) (fr_J2 hf rfl) (fun a2 b2 h1 h2 => ?_)))
        show _ = Int64.ofInt (n ((a2 : Int) - 64) ((b2 : Int) - 20) + σ * (tmz (c - 1) t ((a2 : Int) - 64 - ((a : Int) - 40)) ((b2 : Int) - 20 - (j : Int)) + (if (a2 : Int) - 64 - ((a : Int) - 40) = 2 * (t : Int) - ((c - 1 : Nat) : Int) ∧ (b2 : Int) - 20 - (j : Int) = -((c - 1 : Nat) : Int) then sgt9 t * (binN (c - 1) t : Int) else 0)))
        by_cases cs : a2 = a + 2 * t + 24 - (c - 1) ∧ b2 = j + 20 - (c - 1)
        · rw [if_pos ⟨by omega, by omega⟩, cs.1, cs.2, usJ_at, ← Int64.ofInt_add, Int.mul_add, Int.add_assoc]
        · rw [if_neg (fun h => cs ⟨by omega, by omega⟩), usJ_ne (by omega), Int.add_zero]
          exact hy a2 b2 h1 h2
      have par := lf_par ⟨t, by omega⟩
      dsimp only at par
      refine u_X13_leaf_1 ?_; unfold qm_X13_leaf_1
      rw [ix]
      refine w_ltF (by omega) (by omega) (w_rdJ ml44 rfl hlt rd (w_if (fun h9 => ?_) (fun h9 => ?_)))
      · have es : sgt9 t = 1 := if_pos (par.mp h9)
        rw [es, Int.one_mul] at c2
        exact c2
      · have es : sgt9 t = -1 := if_neg (fun h8 => h9 (par.mpr h8))
        rw [es, show σ * (-1 * (binN (c - 1) t : Int)) = 0 - σ * (binN (c - 1) t : Int) by rw [Int.neg_one_mul, Int.mul_neg, Int.zero_sub], Int64.ofInt_sub] at c2
        exact c2
  refine e_X13_leaf ?_
  refine u_X13_leaf_0 ?_; unfold qm_X13_leaf_0
  rw [show nI c - 1 = nI (c - 1) from pk_sub (b := 1) hc]
  have k0 := key c 0 z (by omega) fr_rf (twA_cg hn (fun p q => by show _ = n p q + σ * 0; rw [Int.mul_zero, Int.add_zero]))
  rw [show σ * ((binN (c - 1) 0 : Nat) : Int) = σ by rw [binN_z]; exact Int.mul_one σ] at k0
  exact w_rdF h46 (w_ifF (by decide) k0)
end XTWK1
theorem bd_len {n : Nat} {W : wd9} {ov sg : Nat → Bool} {A : rn_L} (hn : 1 ≤ n) (h : bdz n W ov A sg) : 1 ≤ A.length := by
  obtain ⟨-, ⟨L, hL, eA⟩, -⟩ := h
  have m : (0, 2) ∈ L.flatten := (hL.2.2 _).mpr (Or.inl ⟨rfl, hn⟩)
  obtain ⟨c, hc, -⟩ := List.mem_flatten.mp m
  rw [eA, List.length_map]
  exact List.length_pos_of_mem hc
/-- the skein relation, shifted -/
theorem tw_st {P P1 P2 : pz9} {b : Bool} {σ : Int} (h : P = skz b P2 P1) (p q a j : Int) (n : Int) : n + (if b then σ else 0 - σ) * P1 (p - (a + sgz b)) (q - (j + 1)) + σ * P2 (p - (a + 2 * sgz b)) (q - j) = n + σ * P (p - a) (q - j) := by
  rw [h]
  show _ = n + σ * (P2 (p - a - 2 * sgz b) (q - j) + sgz b * P1 (p - a - sgz b) (q - j - 1))
  rw [show p - (a + sgz b) = p - a - sgz b by omega, show q - (j + 1) = q - j - 1 by omega, show p - (a + 2 * sgz b) = p - a - 2 * sgz b by omega]
  generalize P1 (p - a - sgz b) (q - j - 1) = u
  generalize P2 (p - a - 2 * sgz b) (q - j) = v
  cases b
  · rw [if_neg (by decide), sgz_f, Int.mul_add, Int.neg_one_mul, Int.mul_neg, Int.zero_sub, Int.neg_mul]
    omega
  · rw [if_pos rfl, sgz_t, Int.mul_add, Int.one_mul]
    omega
theorem xr_skein2 {nn : Nat} (hnn : 1 ≤ nn) : ∀ (f depth dd k j a : Nat) (A : rn_L) (sg : Nat → Bool) (σ : Int) (n : pz9) (Wd : wd9) (ov : Nat → Bool) (z : ow_MS), f < dd → depth + f ≤ 12 → j ≤ depth → wkF A.flatten → A.flatten.length ≤ 24 → A.length ≤ 6 + j → rn_At z (1000 * (depth + 4)) A [] → rn_sg z (1000 * (depth + 4)) A.flatten sg → gPre A k → ouT A k f → 40 ≤ a + 2 * depth → a ≤ 40 + 2 * depth → (σ = 1 ∨ σ = -1) → z.1 46 = 1 → twA z n → bdz nn Wd ov A sg → Te (fun K => qd_X13_skein K dd (nI depth) (Int64.ofInt σ) (nI a - 40) (nI j) z) (fun z1 => fr (skH depth) z z1 ∧ twA z1 (fun p q => n p q + σ * Fz nn Wd ov (p - ((a : Int) - 40)) (q - (j : Int)))) := by
  intro f
  induction f using Nat.strongRecOn with
  | ind f ih =>
  intro depth dd k j a A sg σ n Wd ov z hdd hdf hj hF hl hC hA hS hg ho ha1 ha2 hσ h46 hcw hbz
  obtain ⟨dd, rfl⟩ : ∃ d', dd = d' + 1 := ⟨dd - 1, by omega⟩
  have hd := wkF_ok hF
  have hn : mw_net (1000 * (depth + 4)) := pnL (by omega)
  have hn2 : mw_net (1000 * (depth + 1 + 4)) := pnL (by omega)
  have cx : ∀ {i}, i < A.flatten.length → crs A i < 40 ∧ uns A i < 2 := fun hi => by
    obtain ⟨g1, g2, -⟩ := hF.2 _ (List.mem_of_getElem? (vAt_of hi))
    exact ⟨g1, g2⟩
  let Q : ow_MS → Prop := fun z1 => fr (skH depth) z z1 ∧ twA z1 (fun p q => n p q + σ * Fz nn Wd ov (p - ((a : Int) - 40)) (q - (j : Int)))
  have mono41 : ∀ {y : ow_MS}, fr (fun g => g = 41) z y → fr (skH depth) z y := fun hf => fr_mono (fun g hg => Or.inr (Or.inl hg)) hf
  have aA : ∀ {y : ow_MS}, fr (fun g => g = 41) z y → rn_At y (1000 * (depth + 4)) A [] := fun hf => fr_At hf (fun g hg => by omega) hA
  have aV : ∀ {y : ow_MS}, fr (fun g => g = 41) z y → y.1 (1000 * (depth + 4) + 1) = nI A.flatten.length := fun hf => by rw [(aA hf).1, List.append_nil]
  have c5 : gPre A A.flatten.length → ∀ (x8 : Int32) (y : ow_MS), fr (fun g => g = 41) z y → Tt (fun K i => q_X13_skein K (qd_X13_skein K dd) i 5 (nI depth) (nI a - 40) (nI j) (-1) x8 0 0 0 (Int64.ofInt σ) (1000 * (depth + 4)) 0 0 0 0 0 0 0 0 y) Q := by
    intro hno x8 y hf
    have hl1 := bd_len hnn hbz
    refine u_X13_skein_5 ?_; unfold qm_X13_skein_5
    refine w_ifT rfl (w_rdF (aA hf).2.1 (w_cs0 (xr_leaf2 (n := n) hl1 (by omega) (by omega) (by omega) (by omega) hσ (by rw [(hf 46 (by decide)).1]; exact h46) (twA_fr hf (by decide) hcw)) (fun z1 ⟨h9, h8⟩ => w_some ⟨?_, twA_cg h8 (fun p q => ?_)⟩)))
    · exact fr_tr (mono41 hf) (fr_mono (fun g hg => Or.inr (Or.inr (Or.inr hg))) h9)
    · rw [bd_lf hbz hno]
  have bad : ∀ (v : Nat) (x8 : Int32) (y : ow_MS), fr (fun g => g = 41) z y → v < A.flatten.length → (∀ u, u < v → crs A u ≠ crs A v) → uns A v ≠ 0 → (∀ u, u < v → (∀ t, t < u → crs A t ≠ crs A u) → uns A u = 0) → Tt (fun K i => q_X13_skein K (qd_X13_skein K dd) i 5 (nI depth) (nI a - 40) (nI j) (nI v) x8 0 0 0 (Int64.ofInt σ) (1000 * (depth + 4)) 0 0 0 0 0 0 0 0 y) Q := by
    intro v x8 y hf hv hfst hb hgood
    have hAy := aA hf
    obtain ⟨g1, g2, g3⟩ := rn_c_in A v hv
    have hml := mtf_lt hd hv
    have hmc := crs_mtf hd hv
    have hmn := mtf_ne hd hv
    have hvm : v < mtf A v := by
      rcases Nat.lt_or_ge (mtf A v) v with h8 | h8
      · exact absurd hmc (hfst _ h8)
      · omega
    obtain ⟨fc, hfc, kF, kg, ko⟩ := sk_ch (x := crs A v) hF hg ho hv rfl hfst hb hgood
    obtain ⟨q1, q2, q3⟩ := smC_ok hF hvm hml
    obtain ⟨fs, hfs, mF, mg, mo, ml⟩ := sk_sm hF hg ho hv hml hvm hmc hfst hb hgood q1 q2 q3
    have two9 : vAt A v = (crs A v, 0) ∧ vAt A (mtf A v) = (crs A v, 1) ∨ vAt A v = (crs A v, 1) ∧ vAt A (mtf A v) = (crs A v, 0) := by
      have u1 : uns A v = 1 := by
        have := (cx hv).2
        omega
      have u2 := (cx hml).2
      have e1 : vAt A v = (crs A v, 1) := Prod.ext rfl u1
      have e2 : uns A (mtf A v) = 0 := by
        rcases (show uns A (mtf A v) = 0 ∨ uns A (mtf A v) = 1 by omega) with h9 | h9
        · exact h9
        · exfalso
          have e3 : vAt A (mtf A v) = (crs A v, 1) := Prod.ext hmc h9
          exact hmn (nd_pos hF.1 (p := (crs A v, 1)) (by rw [← e3]; exact vAt_of hml) (by rw [← e1]; exact vAt_of hv))
      exact Or.inr ⟨e1, Prod.ext hmc e2⟩
    have hxm : crs A v ∈ nmz Wd := bd_nm hbz (vAt_mem hv)
    have hosg : ov (crs A v) = !sg (crs A v) := by
      rw [hbz.2.2 _ hxm, Bool.not_not]
    have hsk := bd_sk hbz hxm
    have bsm := bd_sm hbz hvm hml two9
    have bch := bd_ch (crs A v) hbz
    have hσ1 : (if ov (crs A v) then σ else 0 - σ) = 1 ∨ (if ov (crs A v) then σ else 0 - σ) = -1 := by
      cases ov (crs A v)
      · rw [if_neg (by decide)]
        omega
      · rw [if_pos rfl]
        exact hσ
    have c13 : ∀ (a' : Nat) (x : Int32) (x11 : Int32) (y5 : ow_MS), x = nI a' - 40 → (a' : Int) = a + 2 * sgz (ov (crs A v)) → 40 ≤ a' + 2 * (depth + 1) → a' ≤ 40 + 2 * (depth + 1) → fr (skH depth) z y5 → rn_At y5 (1000 * (depth + 1 + 4)) (chA A (crs A v)) [] → rn_sg y5 (1000 * (depth + 1 + 4)) (chA A (crs A v)).flatten (chS sg (crs A v)) → twA y5 (fun p q => n p q + (if ov (crs A v) then σ else 0 - σ) * Fz nn (dlz (crs A v) Wd) ov (p - ((a : Int) - 40 + sgz (ov (crs A v)))) (q - ((j : Int) + 1))) → Tt (fun K i => q_X13_skein K (qd_X13_skein K dd) i 13 (nI depth) (nI a - 40) (nI j) (nI v) (nI (rn_c A v)) (nI (crs A v)) (nI (mtf A v)) x11 (Int64.ofInt σ) (1000 * (depth + 4)) (1000 * (depth + 1 + 4)) x 0 (nI (depth + 1)) 0 0 (Int64.ofInt σ) 0 y5) Q := by
      intro a' x x11 y5 hx ha9 h1 h2 hf5 hA5 hS5 hc5
      rw [hx]
      refine u_X13_skein_13 ?_; unfold qm_X13_skein_13
      refine w_cs0 (ih fc (by omega) (depth + 1) dd (v + 1) j a' (chA A (crs A v)) (chS sg (crs A v)) σ _ Wd (flz ov (crs A v)) y5 (by omega) (by omega) (by omega) kF (by rw [ch_len]; exact hl) (by unfold chA; rw [List.length_map]; exact hC) hA5 hS5 kg ko h1 h2 hσ (by rw [(hf5 46 (by unfold skH; omega)).1]; exact h46) hc5 bch) (fun z6 ⟨h6, h7⟩ => w_some ⟨fr_tr hf5 (fr_mono (fun g hg => by unfold skH at hg ⊢; omega) h6), twA_cg h7 (fun p q => ?_)⟩)
      rw [ha9, show (a : Int) + 2 * sgz (ov (crs A v)) - 40 = (a : Int) - 40 + 2 * sgz (ov (crs A v)) by omega]
      exact tw_st hsk p q _ _ _
    have c8 : ∀ (t0 : Int32), t0 = (if sg (crs A v) then 0 else 1) → Tt (fun K i => q_X13_skein K (qd_X13_skein K dd) i 8 (nI depth) (nI a - 40) (nI j) (nI v) (nI (rn_c A v)) (nI (crs A v)) (nI (mtf A v)) 0 (Int64.ofInt σ) (1000 * (depth + 4)) 0 t0 0 0 0 0 0 0 y) Q := by
      intro t0 ht0
      have hSy : rn_sg y (1000 * (depth + 4)) A.flatten sg := fun p hp => by
        rw [(hf _ (by omega)).2.1]
        exact hS p hp
      refine u_X13_skein_8 ?_; unfold qm_X13_skein_8
      rw [show nI depth + 1 = nI (depth + 1) from nI_1 _]
      refine w_rdN rfl (by omega) (w_cs0 (xr_smoothIn hn hn2 (by omega) hl (by omega) hAy g1 g2 g3 hvm hml) (fun z2 ⟨b2, s2, f2⟩ => ?_))
      have b2 : rn_At z2 (1000 * (depth + 1 + 4)) (smV A v (mtf A v)) [] := b2
      have hz2 : fr (skH depth) z z2 := fr_tr (mono41 hf) (fr_mono (fun g hg => Or.inl (by omega)) f2)
      have hA2 : rn_At z2 (1000 * (depth + 4)) A [] := fr_At f2 (fun g hg => by omega) hAy
      have hS2 : rn_sg z2 (1000 * (depth + 4)) A.flatten sg := fun p hp => by
        rw [(f2 _ (by omega)).2.1]
        exact hSy p hp
      have hs1 : (if t0 = 0 then (0 - Int64.ofInt σ) else Int64.ofInt σ) = Int64.ofInt (if ov (crs A v) then σ else 0 - σ) := by
        rw [ht0, hosg]
        cases sg (crs A v)
        · exact if_neg (by decide)
        · refine (if_pos (by decide)).trans ?_
          show 0 - Int64.ofInt σ = Int64.ofInt (0 - σ)
          rw [Int64.ofInt_sub]
          rfl
      have h462 : z2.1 46 = 1 := by
        rw [(hz2 46 (by unfold skH; omega)).1]
        exact h46
      have c11 : ∀ (a' : Nat) (x : Int32), x = nI a' - 40 → (a' : Int) = a + sgz (ov (crs A v)) → 40 ≤ a' + 2 * (depth + 1) → a' ≤ 40 + 2 * (depth + 1) → Tt (fun K i => q_X13_skein K (qd_X13_skein K dd) i 11 (nI depth) (nI a - 40) (nI j) (nI v) (nI (rn_c A v)) (nI (crs A v)) (nI (mtf A v)) t0 (Int64.ofInt σ) (1000 * (depth + 4)) (1000 * (depth + 1 + 4)) x 0 (nI (depth + 1)) 0 0 (Int64.ofInt (if ov (crs A v) then σ else 0 - σ)) 0 z2) Q := by
        intro a' x hx ha9 h1 h2
        rw [hx]
        refine u_X13_skein_11 ?_; unfold qm_X13_skein_11
        rw [show nI depth + 1 = nI (depth + 1) from nI_1 _, show nI j + 1 = nI (j + 1) from nI_1 _]
        refine w_cs0 (ih fs (by omega) (depth + 1) dd v (j + 1) a' (smV A v (mtf A v)) sg (if ov (crs A v) then σ else 0 - σ) n (dlz (crs A v) Wd) ov z2 (by omega) (by omega) (by omega) mF (Nat.le_trans ml hl) (by have := smV_n hvm hml; omega) b2 (sg_sm hF hvm hml hSy s2) mg mo h1 h2 hσ1 h462 (twA_fr f2 (by omega) (twA_fr hf (by decide) hcw)) bsm) (fun z3 ⟨h3, h3c⟩ => ?_)
        have h3d : twA z3 (fun p q => n p q + (if ov (crs A v) then σ else 0 - σ) * Fz nn (dlz (crs A v) Wd) ov (p - ((a : Int) - 40 + sgz (ov (crs A v)))) (q - ((j : Int) + 1))) := twA_cg h3c (fun p q => by
          rw [ha9, show (a : Int) + sgz (ov (crs A v)) - 40 = (a : Int) - 40 + sgz (ov (crs A v)) by omega]
          rfl)
        have hA3 : rn_At z3 (1000 * (depth + 4)) A [] := fr_At h3 (fun g hg => by unfold skH at hg; omega) hA2
        have hS3 : rn_sg z3 (1000 * (depth + 4)) A.flatten sg := fun p hp => by
          rw [(h3 _ (by unfold skH; omega)).2.1]
          exact hS2 p hp
        refine w_cs0 (tn_copy hn2 hn (by omega) (by omega) (by omega) hA3) (fun z4 ⟨hA4, f4, s4⟩ => w_cs0 (tp_changeIn hn2 (by omega) (cx hv).1 (fun u hu => ⟨(cx hu).2, (cx hu).1⟩) hA4) (fun z5 ⟨hA5, f5, e5, e6⟩ => ?_))
        have hz5 : fr (skH depth) z z5 := fr_tr hz2 (fr_tr (fr_mono (fun g hg => by unfold skH at hg ⊢; omega) h3) (fr_tr (fr_mono (fun g hg => Or.inl (by omega)) f4) (fr_mono (fun g hg => Or.inl (by omega)) f5)))
        have hS5 := sg_ch hF hS3 s4 e5 e6
        have hc5 := twA_fr f5 (by omega) (twA_fr f4 (by omega) h3d)
        have h465 : z5.1 46 = 1 := by
          rw [(hz5 46 (by unfold skH; omega)).1]
          exact h46
        refine w_rdF h465 (w_ifF (by decide) ?_)
        cases e9 : sg (crs A v)
        · rw [e9] at hosg ht0
          refine w_ifF (by rw [ht0]; decide) ?_
          refine u_X13_skein_12 ?_; unfold qm_X13_skein_12
          exact c13 (a + 2) _ _ z5 (sk_pw2 (by omega)).2 (by rw [hosg]; show ((a + 2 : Nat) : Int) = a + 2 * 1; omega) (by omega) (by omega) hz5 hA5 hS5 hc5
        · rw [e9] at hosg ht0
          refine w_ifT (by rw [ht0]; decide) ?_
          refine u_X13_skein_12 ?_; unfold qm_X13_skein_12
          exact c13 (a - 2) _ _ z5 (sk_pw2 (by omega)).1 (by rw [hosg]; show ((a - 2 : Nat) : Int) = a + 2 * (-1); omega) (by omega) (by omega) hz5 hA5 hS5 hc5
      have c9 : Tt (fun K i => q_X13_skein K (qd_X13_skein K dd) i 9 (nI depth) (nI a - 40) (nI j) (nI v) (nI (rn_c A v)) (nI (crs A v)) (nI (mtf A v)) t0 (Int64.ofInt σ) (1000 * (depth + 4)) (1000 * (depth + 1 + 4)) 0 (nI (depth + 1)) 0 0 (Int64.ofInt (if ov (crs A v) then σ else 0 - σ)) 0 0 z2) Q := by
        refine u_X13_skein_9 ?_; unfold qm_X13_skein_9
        refine w_rdF h462 (w_ifF (by decide) ?_)
        cases e9 : sg (crs A v)
        · have ho9 : ov (crs A v) = true := by rw [hosg, e9]; rfl
          refine w_ifF (by rw [ht0, e9]; decide) ?_
          refine u_X13_skein_10 ?_; unfold qm_X13_skein_10
          exact c11 (a + 1) _ (sk_pw (by omega)).2 (by rw [ho9]; show ((a + 1 : Nat) : Int) = a + 1; omega) (by omega) (by omega)
        · have ho9 : ov (crs A v) = false := by rw [hosg, e9]; rfl
          refine w_ifT (by rw [ht0, e9]; decide) ?_
          refine u_X13_skein_10 ?_; unfold qm_X13_skein_10
          exact c11 (a - 1) _ (sk_pw (by omega)).1 (by rw [ho9]; show ((a - 1 : Nat) : Int) = a + (-1); omega) (by omega) (by omega)
      refine w_if (fun h0 => ?_) (fun h0 => ?_)
      · rw [if_pos h0] at hs1
        rw [hs1]
        exact c9
      · rw [if_neg h0] at hs1
        rw [← hs1] at c9
        exact c9
    have c7 : ∀ (d w : Nat), w + d = mtf A v → v < w → Tt (fun K i => q_X13_skein K (qd_X13_skein K dd) i 7 (nI depth) (nI a - 40) (nI j) (nI v) (nI (rn_c A v)) (nI (crs A v)) (nI w) 0 (Int64.ofInt σ) (1000 * (depth + 4)) 0 0 0 0 0 0 0 0 y) Q := by
      intro d
      induction d with
      | zero =>
        intro w hw hvw
        have hw : w = mtf A v := by omega
        subst hw
        refine u_X13_skein_7 ?_; unfold qm_X13_skein_7
        refine w_rdI (pl4 hn) rfl (by omega) (at_cu hAy hml).1 (w_ifT (by rw [hmc]) (w_rdI (pl6 hn) rfl (cx hv).1 (x := if sg (crs A v) then -1 else 1) (by rw [(hf _ (by omega)).2.1]; exact hS _ (vAt_mem hv)) ?_))
        cases e9 : sg (crs A v)
        · exact w_ifF (by decide) (c8 1 (by rw [e9]; rfl))
        · exact w_ifT (by decide) (c8 0 (by rw [e9]; rfl))
      | succ d ih7 =>
        intro w hw hvw
        have hwl : w < A.flatten.length := by omega
        refine u_X13_skein_7 ?_; unfold qm_X13_skein_7
        rw [show nI w + 1 = nI (w + 1) from nI_1 _]
        refine w_rdI (pl4 hn) rfl (by omega) (at_cu hAy hwl).1 (w_ifF (fun e9 => ?_) (ih7 (w + 1) (by omega) (by omega)))
        have e8 := (nI_eq (by have := (cx hwl).1; omega) (by have := (cx hv).1; omega)).mp e9
        exact sk_two hd hv hml hwl (by omega) hmc (by omega) (by omega) e8
    have c6 : ∀ (d c : Nat), c + d = rn_c A v → Tt (fun K i => q_X13_skein K (qd_X13_skein K dd) i 6 (nI depth) (nI a - 40) (nI j) (nI v) (nI c) 0 0 0 (Int64.ofInt σ) (1000 * (depth + 4)) 0 0 0 0 0 0 0 0 y) Q := by
      intro d
      induction d with
      | zero =>
        intro c hc
        have hc : c = rn_c A v := by omega
        subst hc
        refine u_X13_skein_6 ?_; unfold qm_X13_skein_6
        rw [show nI (rn_c A v) + 1 = nI (rn_c A v + 1) from nI_1 _, show nI v + 1 = nI (v + 1) from nI_1 _]
        exact w_rdI (pl3 hn) rfl (by omega) (hAy.2.2.1 _ (by omega)) (w_ltT (by have := rn_b_le A (rn_c A v + 1); unfold rn_b at this; omega) g3 (w_rdI (pl4 hn) rfl (by omega) (at_cu hAy hv).1 (c7 (mtf A v - (v + 1)) (v + 1) (by omega) (by omega))))
      | succ d ih6 =>
        intro c hc
        refine u_X13_skein_6 ?_; unfold qm_X13_skein_6
        rw [show nI c + 1 = nI (c + 1) from nI_1 _]
        have hle : rn_b A (c + 1) ≤ rn_b A (rn_c A v) := rn_b_mono2 (by omega)
        exact w_rdI (pl3 hn) rfl (by omega) (hAy.2.2.1 _ (by omega)) (w_ltF (by omega) (show rn_b A (c + 1) ≤ v by omega) (ih6 (c + 1) (by omega)))
    refine u_X13_skein_5 ?_; unfold qm_X13_skein_5
    exact w_ifF (rn_neg1 (by omega)) (c6 (rn_c A v) 0 (by omega))
  have scan : ∀ (d v : Nat) (y : ow_MS), v + d = A.flatten.length → fr (fun g => g = 41) z y → metR A v y → (∀ u, u < v → (∀ t, t < u → crs A t ≠ crs A u) → uns A u = 0) → Tt (fun K i => q_X13_skein K (qd_X13_skein K dd) i 2 (nI depth) (nI a - 40) (nI j) (-1) (nI v) 0 0 0 (Int64.ofInt σ) (1000 * (depth + 4)) 0 0 0 0 0 0 0 0 y) Q := by
    intro d
    induction d with
    | zero =>
      intro v y hv hf hm hgd
      refine u_X13_skein_2 ?_; unfold qm_X13_skein_2
      exact w_rdF (aV hf) (w_leT (by omega) (by omega) (c5 (fun u _ hu hfu => hgd u (by omega) hfu) _ y hf))
    | succ d ihs =>
      intro v y hv hf hm hgd
      have hvl : v < A.flatten.length := by omega
      have hcv := cx hvl
      have next : ∀ (y2 : ow_MS), fr (fun g => g = 41) z y2 → metR A (v + 1) y2 → (∀ u, u < v + 1 → (∀ t, t < u → crs A t ≠ crs A u) → uns A u = 0) → Tt (fun K i => q_X13_skein K (qd_X13_skein K dd) i 4 (nI depth) (nI a - 40) (nI j) (-1) (nI v) (nI (crs A v)) 0 0 (Int64.ofInt σ) (1000 * (depth + 4)) 0 0 0 0 0 0 0 0 y2) Q := by
        intro y2 hf2 hm2 hg2
        refine u_X13_skein_4 ?_; unfold qm_X13_skein_4
        rw [show nI v + 1 = nI (v + 1) from nI_1 _]
        exact ihs (v + 1) y2 (by omega) hf2 hm2 hg2
      refine u_X13_skein_2 ?_; unfold qm_X13_skein_2
      refine w_rdF (aV hf) (w_leF (by omega) hvl (w_ifT rfl (w_rdI (pl4 hn) rfl (by omega) (at_cu (aA hf) hvl).1 (w_rdI ml41 rfl hcv.1 rfl ?_))))
      rcases hm _ hcv.1 with ⟨e0, hno⟩ | ⟨e1, u, hu, hue⟩
      · rw [e0]
        have hf2 : fr (fun g => g = 41) z (usI y 41 (crs A v) (vp_nar .boolean 1)) := fr_I2 hf rfl
        refine w_ifT rfl (w_wrZ ml41 rfl hcv.1 (w_rdI (pl5 hn) rfl (by omega) (at_cu (aA hf2) hvl).2 (w_if (fun h9 => ?_) (fun h9 => ?_))))
        · have hb : uns A v ≠ 0 := fun e => by rw [e] at h9; exact absurd h9 (by decide)
          refine u_X13_skein_3 ?_; unfold qm_X13_skein_3
          refine u_X13_skein_4 ?_; unfold qm_X13_skein_4
          rw [show nI v + 1 = nI (v + 1) from nI_1 _]
          refine u_X13_skein_2 ?_; unfold qm_X13_skein_2
          exact w_rdF (aV hf2) (w_le (by omega) (by omega) (fun _ => bad v _ _ hf2 hvl hno hb hgd) (fun _ => w_ifF (rn_neg1 (by omega)) (bad v _ _ hf2 hvl hno hb hgd)))
        · have hb : uns A v = 0 := by
            rcases Nat.eq_zero_or_pos (uns A v) with h8 | h8
            · exact h8
            · exact absurd (show nI (uns A v) = 1 by rw [show uns A v = 1 by omega]; rfl) h9
          refine u_X13_skein_3 ?_; unfold qm_X13_skein_3
          refine next _ hf2 (fun x hx => ?_) (fun u hu hfu => ?_)
          · by_cases hxv : x = crs A v
            · rw [hxv]
              exact Or.inr ⟨po_usI_at.trans (by decide), v, by omega, rfl⟩
            · rcases hm x hx with ⟨a1, a2⟩ | ⟨a1, u, hu, a2⟩
              · refine Or.inl ⟨rd_ne hxv a1, fun u hu e => ?_⟩
                by_cases huv : u = v
                · rw [huv] at e
                  exact hxv e.symm
                · exact a2 u (by omega) e
              · exact Or.inr ⟨rd_ne hxv a1, u, by omega, a2⟩
          · by_cases huv : u = v
            · rw [huv]; exact hb
            · exact hgd u (by omega) hfu
      · rw [e1]
        refine w_ifF (by decide) (next y hf (fun x hx => ?_) (fun t ht hft => ?_))
        · rcases hm x hx with ⟨a1, a2⟩ | ⟨a1, t, ht, a2⟩
          · refine Or.inl ⟨a1, fun t ht e => ?_⟩
            by_cases htv : t = v
            · rw [htv] at e
              exact a2 u hu (hue.trans e)
            · exact a2 t (by omega) e
          · exact Or.inr ⟨a1, t, by omega, a2⟩
        · by_cases htv : t = v
          · rw [htv] at hft
            exact absurd hue (hft u hu)
          · exact hgd t (by omega) hft
  have clr : ∀ (d i : Nat) (y : ow_MS), i + d = 40 → fr (fun g => g = 41) z y → (∀ x, x < i → y.2.1 41 x = 0) → Tt (fun K t => q_X13_skein K (qd_X13_skein K dd) t 1 (nI depth) (nI a - 40) (nI j) (nI i) 0 0 0 0 (Int64.ofInt σ) (1000 * (depth + 4)) 0 0 0 0 0 0 0 0 y) Q := by
    intro d
    induction d with
    | zero =>
      intro i y hi hf hx
      refine u_X13_skein_1 ?_; unfold qm_X13_skein_1
      exact w_leT (a := 40) (by omega) (by omega) (scan A.flatten.length 0 y (by omega) hf (fun x h9 => Or.inl ⟨hx x (by omega), fun u hu => absurd hu (by omega)⟩) (fun u hu => absurd hu (by omega)))
    | succ d ihc =>
      intro i y hi hf hx
      refine u_X13_skein_1 ?_; unfold qm_X13_skein_1
      rw [show nI i + 1 = nI (i + 1) from nI_1 _]
      refine w_leF (a := 40) (by omega) (by omega) (w_wrZ ml41 rfl (by omega) (ihc (i + 1) _ (by omega) (fr_I2 hf rfl) (fun x h9 => ?_)))
      by_cases hxi : x = i
      · rw [hxi]
        exact po_usI_at.trans (by decide)
      · exact rd_ne hxi (hx x (by omega))
  refine w_qd ?_
  refine u_X13_skein_0 ?_; unfold qm_X13_skein_0
  exact w_rdN rfl (by omega) (clr 40 0 z (by omega) fr_rf (fun x hx => absurd hx (by omega)))
end
section
/-! 99zzzzzzzzzzzzzzzzv.xtwl -/
/-! two: the class's sum of circles, exactly -/
/-- the class's table -/
def twC (y : ow_MS) (n : pz9) : Prop := ∀ a b : Nat, a < 129 → b < 41 → y.2.1 24004 (a * 41 + b) = iI (n ((a : Int) - 64) ((b : Int) - 20))
theorem twC_fr {P : Nat → Prop} {z z1 : ow_MS} {n : pz9} (hf : fr P z z1) (hP : ¬ P 24004) (h : twC z n) : twC z1 n := fun a b ha hb => by
  rw [(hf 24004 hP).2.1]
  exact h a b ha hb
theorem twC_cg {z : ow_MS} {n n' : pz9} (h : twC z n) (e : ∀ p q, n p q = n' p q) : twC z n' := fun a b ha hb => by
  rw [← e]
  exact h a b ha hb
theorem i64_lt {a b : Int} (h1 : -5000000000 ≤ a) (h2 : a ≤ 5000000000) (h3 : -5000000000 ≤ b) (h4 : b ≤ 5000000000) : Int64.ofInt a < Int64.ofInt b ↔ a < b := by
  rw [Int64.lt_iff_toInt_lt, Int64.toInt_ofInt_of_le (by omega) (by omega), Int64.toInt_ofInt_of_le (by omega) (by omega)]
theorem lf_par9 : ∀ t : Fin 24, (nI t.val &&& 1) = 0 ↔ t.val % 2 = 0 := by decide +kernel
theorem ti_ix : ∀ (a : Fin 129) (b : Fin 41), (Int64.ofInt (a.val : Int) * 41 + Int64.ofInt (b.val : Int)).toInt32 = nI (a.val * 41 + b.val) := by decide +kernel
section XTWL
variable {vl : Nat → Nat} {y : ow_MS}
theorem xc_tIx {I J : Int} (h1 : -3000000000 ≤ I) (h2 : I ≤ 3000000000) (h3 : -3000000000 ≤ J) (h4 : J ≤ 3000000000) : Te (fun K => ce_X8_twoIndex vl K (Int64.ofInt I) (Int64.ofInt J) y) (fun r => r.2 = y ∧ ((∃ a b : Nat, a < 129 ∧ b < 41 ∧ I = (a : Int) - 64 ∧ J = (b : Int) - 20 ∧ r.1 = nI (a * 41 + b)) ∨ r.1 = -1 ∧ ¬ (-64 ≤ I ∧ I ≤ 64 ∧ -20 ≤ J ∧ J ≤ 20))) := by
  let Q : Int32 × ow_MS → Prop := fun r => r.2 = y ∧ ((∃ a b : Nat, a < 129 ∧ b < 41 ∧ I = (a : Int) - 64 ∧ J = (b : Int) - 20 ∧ r.1 = nI (a * 41 + b)) ∨ r.1 = -1 ∧ ¬ (-64 ≤ I ∧ I ≤ 64 ∧ -20 ≤ J ∧ J ≤ 20))
  have c1 : ¬ (-64 ≤ I ∧ I ≤ 64 ∧ -20 ≤ J ∧ J ≤ 20) → ∀ a b c d : Int64, Tt (fun K t => c_X8_twoIndex vl K t 1 a b c d y) Q := by
    intro hno a b c d
    refine u_X8_twoIndex_1 ?_; unfold cm_X8_twoIndex_1
    exact w_some ⟨rfl, Or.inr ⟨rfl, hno⟩⟩
  have e1 : Int64.ofInt I - (-64) = Int64.ofInt (I + 64) := by
    rw [show (-64 : Int64) = Int64.ofInt (-64) from rfl, ← Int64.ofInt_sub]
    congr 1
  have e2 : Int64.ofInt J - (-20) = Int64.ofInt (J + 20) := by
    rw [show (-20 : Int64) = Int64.ofInt (-20) from rfl, ← Int64.ofInt_sub]
    congr 1
  have l0 : ∀ x : Int, -4000000000 ≤ x → x ≤ 4000000000 → ∀ k : Int, -1000 ≤ k → k ≤ 1000 → (lg_cmp (Int64.ofInt x) (Int64.ofInt k) < 0 ↔ x < k) := fun x a1 a2 k b1 b2 => (lg_cmp_lt _ _).trans (i64_lt (by omega) (by omega) (by omega) (by omega))
  have g0 : ∀ x : Int, -4000000000 ≤ x → x ≤ 4000000000 → ∀ k : Int, -1000 ≤ k → k ≤ 1000 → (0 ≤ lg_cmp (Int64.ofInt x) (Int64.ofInt k) ↔ k ≤ x) := fun x a1 a2 k b1 b2 => by
    have h9 := l0 x a1 a2 k b1 b2
    constructor
    · intro h
      by_cases c : x < k
      · have := h9.mpr c
        exact absurd this (Int32.not_lt.mpr h)
      · omega
    · intro h
      refine Int32.not_lt.mp (fun h8 => ?_)
      have := h9.mp h8
      omega
  refine e_X8_twoIndex ?_
  refine u_X8_twoIndex_0 ?_; unfold cm_X8_twoIndex_0
  rw [e1, e2]
  have i1 := l0 (I + 64) (by omega) (by omega) 0 (by omega) (by omega)
  have i2 := g0 (I + 64) (by omega) (by omega) 129 (by omega) (by omega)
  have i3 := l0 (J + 20) (by omega) (by omega) 0 (by omega) (by omega)
  have i4 := l0 (J + 20) (by omega) (by omega) 41 (by omega) (by omega)
  refine w_if (fun a1 => c1 (by have := i1.mp a1; omega) _ _ _ _) (fun a1 => w_if (fun a2 => c1 (by have := i2.mp a2; omega) _ _ _ _) (fun a2 => w_if (fun a3 => c1 (by have := i3.mp a3; omega) _ _ _ _) (fun a3 => w_if (fun a4 => ?_) (fun a4 => c1 (by have h9 : ¬ (J + 20 < 41) := fun h9 => a4 (i4.mpr h9); omega) _ _ _ _))))
  have b1 : ¬ (I + 64 < 0) := fun h9 => a1 (i1.mpr h9)
  have b2 : ¬ (129 ≤ I + 64) := fun h9 => a2 (i2.mpr h9)
  have b3 : ¬ (J + 20 < 0) := fun h9 => a3 (i3.mpr h9)
  have b4 := i4.mp a4
  obtain ⟨a, ea⟩ : ∃ a : Nat, I + 64 = (a : Int) := ⟨(I + 64).toNat, by omega⟩
  obtain ⟨b, eb⟩ : ∃ b : Nat, J + 20 = (b : Int) := ⟨(J + 20).toNat, by omega⟩
  refine w_some ⟨rfl, Or.inl ⟨a, b, by omega, by omega, by omega, by omega, ?_⟩⟩
  show (Int64.ofInt (I + 64) * 41 + Int64.ofInt (J + 20)).toInt32 = nI (a * 41 + b)
  rw [ea, eb]
  exact ti_ix ⟨a, by omega⟩ ⟨b, by omega⟩
theorem xc_addT {q L : Nat} {φ pw : Int} {n : pz9} (hq1 : 1 ≤ q) (hq : q ≤ 20) (hz : L ≤ 12) (hp1 : -5000 ≤ pw) (hp2 : pw ≤ 5000) (hb : bnC y) (hn : twC y n) : Te (fun K => ce_X8_addCircles vl K 24000 (nI q) (iI φ) (iI pw) (nI L) y) (fun y1 => twC y1 (fun p r => n p r + φ * lfz (q - 1) (p - pw) (r - (L : Int)))) := by
  let Q : ow_MS → Prop := fun y1 => twC y1 (fun p r => n p r + φ * lfz (q - 1) (p - pw) (r - (L : Int)))
  have e5 : nI q - 1 = nI (q - 1) := pk_sub (b := 1) hq1
  have c2 : ∀ (d j : Nat) (y1 : ow_MS), j + d = q → bnC y1 → twC y1 (fun p r => n p r + φ * tmz (q - 1) j (p - pw) (r - (L : Int))) → Tt (fun K t => c_X8_addCircles vl K t 2 (nI q) (iI φ) (iI pw) (nI L) (nI (q - 1)) (nI j) 0 24000 0 0 0 0 y1) Q := by
    intro d
    induction d with
    | zero =>
      intro j y1 hj hb1 h1
      refine u_X8_addCircles_2 ?_; unfold cm_X8_addCircles_2
      refine w_ltT (by omega) (by omega) (w_some (twC_cg h1 (fun p r => ?_)))
      rw [show j = (q - 1) + 1 by omega, tmz_l]
    | succ d ih =>
      intro j y1 hj hb1 h1
      have c4 : ∀ (x7 : Int32) (y2 : ow_MS), bnC y2 → twC y2 (fun p r => n p r + φ * tmz (q - 1) (j + 1) (p - pw) (r - (L : Int))) → Tt (fun K t => c_X8_addCircles vl K t 4 (nI q) (iI φ) (iI pw) (nI L) (nI (q - 1)) (nI j) x7 24000 0 0 0 0 y2) Q := by
        intro x7 y2 hb2 h2
        refine u_X8_addCircles_4 ?_; unfold cm_X8_addCircles_4
        rw [nI_1]
        exact ih (j + 1) y2 (by omega) hb2 h2
      have eI : ((iI pw).toInt64 - (nI (q - 1)).toInt64) + ((2 * nI j).toInt64) = Int64.ofInt (pw - ((q - 1 : Nat) : Int) + 2 * (j : Int)) := by
        rw [rn_mul2, nI_iI (q - 1), nI_iI (2 * j)]
        unfold iI
        rw [Int32.toInt64_ofInt (by show (-2147483648 : Int) ≤ _; omega) (by show _ ≤ (2147483647 : Int); omega), Int32.toInt64_ofInt (by show (-2147483648 : Int) ≤ _; omega) (by show _ ≤ (2147483647 : Int); omega), Int32.toInt64_ofInt (by show (-2147483648 : Int) ≤ _; omega) (by show _ ≤ (2147483647 : Int); omega), ← Int64.ofInt_sub, ← Int64.ofInt_add]
        congr 1
      have eJ : (nI L).toInt64 - (nI (q - 1)).toInt64 = Int64.ofInt ((L : Int) - ((q - 1 : Nat) : Int)) := by
        rw [nI_iI L, nI_iI (q - 1)]
        unfold iI
        rw [Int32.toInt64_ofInt (by show (-2147483648 : Int) ≤ _; omega) (by show _ ≤ (2147483647 : Int); omega), Int32.toInt64_ofInt (by show (-2147483648 : Int) ≤ _; omega) (by show _ ≤ (2147483647 : Int); omega), ← Int64.ofInt_sub]
      refine u_X8_addCircles_2 ?_; unfold cm_X8_addCircles_2
      rw [eI, eJ]
      refine w_ltF (by omega) (by omega) (w_leF (a := 24) (by omega) (by omega) (w_cs1 (xc_tIx (by omega) (by omega) (by omega) (by omega)) ?_))
      rintro v y2 ⟨e2, h2⟩
      dsimp only at h2 e2
      rw [e2]
      rcases h2 with ⟨a, b, ha, hb9, eIa, eJb, rfl⟩ | ⟨rfl, hno⟩
      · have hk : a * 41 + b < 5289 := by omega
        have par := lf_par9 ⟨j, by omega⟩
        dsimp only at par
        have hlt : j ≤ q - 1 := by omega
        have bn := hb1 (q - 1) j (by omega) hlt
        have rd := h1 a b ha hb9
        have c3 : ∀ (s : Int) (t0 : Int32), t0 = iI s → s = sgt9 j → Tt (fun K t => c_X8_addCircles vl K t 3 (nI q) (iI φ) (iI pw) (nI L) (nI (q - 1)) (nI j) (nI (a * 41 + b)) 24000 t0 (iI φ * nI (binN (q - 1) j)) (iI (n ((a : Int) - 64) ((b : Int) - 20) + φ * tmz (q - 1) j ((a : Int) - 64 - pw) ((b : Int) - 20 - (L : Int)))) (nI (a * 41 + b)) y1) Q := by
          intro s t0 ht hs
          refine u_X8_addCircles_3 ?_; unfold cm_X8_addCircles_3
          rw [ht, hs, nI_iI (binN (q - 1) j), iI_mul, iI_mul, iI_add]
          refine w_ctI ch_24004 rfl hk (c4 _ _ (bnC_fr (P := fun g => g = 24004) (fr_I rfl) (fun m hm => by omega) hb1) (fun a2 b2 k1 k2 => ?_))
          show _ = iI (n ((a2 : Int) - 64) ((b2 : Int) - 20) + φ * (tmz (q - 1) j ((a2 : Int) - 64 - pw) ((b2 : Int) - 20 - (L : Int)) + (if (a2 : Int) - 64 - pw = 2 * (j : Int) - ((q - 1 : Nat) : Int) ∧ (b2 : Int) - 20 - (L : Int) = -((q - 1 : Nat) : Int) then sgt9 j * (binN (q - 1) j : Int) else 0)))
          by_cases cs : a2 = a ∧ b2 = b
          · rw [cs.1, cs.2, if_pos ⟨by omega, by omega⟩]
            refine po_usI_at.trans ?_
            congr 1
            rw [Int.mul_add, Int.mul_comm (sgt9 j), Int.mul_assoc, Int.add_assoc]
          · rw [if_neg (fun h => cs ⟨by omega, by omega⟩), Int.add_zero]
            exact rd_ne (show a2 * 41 + b2 ≠ a * 41 + b by omega) (h1 a2 b2 k1 k2)
        refine w_ifF (rn_neg1 (by omega)) (w_crI ch_24004 rfl hk rd (w_crX rfl (show q - 1 < 24 by omega) (w_crI (ch_choose (show q - 1 < 24 by omega)) rfl (show j < 24 by omega) bn (w_if (fun h9 => ?_) (fun h9 => ?_)))))
        · exact c3 1 1 rfl (if_pos (par.mp h9)).symm
        · exact c3 (-1) (-1) rfl (if_neg (fun h8 => h9 (par.mpr h8))).symm
      · refine w_ifT rfl (c4 _ _ hb1 (fun a2 b2 k1 k2 => ?_))
        show _ = iI (n ((a2 : Int) - 64) ((b2 : Int) - 20) + φ * (tmz (q - 1) j ((a2 : Int) - 64 - pw) ((b2 : Int) - 20 - (L : Int)) + (if (a2 : Int) - 64 - pw = 2 * (j : Int) - ((q - 1 : Nat) : Int) ∧ (b2 : Int) - 20 - (L : Int) = -((q - 1 : Nat) : Int) then sgt9 j * (binN (q - 1) j : Int) else 0)))
        rw [if_neg (fun h => hno ⟨by omega, by omega, by omega, by omega⟩), Int.add_zero]
        exact h1 a2 b2 k1 k2
  have c1 : ∀ (y1 : ow_MS), bnC y1 → twC y1 n → Tt (fun K t => c_X8_addCircles vl K t 1 (nI q) (iI φ) (iI pw) (nI L) (nI (q - 1)) 0 0 24000 0 0 0 0 y1) Q := by
    intro y1 hb1 h1
    refine u_X8_addCircles_1 ?_; unfold cm_X8_addCircles_1
    exact c2 q 0 y1 (by omega) hb1 (twC_cg h1 (fun p r => by show _ = n p r + φ * 0; rw [Int.mul_zero, Int.add_zero]))
  refine e_X8_addCircles ?_
  refine u_X8_addCircles_0 ?_; unfold cm_X8_addCircles_0
  rw [show uw_len (cX vl) y (24000 + 3) = 13 from rfl, e5]
  refine w_if (fun h0 => ?_) (fun h0 => c1 y hb hn)
  exact w_leF (a := 13) (by omega) (by omega) (w_crI ch_24003 rfl (show L < 13 by omega) rfl (w_ctI ch_24003 rfl (show L < 13 by omega) (c1 _ (bnC_fr (P := fun g => g = 24003) (fr_I rfl) (fun m hm => by omega) hb) (twC_fr (P := fun g => g = 24003) (fr_I rfl) (by decide) hn))))
end XTWL
end
section
/-! 99zzzzzzzzzzzzzzzzw.xtwm -/
/-! two: the class's unfold: rings -/
section XTWM
variable {n : Nat} {Wd : wd9} {ov sb : Nat → Bool} {B : rn_L} {f : Nat → Nat} {R Q : ow_NT} {x a b v r : Nat}
theorem bc_ch (x c : Nat) : rn_b (chA B x) c = rn_b B c := by
  unfold rn_b chA
  rw [← List.map_take, fl_map2, List.length_map]
theorem iS_sg (h : isoV B sb f R) (hp : pm1 R) (hv : v < B.flatten.length) : R.2.2.2 (f (crs B v)) = iI (if sb (crs B v) then -1 else 1) := by
  have hN := isoS_iff.mp h.1
  have h1 := hN.2.2.2.1 v hv
  have h2 := hN.2.2.2.2.2.2.1 v hv
  rcases hp _ h1 with e | e
  · rw [e] at h2 ⊢
    cases hs : sb (crs B v) with
    | false => rfl
    | true => exact absurd (h2.mpr hs) (by decide)
  · rw [e] at h2 ⊢
    rw [h2.mp (by decide)]
    rfl
theorem iS_sm (h : isoV B sb f R) (hp : pm1 R) (hs : sm2 B x a b) : ∃ f', isoV (smV B a b) sb f' (nt_rm (ntS (nt_copy Q R) (np_exchange (nt_copy Q R).2.2.1 (2 * f x) (2 * f x + 1))) (f x)) ∧ pm1 (nt_rm (ntS (nt_copy Q R) (np_exchange (nt_copy Q R).2.2.1 (2 * f x) (2 * f x + 1))) (f x)) := by
  obtain ⟨s1, s2, s3, s4⟩ := hs
  have hN := isoS_iff.mp h.1
  have hx : f x < R.1 := by
    rw [← s3]
    exact hN.2.2.2.1 a (by omega)
  rw [← s3] at s4
  obtain ⟨f', k1, k2⟩ := iso_smb (isoV_cpy (Q := Q) h) s1 s2 s4
  rw [s3] at k1 k2
  exact ⟨f', k1, pm1_rm (T := ntS (nt_copy Q R) (np_exchange (nt_copy Q R).2.2.1 (2 * f x) (2 * f x + 1))) (pm1_copy hp) hx⟩
theorem iS_ch (h : isoV B sb f R) (hp : pm1 R) (hv : v < B.flatten.length) (e : crs B v = x) : isoV (chA B x) (chS sb x) f (ntF R (f x)) ∧ pm1 (ntF R (f x)) := by
  have hN := isoS_iff.mp h.1
  have hx : f x < R.1 := by
    rw [← e]
    exact hN.2.2.2.1 v hv
  have inj : ∀ p, p ∈ B.flatten → (f p.1 = f x ↔ p.1 = x) := fun p hp => by
    obtain ⟨u, u1, u2⟩ := mem_vAt hp
    have ep : crs B u = p.1 := by unfold crs; rw [u2]
    refine ⟨fun e9 => ?_, fun e9 => by rw [e9]⟩
    rw [← ep, ← e]
    exact hN.2.2.2.2.1 u v u1 hv (by rw [ep, e, e9])
  have k := iso_flip h hp hx
  have eA : B.map (List.map (flp (fun y => decide (f y = f x)))) = chA B x := by
    unfold chA
    refine List.map_congr_left (fun L hL => List.map_congr_left (fun p hp => ?_))
    have := inj p (List.mem_flatten.mpr ⟨L, hL, hp⟩)
    unfold flp
    show (if decide (f p.1 = f x) = true then (p.1, 1 - p.2) else p) = if decide (p.1 = x) = true then (p.1, 1 - p.2) else p
    rw [show decide (f p.1 = f x) = decide (p.1 = x) from decide_eq_decide.mpr this]
  rw [eA] at k
  refine ⟨isoV_sg k (fun p hp => ?_), pm1_F hp⟩
  unfold chA at hp
  rw [fl_map2] at hp
  obtain ⟨q, hq, e9⟩ := List.mem_map.mp hp
  have ep : p.1 = q.1 := by rw [← e9, flp_1]
  have := inj q hq
  unfold chS
  rw [ep]
  by_cases e8 : q.1 = x
  · rw [if_pos e8, if_pos (this.mpr e8)]
  · rw [if_neg e8, if_neg (fun h9 => e8 (this.mp h9))]
theorem sm2_b2 (hN : isoN B sb f R) (hb : bdF B v) : sm2 B (crs B v) v (mtf B v) := by
  obtain ⟨b1, b2, b3⟩ := bd_lt hN.1 hb
  have h2 := (hN.1.2 _ (vAt_mem hb.1)).2.1
  have hu : uns B v = 1 := by
    have h3 := hb.2.2.1
    unfold uns at h3 ⊢
    omega
  obtain ⟨m1, m2, m3, m4⟩ := lbv_mt hN hb.1
  have e1 : uns B (mtf B v) = 0 := by
    unfold lbv mt at m3
    rw [m2, hu, if_neg (by omega)] at m3
    omega
  exact ⟨b1, b2, rfl, Or.inr ⟨Prod.ext rfl hu, Prod.ext b3 e1⟩⟩
/-- along a component -/
theorem iS_nx (hN : isoN B sb f R) (h1 : rn_b B r ≤ v) (h2 : v < rn_b B (r + 1)) : R.2.2.1.1 (lbv B f v) = if v + 1 < rn_b B (r + 1) then lbv B f (v + 1) else lbv B f (rn_b B r) := by
  have hle := rn_b_le B (r + 1)
  have hc : rn_c B v = r := rn_c_of B r v h1 h2
  rw [hN.2.2.2.2.2.1 v (by omega)]
  unfold rn_nx
  rw [hc]
  split
  · rfl
  · rfl
theorem cir_ap9 (P S : rn_L) : cirs (P ++ S) = cirs P + cirs S := List.countP_append
/-- the first r components have visits -/
def ufG9 (r : Nat) (B : rn_L) : Prop := r ≤ B.length ∧ ∀ i, i < r → rn_b B i < rn_b B (i + 1)
theorem rb_cons (c : List vT) (B : rn_L) (i : Nat) : rn_b (c :: B) (i + 1) = c.length + rn_b B i := by
  unfold rn_b
  rw [List.take_succ_cons, List.flatten_cons, List.length_append]
theorem ufG9_e : ∀ {B : rn_L} {r : Nat}, ufG9 r B → rn_b B r = B.flatten.length → cirs B + r = B.length
  | B, 0, h, e => by
    have e : 0 = B.flatten.length := e
    rw [cirs_n (List.eq_nil_of_length_eq_zero e.symm)]
    rfl
  | [], r + 1, h, _ => absurd h.1 (by rw [List.length_nil]; omega)
  | c :: B, r + 1, h, e => by
    have h0 := h.2 0 (by omega)
    rw [rb_cons] at h0
    have z0 : rn_b B 0 = 0 := rfl
    have z1 : rn_b (c :: B) 0 = 0 := rfl
    have hc : c ≠ [] := fun h9 => by
      rw [z1, h9, z0] at h0
      exact Nat.lt_irrefl _ h0
    rw [rb_cons, List.flatten_cons, List.length_append] at e
    have ih := ufG9_e (B := B) (r := r) ⟨by have := h.1; rw [List.length_cons] at this; omega, fun i hi => by
      have := h.2 (i + 1) (by omega)
      rw [rb_cons, rb_cons] at this
      omega⟩ (by omega)
    rw [cirs_cons, if_neg hc, List.length_cons]
    omega
theorem rb_app {P S : rn_L} {i : Nat} (h : i ≤ P.length) : rn_b (P ++ S) i = rn_b P i := by
  unfold rn_b
  rw [List.take_append_of_le_length h]
theorem rb_mid {P S : rn_L} {c : List vT} : rn_b (P ++ c :: S) (P.length + 1) = P.flatten.length + c.length := by
  unfold rn_b
  rw [List.take_append, List.take_of_length_le (by omega), show P.length + 1 - P.length = 1 by omega, List.take_succ_cons, List.take_zero, List.flatten_append, List.flatten_cons, List.length_append, List.length_append]
  rfl
theorem vA_l {P S : rn_L} {u : Nat} (h : u < P.flatten.length) : vAt (P ++ S) u = vAt P u := by
  unfold vAt
  rw [List.flatten_append, List.getElem?_append_left h]
theorem vA_m {P S : rn_L} {q : vT} {Y : List vT} : vAt (P ++ (q :: Y) :: S) P.flatten.length = q := by
  unfold vAt
  rw [List.flatten_append, List.getElem?_append_right (Nat.le_refl _), Nat.sub_self]
  rfl
/-- another component next, from one of its visits -/
theorem mv_ring (h : isoV B sb f R) (hz : bdz n Wd ov B sb) (hr : r ≤ B.length) (h1 : rn_b B r ≤ v) (h2 : v < B.flatten.length) : ∃ B', isoV B' sb f R ∧ bdz n Wd ov B' sb ∧ B'.length = B.length ∧ (∀ i, i ≤ r → rn_b B' i = rn_b B i) ∧ (∀ u, u < rn_b B r → vAt B' u = vAt B u) ∧ vAt B' (rn_b B r) = vAt B v ∧ rn_b B r < rn_b B' (r + 1) ∧ r + 1 ≤ B.length := by
  obtain ⟨P, S, eB, eP⟩ : ∃ P S, B = P ++ S ∧ P.length = r := ⟨B.take r, B.drop r, (List.take_append_drop r B).symm, by rw [List.length_take]; omega⟩
  have ePf : rn_b B r = P.flatten.length := by
    rw [eB, rb_app (by omega), ← eP]
    exact rn_b_len P
  have hm : vAt B v ∈ S.flatten := by
    have h3 := vAt_of h2
    rw [eB, List.flatten_append, List.getElem?_append_right (by omega)] at h3
    rw [← eB] at h3
    exact List.mem_of_getElem? h3
  generalize vAt B v = q at hm ⊢
  obtain ⟨c, hc, hq⟩ := List.mem_flatten.mp hm
  obtain ⟨M, Po, rfl⟩ := spl_m hc
  obtain ⟨X, Y, rfl⟩ := spl_m hq
  subst eB
  have nd := h.1.1.1
  have prm : (P ++ ((q :: Y) ++ X) :: (M ++ Po)).flatten.Perm (P ++ (M ++ (X ++ q :: Y) :: Po)).flatten := by
    rw [List.flatten_append, List.flatten_append]
    refine List.Perm.append_left _ ?_
    have p1 : (M ++ (X ++ q :: Y) :: Po).flatten.Perm ((X ++ q :: Y) :: (M ++ Po)).flatten := (List.perm_middle (l₁ := M) (a := X ++ q :: Y) (l₂ := Po)).flatten
    refine List.Perm.trans ?_ p1.symm
    rw [List.flatten_cons, List.flatten_cons]
    exact List.Perm.append_right _ List.perm_append_comm
  have ndX : (X ++ q :: Y).Nodup := by
    have := nd
    rw [List.nodup_iff_pairwise_ne, List.pairwise_flatten] at this
    exact this.1 _ (List.mem_append_right _ (List.mem_append_right _ List.mem_cons_self))
  have ci : cirs (P ++ ((q :: Y) ++ X) :: (M ++ Po)) = cirs (P ++ (M ++ (X ++ q :: Y) :: Po)) := by
    have e1 : (X ++ q :: Y) ≠ [] := fun h9 => by
      have := congrArg List.length h9
      rw [List.length_append, List.length_cons, List.length_nil] at this
      omega
    rw [cir_ap9, cirs_cons, if_neg (by simp), cir_ap9, cir_ap9, cir_ap9, cirs_cons, if_neg e1]
    omega
  have iso : isoV (P ++ ((q :: Y) ++ X) :: (M ++ Po)) sb f R := isoV_lists h prm ci (fun K hK p hp => by
    rcases List.mem_append.mp hK with k | k
    · exact ⟨K, List.mem_append_left _ k, hp, rfl⟩
    · rcases List.mem_cons.mp k with k | k
      · rw [k] at hp ⊢
        have hp2 : p ∈ X ++ q :: Y := by
          rcases List.mem_append.mp hp with k9 | k9
          · exact List.mem_append_right _ k9
          · exact List.mem_append_left _ k9
        exact ⟨X ++ q :: Y, List.mem_append_right _ (List.mem_append_right _ List.mem_cons_self), hp2, sc_rot ndX hp2⟩
      · rcases List.mem_append.mp k with k | k
        · exact ⟨K, List.mem_append_right _ (List.mem_append_left _ k), hp, rfl⟩
        · exact ⟨K, List.mem_append_right _ (List.mem_append_right _ (List.mem_cons_of_mem _ k)), hp, rfl⟩)
  refine ⟨_, iso, bd_iso (N := R.2.2.1.1) (lab := gl f) hz h.1.2.2.2.2.2.1 iso.1.2.2.2.2.2.1 iso.1.1.1 nd (fun p => prm.mem_iff) (fun p p' hp hp' e => ?_) ci, ?_, fun i hi => ?_, fun u hu => ?_, ?_, ?_, ?_⟩
  · have e : 2 * f p.1 + p.2 = 2 * f p'.1 + p'.2 := e
    have a1 := (iso.1.1.2 _ hp).2.1
    have a2 := (iso.1.1.2 _ hp').2.1
    exact Prod.ext (iso.1.2.2.2.2.1 p p' hp hp' (by omega)) (by omega)
  · simp only [List.length_append, List.length_cons]
    omega
  · rw [rb_app (by omega), rb_app (by omega)]
  · rw [ePf] at hu
    rw [vA_l hu, vA_l hu]
  · rw [ePf]
    exact vA_m (Y := Y ++ X)
  · rw [ePf, ← eP, rb_mid, List.cons_append, List.length_cons]
    omega
  · rw [List.length_append, List.length_append, List.length_cons]
    omega
end XTWM
end
section
/-! 99zzzzzzzzzzzzzzzzx.xtwn -/
/-! two: the class's unfold, exactly -/
def ufT (n : Nat) (Wd : wd9) (L c : Nat) (f : Nat → Nat) (φ : Int) (G : pz9) (n1 : Nat) (z : ow_MS) (R : ow_NT) (B : rn_L) (sb ov : Nat → Bool) (pw : Int) : Prop := lvS z ∧ bnC z ∧ cAt z (lv L) R ∧ nvL L R ∧ R.1 = c ∧ isoV B sb f R ∧ pm1 R ∧ B.length = n1 ∧ bdz n Wd ov B sb ∧ ∃ m, twC z m ∧ ∀ p q : Int, m p q + φ * Fz n Wd ov (p - pw) (q - (L : Int)) = G p q
/-- the same, where the crossing x is still to be changed -/
def ufU (n : Nat) (Wd : wd9) (L c : Nat) (f : Nat → Nat) (φ : Int) (G : pz9) (n1 x : Nat) (z : ow_MS) (R : ow_NT) (B : rn_L) (sb ov : Nat → Bool) (pw : Int) : Prop := lvS z ∧ bnC z ∧ cAt z (lv L) R ∧ nvL L R ∧ R.1 = c ∧ isoV B sb f R ∧ pm1 R ∧ B.length = n1 ∧ bdz n Wd ov B sb ∧ ∃ m, twC z m ∧ ∀ p q : Int, m p q + φ * Fz n Wd (flz ov x) (p - (pw + 2 * sgz (ov x))) (q - (L : Int)) = G p q
def ufS2 (vl : Nat → Nat) (n L dd : Nat) : Prop := ∀ (R : ow_NT) (B : rn_L) (sb ov : Nat → Bool) (Wd : wd9) (g : Nat → Nat) (ψ : Int) (m : pz9) (xp : Int) (z : ow_MS), lvS z → bnC z → cAt z (lv (L + 1)) R → nvL (L + 1) R → R.1 + (L + 1) ≤ 12 → isoV B sb g R → pm1 R → B.length ≤ 6 + (L + 1) → bdz n Wd ov B sb → twC z m → -(100 * ((L : Int) + 1)) ≤ xp → xp ≤ 100 * ((L : Int) + 1) → Te (fun K => cd0_X8_unfold vl K dd 24000 (nI (L + 1)) (iI ψ) (iI xp) (nI (L + 1)) z) (fun z1 => (lvS z1 ∧ fr (unP (L + 1)) z z1) ∧ twC z1 (fun p q => m p q + ψ * Fz n Wd ov (p - xp) (q - ((L : Int) + 1))))
/-- what is met and gone -/
def ufB (f : Nat → Nat) (k Mm Gm : Nat) (B : rn_L) : Prop := Mm < 2 ^ 24 ∧ Gm < 2 ^ 24 ∧ gPre B k ∧ (∀ x, x < 12 → (o_gn Mm x ↔ ∃ u, u < k ∧ f (crs B u) = x)) ∧ ∀ t, t < 24 → (o_gn Gm t ↔ ∃ u, u < k ∧ lbv B f u = t)
theorem fs_b (φ : Int) (b : Bool) : φ * sgz b = if b then φ else 0 - φ := by
  cases b
  · rw [if_neg (by decide), sgz_f, Int.mul_neg, Int.mul_one, Int.zero_sub]
  · rw [if_pos rfl, sgz_t, Int.mul_one]
theorem sg_sb {b s : Bool} (h : s = !b) : (if s then -1 else 1 : Int) = sgz b := by
  rw [h]
  cases b <;> rfl
section XTWN
variable {vl : Nat → Nat} {y : ow_MS}
/-- a bad visit: the crossing smoothed a level below -/
theorem uf_bad2 {O : Type} {Qo : O → Prop} {n L dd c v x a b n1 : Nat} {Wd : wd9} {f : Nat → Nat} {φ pw : Int} {G : pz9} {z : ow_MS} {R : ow_NT} {B : rn_L} {sb ov : Nat → Bool} {E : ow_MS → Nat → Nat → Option O} (hL : L < 12) (hself : ufS2 vl n L dd) (hJ : ufT n Wd L c f φ G n1 z R B sb ov pw) (hn1 : n1 ≤ 6 + L) (hc : c + L ≤ 12) (hv : v < B.flatten.length) (ex : crs B v = x) (hs : sm2 B x a b) (hp1 : -(100 * (L : Int)) - 90 ≤ pw) (hp2 : pw ≤ 100 * (L : Int) + 90) (H : ∀ z3, ufU n Wd L c f φ G n1 x z3 R B sb ov pw → Tt (E z3) Qo) : Tt (fun K k => crX 13 (nI (L + 1)) fun j6 => cs0 (ce_X7_copy vl K (24000 + 2000 + 1000 * j6) (lv L) z) fun z7 => crX 13 (nI (L + 1)) fun j8 => cs0 (ce_X7_smoothCrossing vl K (24000 + 2000 + 1000 * j8) (nI (f x)) z7) fun z9 => cs0 (cd0_X8_unfold vl K dd 24000 (nI (L + 1)) (iI φ * iI (if sb x then -1 else 1)) (iI pw + iI (if sb x then -1 else 1)) (nI (L + 1)) z9) fun z10 => E z10 K k) Qo := by
  obtain ⟨j1, jb, j2, j3, j4, j5, jp, j6, jz, m, j8, j9⟩ := hJ
  have hN := isoS_iff.mp j5.1
  have hx : f x < R.1 := by
    rw [← ex]
    exact hN.2.2.2.1 v hv
  have hxm : x ∈ nmz Wd := by
    rw [← ex]
    exact bd_nm jz (vAt_mem hv)
  have hsx := sg_sb (jz.2.2 x hxm)
  have hh := lv_nH (show L ≤ 12 by omega)
  have hh1 := lv_nH (show L + 1 ≤ 12 by omega)
  obtain ⟨T', t1, t2⟩ := j1 (L + 1) (by omega)
  refine w_crX rfl (show L + 1 < 13 by omega) (w_cs0 (tc_copy hh1 hh (by unfold nDj lv; omega) t1 j2 j3.2.1) ?_)
  rintro z1 ⟨g1, g2⟩
  refine w_crX rfl (show L + 1 < 13 by omega) (w_cs0 (tc_smoothCrossing hh1 g1 (nt_copy_b24 t2 j3.2.2.1) (show f x < R.1 by omega) j3.2.1) ?_)
  rintro z2 ⟨g3, g4⟩
  have n2 := nvL_sm (Q := T') (x := f x) j3 t2 hx
  have f2 : fr (cP (lv (L + 1))) z z2 := fr_tr g2 g4
  have l2 : lvS z2 := lvS_fr (L := L + 1) f2 (fun g hg => Or.inl (cP_in hg)) ⟨_, g3, n2.2.2.1⟩ j1
  obtain ⟨f', hu', hp'⟩ := iS_sm (Q := T') j5 jp hs
  have c2 : twC z2 m := twC_fr f2 (fun h9 => by unfold cP lv at h9; omega) j8
  have b2 : bnC z2 := bnC_fr f2 (fun m hm h9 => by unfold cP lv at h9; omega) jb
  rw [hsx, iI_mul, iI_add]
  have sb1 : sgz (ov x) ≤ 1 ∧ -1 ≤ sgz (ov x) := by
    cases ov x
    · exact ⟨by decide, by decide⟩
    · exact ⟨by decide, by decide⟩
  have hlen := smV_n hs.1 hs.2.1
  refine w_cs0 (hself _ (smV B a b) sb ov (dlz x Wd) f' (φ * sgz (ov x)) m (pw + sgz (ov x)) z2 l2 b2 g3 n2 (show R.1 - 1 + (L + 1) ≤ 12 by omega) hu' hp' (by omega) (bd_sm jz hs.1 hs.2.1 hs.2.2.2) c2 (by omega) (by omega)) ?_
  rintro z3 ⟨⟨l3, f3⟩, c3⟩
  have f23 : fr (unP (L + 1)) z z3 := fr_tr (fr_mono (fun g hg => by unfold cP lv at hg; unfold unP; omega) f2) f3
  have hR3 : cAt z3 (lv L) R := cAt_fr f23 (fun g hg h9 => by unfold cP lv at hg; unfold unP at h9; omega) j2
  have b3 : bnC z3 := bnC_fr f23 (fun m hm h9 => by unfold unP at h9; omega) jb
  refine H z3 ⟨l3, b3, hR3, j3, j4, j5, jp, j6, jz, _, c3, fun p q => ?_⟩
  rw [← j9 p q, fs_b]
  exact tw_st (bd_sk jz hxm) p q pw (L : Int) (m p q)
theorem uf_flip2 {O : Type} {Qo : O → Prop} {n L c v x n1 : Nat} {Wd : wd9} {f : Nat → Nat} {φ pw : Int} {G : pz9} {z : ow_MS} {R : ow_NT} {B : rn_L} {sb ov : Nat → Bool} {E : ow_MS → Nat → Nat → Option O} (hL : L ≤ 12) (hJ : ufU n Wd L c f φ G n1 x z R B sb ov pw) (hv : v < B.flatten.length) (ex : crs B v = x) (H : ∀ z3, ufT n Wd L c f φ G n1 z3 (ntF R (f x)) (chA B x) (chS sb x) (flz ov x) (pw + 2 * sgz (ov x)) → Tt (E z3) Qo) : Tt (fun K k => cs0 (ce_X7_flipCrossing vl K (lv L) (nI (f x)) z) fun z11 => E z11 K k) Qo := by
  obtain ⟨j1, jb, j2, j3, j4, j5, jp, j6, jz, m, j8, j9⟩ := hJ
  have hx : f x < R.1 := by
    rw [← ex]
    exact (isoS_iff.mp j5.1).2.2.2.1 v hv
  refine w_cs0 (tc_flipCrossing (lv_nH hL) j2 j3.2.2.1 (show f x < 12 by have := j3.2.1; omega)) ?_
  rintro z4 ⟨g5, g6⟩
  have n4 := nvL_flip (x := f x) (G := su R.2.2.2 (f x) (- R.2.2.2 (f x))) j3 hx
  obtain ⟨i1, i2⟩ := iS_ch j5 jp hv ex
  exact H z4 ⟨lvS_fr (L := L) g6 (fun g hg => Or.inl (cP_in hg)) ⟨_, g5, n4.2.2.1⟩ j1, bnC_fr g6 (fun m hm h9 => by unfold cP lv at h9; omega) jb, g5, n4, j4, i1, i2, by unfold chA; rw [List.length_map]; exact j6, bd_ch x jz, m, twC_fr g6 (fun h9 => by unfold cP lv at h9; omega) j8, j9⟩
theorem uf_w2 {n L dd c n1 : Nat} {Wd : wd9} {f : Nat → Nat} {φ xp : Int} {G : pz9} (hn : 1 ≤ n) (hL : L ≤ 12) (hself : L < 12 → ufS2 vl n L dd) (hc : c + L ≤ 12) (hn1 : n1 ≤ 6 + L) (hx1 : -(100 * (L : Int)) ≤ xp) (hx2 : xp ≤ 100 * (L : Int)) : ∀ (d s r : Nat) (pw : Int) (Mm Gm : Nat) (z : ow_MS) (R : ow_NT) (B : rn_L) (sb ov : Nat → Bool), s + d = 2 * c → ufT n Wd L c f φ G n1 z R B sb ov pw → ufB f (rn_b B r) Mm Gm B → ufG9 r B → (∀ v, v < s → o_gn Gm v) → xp - 2 * (rn_b B r : Int) ≤ pw → pw ≤ xp + 2 * (rn_b B r : Int) → Tt (fun K t => c_X8_unfold vl K (cd0_X8_unfold vl K dd) t 1 (nI L) (iI φ) (iI xp) (nI L) (nI (2 * c)) (iI pw) (nI Mm) (nI Gm) (nI r) (nI s) 0 0 0 0 24000 (lv L) z) (fun z1 => twC z1 G) := by
  have hh := lv_nH hL
  let Q : ow_MS → Prop := fun z1 => twC z1 G
  intro d
  induction d with
  | zero =>
    intro s r pw Mm Gm z R B sb ov hs hJ hB hR hgs hp1 hp2
    obtain ⟨j1, jb, j2, j3, j4, j5, jp, j6, jz, m, j8, j9⟩ := hJ
    obtain ⟨p1, p2, p3, p4, p5⟩ := hB
    have hN := isoS_iff.mp j5.1
    have hci : cirs B = R.2.1 := hN.2.2.2.2.2.2.2
    have hlen := hN.2.1
    have hle := rn_b_le B r
    have hall : rn_b B r = B.flatten.length := by
      rcases Nat.lt_or_ge (rn_b B r) B.flatten.length with h9 | h9
      · exfalso
        have hlt : lbv B f (rn_b B r) < 2 * c := by rw [← j4]; exact lbv_lt hN h9
        obtain ⟨u, u1, u2⟩ := (p5 (lbv B f (rn_b B r)) (by omega)).mp (hgs _ (by omega))
        have := lbv_inj hN (v := u) (w := rn_b B r) (by omega) h9 u2
        omega
      · omega
    have hend := ufG9_e hR hall
    have hl1 := bd_len hn jz
    refine u_X8_unfold_1 ?_; unfold cm_X8_unfold_1
    refine w_leT (by omega) (by omega) (w_rdF j2.2.1 ?_)
    rw [nI_add, show r + R.2.1 = n1 by omega]
    refine w_cs0 (xc_addT (q := n1) (by omega) (by omega) hL (by omega) (by omega) jb j8) ?_
    rintro z1 h1
    refine w_some (twC_cg h1 (fun p q => ?_))
    rw [← j9 p q, bd_lf jz (by rw [← hall]; exact p3), j6]
  | succ d ih =>
    intro s r pw Mm Gm z R B sb ov hs hJ hB hR hgs hp1 hp2
    have c5 : ∀ (r' : Nat) (pw : Int) (Mm Gm : Nat) (z : ow_MS) (R : ow_NT) (B : rn_L) (sb ov : Nat → Bool), ufT n Wd L c f φ G n1 z R B sb ov pw → ufB f (rn_b B r') Mm Gm B → ufG9 r' B → (∀ v, v < s + 1 → o_gn Gm v) → xp - 2 * (rn_b B r' : Int) ≤ pw → pw ≤ xp + 2 * (rn_b B r' : Int) → Tt (fun K t => c_X8_unfold vl K (cd0_X8_unfold vl K dd) t 5 (nI L) (iI φ) (iI xp) (nI L) (nI (2 * c)) (iI pw) (nI Mm) (nI Gm) (nI r') (nI s) 0 0 0 0 24000 (lv L) z) Q := by
      intro r' pw Mm Gm z R B sb ov h3 h4 h5 h6 h7 h8
      refine u_X8_unfold_5 ?_; unfold cm_X8_unfold_5
      rw [nI_1]
      exact ih (s + 1) r' pw Mm Gm z R B sb ov (by omega) h3 h4 h5 h6 h7 h8
    have c2 : ∀ (e i v : Nat) (pw : Int) (Mm Gm : Nat) (z : ow_MS) (R : ow_NT) (B : rn_L) (sb ov : Nat → Bool), rn_b B r + i + e = rn_b B (r + 1) → (rn_b B r + i < rn_b B (r + 1) → v = lbv B f (rn_b B r + i)) → (rn_b B r + i = rn_b B (r + 1) → v = s) → ufT n Wd L c f φ G n1 z R B sb ov pw → ufB f (rn_b B r + i) Mm Gm B → ufG9 (r + 1) B → lbv B f (rn_b B r) = s → (∀ v, v < s → o_gn Gm v) → xp - 2 * ((rn_b B r : Int) + i) ≤ pw → pw ≤ xp + 2 * ((rn_b B r : Int) + i) → Tt (fun K t => c_X8_unfold vl K (cd0_X8_unfold vl K dd) t 2 (nI L) (iI φ) (iI xp) (nI L) (nI (2 * c)) (iI pw) (nI Mm) (nI Gm) (nI (r + 1)) (nI s) (nI v) (nI i) 0 0 24000 (lv L) z) Q := by
      intro e
      induction e with
      | zero =>
        intro i v pw Mm Gm z R B sb ov hi hv1 hv2 hJ hB hR hb0 hgs hp1 hp2
        obtain ⟨j1, jb, j2, j3, j4, j5, jp, j6, jz, m, j8, j9⟩ := id hJ
        obtain ⟨k1, k2, k3, k4, k5⟩ := id hB
        have hN := isoS_iff.mp j5.1
        have hlen := hN.2.1
        have hle := rn_b_le B (r + 1)
        have hnz := hR.2 r (by omega)
        have e9 : rn_b B r + i = rn_b B (r + 1) := by omega
        rw [e9] at hB k5
        have gs : o_gn Gm s := (k5 s (by omega)).mpr ⟨rn_b B r, hnz, hb0⟩
        have fin5 := c5 (r + 1) pw Mm Gm z R B sb ov hJ hB hR (fun v hv => by
          by_cases ev : v = s
          · rw [ev]
            exact gs
          · exact hgs v (by omega)) (by omega) (by omega)
        refine u_X8_unfold_2 ?_; unfold cm_X8_unfold_2
        rw [hv2 e9]
        exact w_le (by omega) (by omega) (fun _ => fin5) (fun _ => w_ifF (fun h9 => (gbit0 k2 (by omega)).mp h9 gs) fin5)
      | succ e ihe =>
        intro i v pw Mm Gm z R B sb ov hi hv1 hv2 hJ hB hR hb0 hgs hp1 hp2
        obtain ⟨j1, jb, j2, j3, j4, j5, jp, j6, jz, m, j8, j9⟩ := id hJ
        obtain ⟨hM, hG, hg, hme, hgo⟩ := id hB
        have hN := isoS_iff.mp j5.1
        have hlen := hN.2.1
        have hle := rn_b_le B (r + 1)
        have hnz := hR.2 r (by omega)
        have hil : rn_b B r + i < B.flatten.length := by omega
        have ev : v = lbv B f (rn_b B r + i) := hv1 (by omega)
        have hvl : v < 2 * c := by rw [ev, ← j4]; exact lbv_lt hN hil
        obtain ⟨f1, f2⟩ := lbv_hf hN hil
        rw [← ev] at f1 f2
        obtain ⟨q1, q2⟩ := uf_bits ⟨v, by omega⟩
        have q3 := uf_par ⟨v, by omega⟩
        dsimp only at q1 q2 q3
        have c4 : ∀ (v' : Nat) (pw : Int) (z : ow_MS) (R : ow_NT) (B' : rn_L) (sb ov : Nat → Bool), v' = lbv B' f (rn_b B r + i) → ufT n Wd L c f φ G n1 z R B' sb ov pw → gPre B' (rn_b B r + i + 1) → (∀ u, u < rn_b B r + i → vAt B' u = vAt B u) → crs B' (rn_b B r + i) = crs B (rn_b B r + i) → (∀ t, rn_b B' t = rn_b B t) → (i = 0 → v' = s) → xp - 2 * ((rn_b B r : Int) + i + 1) ≤ pw → pw ≤ xp + 2 * ((rn_b B r : Int) + i + 1) → Tt (fun K t => c_X8_unfold vl K (cd0_X8_unfold vl K dd) t 4 (nI L) (iI φ) (iI xp) (nI L) (nI (2 * c)) (iI pw) (nI Mm) (nI Gm) (nI (r + 1)) (nI s) (nI v') (nI i) (nI (v / 2)) 0 24000 (lv L) z) Q := by
          intro v' pw z R B' sb ov ev' hJ' hg' hpre hci hrb hi0 hq1 hq2
          obtain ⟨m1, mb, m2, m3, m4, m5, mp, m6, mz, -⟩ := id hJ'
          have hN' := isoS_iff.mp m5.1
          have hlen' := hN'.2.1
          have hle' := rn_b_le B' (r + 1)
          rw [hrb] at hle'
          have hv' : v' < 2 * c := by rw [ev', ← m4]; exact lbv_lt hN' (by omega)
          obtain ⟨o1, o2⟩ := gor9 hM (show v / 2 < 24 by omega)
          obtain ⟨o3, o4⟩ := gor9 hG (show v' < 24 by omega)
          have hnx := iS_nx (r := r) hN' (v := rn_b B r + i) (by rw [hrb]; omega) (by rw [hrb]; omega)
          rw [← ev', hrb, hrb] at hnx
          have pc : ∀ u, u < rn_b B r + i → crs B' u = crs B u := fun u hu => by unfold crs; rw [hpre u hu]
          have pl : ∀ u, u < rn_b B r + i → lbv B' f u = lbv B f u := fun u hu => by unfold lbv crs uns; rw [hpre u hu]
          have hb0' : lbv B' f (rn_b B r) = s := by
            rcases Nat.eq_zero_or_pos i with h9 | h9
            · have h8 := hi0 h9
              rw [ev', h9] at h8
              exact h8
            · rw [pl _ (by omega)]
              exact hb0
          refine u_X8_unfold_4 ?_; unfold cm_X8_unfold_4
          rw [nI_1, o1, o3]
          refine w_crI (nH_1 hh) rfl (show v' < 24 by omega) (m2.2.2.1 v') (ihe (i + 1) _ pw _ _ z R B' sb ov (by rw [hrb, hrb]; omega) (fun h9 => ?_) (fun h9 => ?_) hJ' ⟨o2, o4, by rw [hrb]; exact hg', fun x hx => ?_, fun k hk => ?_⟩ ⟨by rw [m6, ← j6]; exact hR.1, fun t ht => by rw [hrb, hrb]; exact hR.2 t ht⟩ (by rw [hrb]; exact hb0') (fun t ht => (gn_or _ _ _).mpr (Or.inl (hgs t ht))) (by rw [hrb]; omega) (by rw [hrb]; omega))
          · rw [hrb, hrb] at h9
            rw [hnx, if_pos (by omega), hrb]
            rfl
          · rw [hrb, hrb] at h9
            rw [hnx, if_neg (by omega)]
            exact hb0'
          · rw [hrb, gn_or, hme x hx]
            constructor
            · rintro (⟨u, u1, u2⟩ | h9)
              · exact ⟨u, by omega, by rw [pc u u1]; exact u2⟩
              · exact ⟨rn_b B r + i, by omega, by rw [hci, h9, f1]⟩
            · rintro ⟨u, u1, u2⟩
              by_cases eu : u = rn_b B r + i
              · rw [eu, hci, ← f1] at u2
                exact Or.inr u2.symm
              · exact Or.inl ⟨u, by omega, by rw [← pc u (by omega)]; exact u2⟩
          · rw [hrb, gn_or, hgo k hk]
            constructor
            · rintro (⟨u, u1, u2⟩ | h9)
              · exact ⟨u, by omega, by rw [pl u u1]; exact u2⟩
              · exact ⟨rn_b B r + i, by omega, by rw [h9, ev']⟩
            · rintro ⟨u, u1, u2⟩
              by_cases eu : u = rn_b B r + i
              · rw [eu, ← ev'] at u2
                exact Or.inr u2.symm
              · exact Or.inl ⟨u, by omega, by rw [← pl u (by omega)]; exact u2⟩
        have hgone : ¬ o_gn Gm v := fun h9 => by
          obtain ⟨u, u1, u2⟩ := (hgo v (by omega)).mp h9
          have := lbv_inj hN (v := u) (w := rn_b B r + i) (by omega) hil (u2.trans ev)
          omega
        have vs : i = 0 → v = s := fun h9 => by
          rw [ev, h9]
          exact hb0
        have good : (¬ (∀ u, u < rn_b B r + i → crs B u ≠ crs B (rn_b B r + i)) ∨ uns B (rn_b B r + i) = 0) → gPre B (rn_b B r + i + 1) := fun h9 u hu hul hfu => by
          by_cases eu : u = rn_b B r + i
          · subst eu
            rcases h9 with h9 | h9
            · exact absurd hfu h9
            · exact h9
          · exact hg u (by omega) hul hfu
        have noflip : (¬ (∀ u, u < rn_b B r + i → crs B u ≠ crs B (rn_b B r + i)) ∨ uns B (rn_b B r + i) = 0) → Tt (fun K t => c_X8_unfold vl K (cd0_X8_unfold vl K dd) t 4 (nI L) (iI φ) (iI xp) (nI L) (nI (2 * c)) (iI pw) (nI Mm) (nI Gm) (nI (r + 1)) (nI s) (nI v) (nI i) (nI (v / 2)) 0 24000 (lv L) z) Q := fun h9 => c4 v pw z R B sb ov ev hJ (good h9) (fun u _ => rfl) rfl (fun _ => rfl) vs (by omega) (by omega)
        refine u_X8_unfold_2 ?_; unfold cm_X8_unfold_2
        rw [q1, show Int32.ofNat ((cX vl).2 (24000 + 2)).2.1 = nI 13 from rfl]
        refine w_leF (by omega) (by omega) (w_ifT ((gbit0 hG (by omega)).mpr hgone) (w_if (fun hm0 => w_if (fun hodd => ?_) (fun hev => noflip (Or.inr ?_))) (fun hm0 => noflip (Or.inl (fun h9 => hm0 ?_)))))
        rotate_left
        · have h7 : ¬ v % 2 = 1 := fun h9 => hev (q3.mpr h9)
          have h2 := (hN.1.2 _ (vAt_mem hil)).2.1
          have h3 : uns B (rn_b B r + i) < 2 := h2
          omega
        · refine (gbit0 hM (by omega)).mpr (fun h8 => ?_)
          obtain ⟨u, u1, u2⟩ := (hme (v / 2) (by omega)).mp h8
          exact h9 u u1 (hN.2.2.2.2.1 u (rn_b B r + i) (by omega) hil (u2.trans f1))
        have hmet := (gbit0 hM (show v / 2 < 24 by omega)).mp hm0
        have hun : uns B (rn_b B r + i) = 1 := by rw [← f2]; exact q3.mp hodd
        have hfst : ∀ u, u < rn_b B r + i → crs B u ≠ crs B (rn_b B r + i) := fun u hu e9 => hmet ((hme (v / 2) (by omega)).mpr ⟨u, hu, by rw [e9]; exact f1.symm⟩)
        have hbd : bdF B (rn_b B r + i) := ⟨hil, hfst, by omega, fun u hu hfu => hg u hu (by omega) hfu⟩
        have hs2 := sm2_b2 hN hbd
        have hxm : crs B (rn_b B r + i) ∈ nmz Wd := bd_nm jz (vAt_mem hil)
        have hsx := sg_sb (jz.2.2 _ hxm)
        have sb1 : sgz (ov (crs B (rn_b B r + i))) ≤ 1 ∧ -1 ≤ sgz (ov (crs B (rn_b B r + i))) := by
          cases ov (crs B (rn_b B r + i))
          · exact ⟨by decide, by decide⟩
          · exact ⟨by decide, by decide⟩
        refine w_crI (nH_3 hh) rfl (show v / 2 < 12 by omega) (x := iI (if sb (crs B (rn_b B r + i)) then -1 else 1)) (by rw [f1]; exact (j2.2.2.2.2 _).trans (iS_sg j5 jp hil)) ?_
        rw [nI_1 L, f1]
        refine w_leF (by omega) (by omega) (uf_bad2 (by omega) (hself (by omega)) hJ hn1 hc hil rfl hs2 (by omega) (by omega) (fun z3 hK => ?_))
        refine u_X8_unfold_3 ?_; unfold cm_X8_unfold_3
        rw [q2]
        refine uf_flip2 hL hK hil rfl (fun z4 hJ4 => ?_)
        have hg2 : gPre (chA B (crs B (rn_b B r + i))) (rn_b B r + i + 1) := fun u hu hul hfu => by
          rw [ch_len] at hul
          rw [ch_uns hul]
          by_cases eu : u = rn_b B r + i
          · rw [eu, if_pos rfl, hun]
          · rw [if_neg (hfst u (by omega))]
            refine hg u (by omega) hul (fun t ht e9 => hfu t ht ?_)
            rw [ch_crs (by omega), ch_crs hul]
            exact e9
        have hlb : mt v = lbv (chA B (crs B (rn_b B r + i))) f (rn_b B r + i) := by
          unfold lbv
          rw [ch_crs hil, ch_uns hil, if_pos rfl, hun, ev]
          unfold lbv mt
          rw [hun, if_neg (by omega)]
          omega
        have key := c4 (mt v) (pw + 2 * sgz (ov (crs B (rn_b B r + i)))) z4 _ _ _ _ hlb hJ4 hg2 (fun u hu => by
          unfold chA
          rw [flp_vAt (by omega)]
          unfold flp
          have : ¬ (crs B u = crs B (rn_b B r + i)) := hfst u hu
          exact if_neg (fun h9 => this (of_decide_eq_true h9))) (ch_crs hil) (bc_ch _) (fun h9 => by
          exfalso
          have h8 := vs h9
          rw [h9, Nat.add_zero] at hun
          have h7 : s % 2 = 1 := by rw [← h8]; exact q3.mp hodd
          have h6 := hgs (s - 1) (by omega)
          obtain ⟨u, u1, u2⟩ := (hgo (s - 1) (by omega)).mp h6
          have h5 := lbv_hf hN (v := u) (by omega)
          refine hfst u (by omega) (hN.2.2.2.2.1 u (rn_b B r + i) (by omega) hil ?_)
          rw [← h5.1, u2, ← f1, h8]
          omega) (by omega) (by omega)
        rw [f1] at key
        rw [hsx, show (2 : Int32) * iI (sgz (ov (crs B (rn_b B r + i)))) = iI (2 * sgz (ov (crs B (rn_b B r + i)))) from iI_mul 2 _, iI_add]
        exact key
    obtain ⟨p1, p2, p3, p4, p5⟩ := id hB
    obtain ⟨j1, jb, j2, j3, j4, j5, jp, j6, jz, m, j8, j9⟩ := id hJ
    have hN := isoS_iff.mp j5.1
    have hlen := hN.2.1
    refine u_X8_unfold_1 ?_; unfold cm_X8_unfold_1
    refine w_leF (by omega) (by omega) ?_
    by_cases hgn : o_gn Gm s
    · exact w_ifF (fun h9 => (gbit0 p2 (by omega)).mp h9 hgn) (c5 r pw Mm Gm z R B sb ov hJ hB hR (fun v hv => by
        by_cases e : v = s
        · rw [e]
          exact hgn
        · exact hgs v (by omega)) hp1 hp2)
    · obtain ⟨p, pl, pe⟩ := lbv_sur hN (k := s) (by omega)
      have hpr : rn_b B r ≤ p := by
        rcases Nat.lt_or_ge p (rn_b B r) with h9 | h9
        · exact absurd ((p5 s (by omega)).mpr ⟨p, h9, pe⟩) hgn
        · exact h9
      obtain ⟨B', b1, b2, b3, b4, b5, b6, b7, b8⟩ := mv_ring j5 jz hR.1 hpr pl
      have hN' := isoS_iff.mp b1.1
      have hle := rn_b_le B r
      have lb0 : lbv B' f (rn_b B' r) = s := by
        rw [b4 r (Nat.le_refl r), ← pe]
        unfold lbv crs uns
        rw [b6]
      have pc : ∀ u, u < rn_b B r → crs B' u = crs B u := fun u hu => by unfold crs; rw [b5 u hu]
      have pu : ∀ u, u < rn_b B r → uns B' u = uns B u := fun u hu => by unfold uns; rw [b5 u hu]
      have plb : ∀ u, u < rn_b B r → lbv B' f u = lbv B f u := fun u hu => by unfold lbv; rw [pc u hu, pu u hu]
      have e4 := b4 r (Nat.le_refl r)
      refine w_ifT ((gbit0 p2 (by omega)).mpr hgn) ?_
      rw [nI_1]
      refine c2 (rn_b B' (r + 1) - rn_b B' r) 0 s pw Mm Gm z R B' sb ov (by omega) (fun _ => lb0.symm) (fun h9 => by omega) ⟨j1, jb, j2, j3, j4, b1, jp, b3.trans j6, b2, m, j8, j9⟩ ⟨p1, p2, fun u hu hul hfu => ?_, fun x hx => ?_, fun k hk => ?_⟩ ⟨by omega, fun i hi => ?_⟩ lb0 hgs (by omega) (by omega)
      · rw [e4] at hu
        rw [pu u (by omega)]
        refine p3 u (by omega) (by omega) (fun t ht e9 => hfu t ht ?_)
        rw [pc t (by omega), pc u (by omega)]
        exact e9
      · rw [p4 x hx, e4]
        exact ⟨fun ⟨u, u1, u2⟩ => ⟨u, by omega, by rw [pc u u1]; exact u2⟩, fun ⟨u, u1, u2⟩ => ⟨u, by omega, by rw [← pc u (by omega)]; exact u2⟩⟩
      · rw [p5 k hk, e4]
        exact ⟨fun ⟨u, u1, u2⟩ => ⟨u, by omega, by rw [plb u u1]; exact u2⟩, fun ⟨u, u1, u2⟩ => ⟨u, by omega, by rw [← plb u (by omega)]; exact u2⟩⟩
      · by_cases e : i = r
        · rw [e, e4]
          exact b7
        · rw [b4 i (by omega), b4 (i + 1) (by omega)]
          exact hR.2 i (by omega)
/-- one level -/
theorem xc_unfS2 {n L dd : Nat} {T : ow_NT} {A : rn_L} {sg ov : Nat → Bool} {Wd : wd9} {f : Nat → Nat} {φ xp : Int} {m : pz9} (hn : 1 ≤ n) (hL : L ≤ 12) (hself : L < 12 → ufS2 vl n L dd) (h0 : lvS y) (hb : bnC y) (hT : cAt y (lv L) T) (hv : nvL L T) (hc : T.1 + L ≤ 12) (hu : isoV A sg f T) (hp : pm1 T) (h6 : A.length ≤ 6 + L) (hz : bdz n Wd ov A sg) (hm : twC y m) (hx1 : -(100 * (L : Int)) ≤ xp) (hx2 : xp ≤ 100 * (L : Int)) : Te (fun K => cd0_X8_unfold vl K (dd + 1) 24000 (nI L) (iI φ) (iI xp) (nI L) y) (fun z1 => twC z1 (fun p q => m p q + φ * Fz n Wd ov (p - xp) (q - (L : Int)))) := by
  obtain ⟨c, hcT⟩ : ∃ c, T.1 = c := ⟨_, rfl⟩
  refine w_cdU ?_
  refine u_X8_unfold_0 ?_; unfold cm_X8_unfold_0
  refine w_crX rfl (show L < 13 by omega) (w_rdF hT.1 ?_)
  rw [hcT, rn_mul2]
  have z0 : rn_b A 0 = 0 := rfl
  exact uf_w2 (n1 := A.length) hn hL hself (by omega) h6 hx1 hx2 (2 * c) 0 0 xp 0 0 y T A sg ov (by omega) ⟨h0, hb, hT, hv, hcT, hu, hp, rfl, hz, m, hm, fun p q => rfl⟩ ⟨by decide, by decide, fun v hv => absurd hv (by rw [z0]; omega), fun x _ => ⟨fun h9 => absurd h9 (gn_z9 x), fun ⟨u, u1, _⟩ => absurd u1 (by rw [z0]; omega)⟩, fun k _ => ⟨fun h9 => absurd h9 (gn_z9 k), fun ⟨u, u1, _⟩ => absurd u1 (by rw [z0]; omega)⟩⟩ ⟨by omega, fun i hi => absurd hi (Nat.not_lt_zero _)⟩ (fun v hv => absurd hv (Nat.not_lt_zero _)) (by rw [z0]; omega) (by rw [z0]; omega)
theorem xc_unfD2 {n : Nat} (hn : 1 ≤ n) : ∀ (d L : Nat), L + d = 12 → ∀ (R : ow_NT) (B : rn_L) (sb ov : Nat → Bool) (Wd : wd9) (g : Nat → Nat) (ψ : Int) (m : pz9) (xp : Int) (z : ow_MS), lvS z → bnC z → cAt z (lv L) R → nvL L R → R.1 + L ≤ 12 → isoV B sb g R → pm1 R → B.length ≤ 6 + L → bdz n Wd ov B sb → twC z m → -(100 * (L : Int)) ≤ xp → xp ≤ 100 * (L : Int) → Te (fun K => cd0_X8_unfold vl K (d + 3) 24000 (nI L) (iI ψ) (iI xp) (nI L) z) (fun z1 => (lvS z1 ∧ fr (unP L) z z1) ∧ twC z1 (fun p q => m p q + ψ * Fz n Wd ov (p - xp) (q - (L : Int)))) := by
  intro d
  induction d with
  | zero =>
    intro L hL R B sb ov Wd g ψ m xp z h0 hb hT hv hc hu hp h6 hz hm hx1 hx2
    exact te_and (tc_unfD 0 L hL R _ _ z h0 hT hv) (xc_unfS2 (dd := 2) hn (by omega) (fun h => absurd h (by omega)) h0 hb hT hv hc hu hp h6 hz hm hx1 hx2)
  | succ d ih =>
    intro L hL R B sb ov Wd g ψ m xp z h0 hb hT hv hc hu hp h6 hz hm hx1 hx2
    refine te_and (tc_unfD (d + 1) L hL R _ _ z h0 hT hv) (xc_unfS2 (dd := d + 3) hn (by omega) (fun _ => fun R B sb ov Wd g ψ m xp z a1 a2 a3 a4 a5 a6 a7 a8 a9 a10 a11 a12 => ?_) h0 hb hT hv hc hu hp h6 hz hm hx1 hx2)
    exact ih (L + 1) (by omega) R B sb ov Wd g ψ m xp z a1 a2 a3 a4 a5 a6 a7 a8 a9 a10 (by show -(100 * ((L : Int) + 1)) ≤ xp; exact a11) (by show xp ≤ 100 * ((L : Int) + 1); exact a12)
end XTWN
end
