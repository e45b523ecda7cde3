/-! the one behind, in a round row -/
abbrev vT := Nat × Nat
section SC
def scF (a : vT) : List vT → vT → vT
  | [], p => p
  | [_], _ => a
  | b :: c :: R, p => if b = p then c else scF a (c :: R) p
def sc (L : List vT) (p : vT) : vT := match L with
  | [] => p
  | a :: M => scF a (a :: M) p
theorem scF_mid {a p q : vT} {Y : List vT} : ∀ {X : List vT}, p ∉ X → scF a (X ++ p :: q :: Y) p = q
  | [], _ => if_pos rfl
  | [b], h => by
    have hb : b ≠ p := fun e => h (by rw [e]; exact List.mem_singleton.mpr rfl)
    show (if b = p then p else scF a (p :: q :: Y) p) = q
    rw [if_neg hb]
    exact if_pos rfl
  | b :: c :: X, h => by
    have hb : b ≠ p := fun e => h (by rw [e]; exact List.mem_cons_self)
    show (if b = p then c else scF a ((c :: X) ++ p :: q :: Y) p) = q
    rw [if_neg hb]
    exact scF_mid (fun h9 => h (List.mem_cons_of_mem _ h9))
theorem scF_end {a p : vT} : ∀ {X : List vT}, p ∉ X → scF a (X ++ [p]) p = a
  | [], _ => rfl
  | [b], h => by
    have hb : b ≠ p := fun e => h (by rw [e]; exact List.mem_singleton.mpr rfl)
    show (if b = p then p else scF a [p] p) = a
    rw [if_neg hb]
    rfl
  | b :: c :: X, h => by
    have hb : b ≠ p := fun e => h (by rw [e]; exact List.mem_cons_self)
    show (if b = p then c else scF a ((c :: X) ++ [p]) p) = a
    rw [if_neg hb]
    exact scF_end (fun h9 => h (List.mem_cons_of_mem _ h9))
theorem sc_mid {p q : vT} {X Y : List vT} (h : p ∉ X) : sc (X ++ p :: q :: Y) p = q := by
  cases X with
  | nil => exact scF_mid (a := p) (X := []) h
  | cons b X => exact scF_mid (a := b) (X := b :: X) h
theorem sc_end {p a : vT} {X : List vT} (h : p ∉ a :: X) : sc (a :: X ++ [p]) p = a := scF_end (a := a) (X := a :: X) h
theorem sc_one {p : vT} : sc [p] p = p := rfl
/-- what stands behind p: the head of what follows, then of what is before -/
theorem sc_hd {p : vT} {X Y : List vT} (h : p ∉ X) : sc (X ++ p :: Y) p = (Y ++ X ++ [p]).headD p := by
  cases Y with
  | cons q Y => exact sc_mid h
  | nil =>
    cases X with
    | nil => rfl
    | cons a X => exact sc_end h
theorem nd_mid {p : vT} {X Y : List vT} (h : (X ++ p :: Y).Nodup) : p ∉ X ∧ p ∉ Y := by
  have h1 := List.nodup_append.mp h
  exact ⟨fun h9 => h1.2.2 p h9 p List.mem_cons_self rfl, (List.nodup_cons.mp h1.2.1).1⟩
theorem nd_rot {X Y : List vT} (h : (X ++ Y).Nodup) : (Y ++ X).Nodup := by
  have h1 := List.nodup_append.mp h
  exact List.nodup_append.mpr ⟨h1.2.1, h1.1, fun a ha b hb e => h1.2.2 b hb a ha e.symm⟩
/-- a row turned -/
theorem sc_rot {p : vT} {X Y : List vT} (hn : (X ++ Y).Nodup) (hp : p ∈ X ++ Y) : sc (Y ++ X) p = sc (X ++ Y) p := by
  rcases List.mem_append.mp hp with h | h
  · obtain ⟨X1, X2, rfl⟩ := List.append_of_mem h
    have h1 : (X1 ++ p :: (X2 ++ Y)).Nodup := by simpa using hn
    have h2 : ((Y ++ X1) ++ p :: X2).Nodup := by simpa using nd_rot hn
    have e1 := sc_hd (nd_mid h1).1 (Y := X2 ++ Y)
    have e2 := sc_hd (nd_mid h2).1 (Y := X2)
    rw [show X1 ++ p :: X2 ++ Y = X1 ++ p :: (X2 ++ Y) by simp, show Y ++ (X1 ++ p :: X2) = (Y ++ X1) ++ p :: X2 by simp, e1, e2]
    simp
  · obtain ⟨Y1, Y2, rfl⟩ := List.append_of_mem h
    have h1 : ((X ++ Y1) ++ p :: Y2).Nodup := by simpa using hn
    have h2 : (Y1 ++ p :: (Y2 ++ X)).Nodup := by simpa using nd_rot hn
    have e1 := sc_hd (nd_mid h1).1 (Y := Y2)
    have e2 := sc_hd (nd_mid h2).1 (Y := Y2 ++ X)
    rw [show X ++ (Y1 ++ p :: Y2) = (X ++ Y1) ++ p :: Y2 by simp, show Y1 ++ p :: Y2 ++ X = Y1 ++ p :: (Y2 ++ X) by simp, e1, e2]
    simp
theorem sc_cons {r : vT} {Z : List vT} : sc (r :: Z) r = Z.headD r := by
  cases Z with
  | nil => rfl
  | cons a Z => exact if_pos rfl
theorem sc_in {p : vT} {L : List vT} (hp : p ∈ L) (hn : L.Nodup) : sc L p ∈ L := by
  obtain ⟨X, Y, rfl⟩ := List.append_of_mem hp
  rw [sc_hd (nd_mid hn).1]
  cases Y with
  | cons q Y =>
    show q ∈ _
    simp
  | nil =>
    cases X with
    | nil =>
      show p ∈ _
      simp
    | cons a X =>
      show a ∈ _
      simp
/-- one goes out of a row -/
theorem sc_out {r p : vT} {X Y : List vT} (hn : (X ++ r :: Y).Nodup) (hp : p ∈ X ++ Y) : sc (X ++ Y) p = if sc (X ++ r :: Y) p = r then sc (X ++ r :: Y) r else sc (X ++ r :: Y) p := by
  have hn2 : (r :: (Y ++ X)).Nodup := by simpa using nd_rot hn
  have hn3 : (X ++ Y).Nodup := nd_rot (List.nodup_cons.mp hn2).2
  have hr : r ∉ Y ++ X := (List.nodup_cons.mp hn2).1
  have e0 : ∀ q, q ∈ X ++ r :: Y → sc (X ++ r :: Y) q = sc (r :: (Y ++ X)) q := fun q hq => (sc_rot (X := X) (Y := r :: Y) hn hq).symm
  have hpr : p ≠ r := fun e => hr (by rw [← e]; simpa [Or.comm] using hp)
  rw [e0 p (by simp at hp ⊢; grind), e0 r (by simp), ← sc_rot hn3 hp]
  have hp2 : p ∈ Y ++ X := by simpa [Or.comm] using hp
  generalize hZ : Y ++ X = Z at *
  obtain ⟨Z1, Z2, rfl⟩ := List.append_of_mem hp2
  have k1 : (r :: Z1) ++ p :: Z2 = r :: (Z1 ++ p :: Z2) := rfl
  have n1 : ((r :: Z1) ++ p :: Z2).Nodup := hn2
  rw [sc_cons, ← k1, sc_hd (nd_mid n1).1, sc_hd (nd_mid (List.nodup_cons.mp hn2).2).1]
  cases Z2 with
  | cons q Z2 =>
    have hq : q ≠ r := fun e => hr (by rw [e]; simp)
    show q = if q = r then _ else q
    rw [if_neg hq]
  | nil =>
    show (Z1 ++ [p]).headD p = if r = r then _ else _
    rw [if_pos rfl]
    cases Z1 <;> rfl
theorem nd_spl {r : vT} : ∀ {X Y Z W : List vT}, (X ++ r :: Y).Nodup → X ++ r :: Y = Z ++ r :: W → X = Z ∧ Y = W
  | [], Y, [], W, _, e => ⟨rfl, (List.cons.inj e).2⟩
  | [], Y, b :: Z, W, h, e => by
    obtain ⟨e1, e2⟩ := List.cons.inj e
    have := (nd_mid h).2
    rw [e2] at this
    exact absurd (by simp) this
  | a :: X, Y, [], W, h, e => by
    obtain ⟨e1, e2⟩ := List.cons.inj e
    have := (nd_mid h).1
    rw [e1] at this
    exact absurd List.mem_cons_self this
  | a :: X, Y, b :: Z, W, h, e => by
    obtain ⟨e1, e2⟩ := List.cons.inj e
    obtain ⟨h1, h2⟩ := nd_spl (List.nodup_cons.mp h).2 e2
    exact ⟨by rw [e1, h1], h2⟩
/-- one comes into a row, behind p -/
theorem sc_put {r p q : vT} {X Y : List vT} (hn : (X ++ p :: r :: Y).Nodup) (hq : q ∈ X ++ p :: r :: Y) : sc (X ++ p :: r :: Y) q = if q = p then r else if q = r then sc (X ++ p :: Y) p else sc (X ++ p :: Y) q := by
  have e : X ++ p :: r :: Y = (X ++ [p]) ++ r :: Y := by simp
  have hn' : ((X ++ [p]) ++ r :: Y).Nodup := by rw [← e]; exact hn
  have hr := nd_mid hn'
  have hpn := nd_mid hn
  have hrp : r ≠ p := fun h9 => hr.1 (by rw [h9]; simp)
  have e2 : X ++ p :: Y = (X ++ [p]) ++ Y := by simp
  by_cases c1 : q = p
  · rw [if_pos c1, c1]
    exact sc_mid hpn.1
  · rw [if_neg c1]
    have o1 : ∀ s, s ∈ (X ++ [p]) ++ Y → sc (X ++ p :: Y) s = if sc (X ++ p :: r :: Y) s = r then sc (X ++ p :: r :: Y) r else sc (X ++ p :: r :: Y) s := by
      intro s hs
      rw [e2, e]
      exact sc_out hn' hs
    have s1 : sc (X ++ p :: r :: Y) p = r := sc_mid hpn.1
    by_cases c2 : q = r
    · rw [if_pos c2, c2, o1 p (by simp), s1, if_pos rfl]
    · rw [if_neg c2, o1 q (by simp at hq ⊢; grind)]
      by_cases c3 : sc (X ++ p :: r :: Y) q = r
      · exfalso
        obtain ⟨Z1, Z2, hZ⟩ := List.append_of_mem hq
        have n2 : (Z1 ++ q :: Z2).Nodup := by rw [← hZ]; exact hn
        rw [hZ, sc_hd (nd_mid n2).1] at c3
        cases Z2 with
        | cons a Z2 =>
          have c3 : a = r := c3
          subst c3
          have hZ' : (X ++ [p]) ++ a :: Y = (Z1 ++ [q]) ++ a :: Z2 := by rw [← e, hZ]; simp
          obtain ⟨u1, u2⟩ := nd_spl hn' hZ'
          have := congrArg List.getLast? u1
          simp at this
          exact c1 this.symm
        | nil =>
          cases Z1 with
          | nil =>
            have c3 : q = r := c3
            exact c2 c3
          | cons b Z1 =>
            have c3 : b = r := c3
            subst c3
            cases X with
            | nil =>
              have := (List.cons.inj hZ).1
              exact hrp this.symm
            | cons a X =>
              have := (List.cons.inj hZ).1
              exact hr.1 (by rw [← this]; simp)
      · rw [if_neg c3]
end SC
section SC2
/-- a row parted in two, or two rows made one: the last of each change what is behind them -/
theorem sc_spl1 {v w p : vT} {X Y : List vT} (hn : ((X ++ [v]) ++ (Y ++ [w])).Nodup) (hp : p ∈ X ++ [v]) : sc (X ++ [v]) p = if p = v then sc ((X ++ [v]) ++ (Y ++ [w])) w else sc ((X ++ [v]) ++ (Y ++ [w])) p := by
  have hv : v ∉ X := (nd_mid (X := X) (Y := Y ++ [w]) (by simpa using hn)).1
  by_cases e : p = v
  · rw [if_pos e, e, sc_hd (Y := []) hv]
    have hw : w ∉ (X ++ [v]) ++ Y := (nd_mid (X := (X ++ [v]) ++ Y) (Y := []) (by simpa using hn)).1
    rw [show (X ++ [v]) ++ (Y ++ [w]) = ((X ++ [v]) ++ Y) ++ w :: [] by simp, sc_hd hw]
    cases X <;> rfl
  · rw [if_neg e]
    have hp' : p ∈ X := by
      rcases List.mem_append.mp hp with h | h
      · exact h
      · exact absurd (List.mem_singleton.mp h) e
    obtain ⟨X1, X2, rfl⟩ := List.append_of_mem hp'
    have hp1 : p ∉ X1 := (nd_mid (X := X1) (Y := X2 ++ [v] ++ (Y ++ [w])) (by simpa using hn)).1
    rw [show X1 ++ p :: X2 ++ [v] = X1 ++ p :: (X2 ++ [v]) by simp, sc_hd hp1, show X1 ++ p :: (X2 ++ [v]) ++ (Y ++ [w]) = X1 ++ p :: (X2 ++ [v] ++ (Y ++ [w])) by simp, sc_hd hp1]
    cases X2 <;> rfl
theorem sc_spl2 {v w p : vT} {X Y : List vT} (hn : ((X ++ [v]) ++ (Y ++ [w])).Nodup) (hp : p ∈ Y ++ [w]) : sc (Y ++ [w]) p = if p = w then sc ((X ++ [v]) ++ (Y ++ [w])) v else sc ((X ++ [v]) ++ (Y ++ [w])) p := by
  have := sc_spl1 (nd_rot hn) hp
  rw [this, sc_rot hn (by simp), sc_rot hn (List.mem_append_right _ hp)]
theorem sc_map {s : vT → vT} {p : vT} {L : List vT} (hn : L.Nodup) (hi : ∀ a b, a ∈ L → b ∈ L → s a = s b → a = b) (hp : p ∈ L) : sc (L.map s) (s p) = s (sc L p) := by
  obtain ⟨X, Y, rfl⟩ := List.append_of_mem hp
  have h1 := (nd_mid hn).1
  have h2 : s p ∉ X.map s := fun h9 => by
    obtain ⟨a, ha, e⟩ := List.mem_map.mp h9
    exact h1 (by rw [← hi a p (by simp [ha]) (by simp) e]; exact ha)
  rw [List.map_append, List.map_cons, sc_hd h2, sc_hd h1]
  cases Y with
  | cons q Y => rfl
  | nil => cases X <;> rfl
theorem sc_rev {p : vT} {L : List vT} (hn : L.Nodup) (hp : p ∈ L) : sc L.reverse (sc L p) = p := by
  obtain ⟨X, Y, rfl⟩ := List.append_of_mem hp
  have h1 := (nd_mid hn).1
  cases Y with
  | cons q Y =>
    rw [sc_mid h1]
    have h2 : q ∉ Y.reverse := by
      have := (nd_mid (X := X ++ [p]) (Y := Y) (p := q) (by simpa using hn)).2
      simpa using this
    rw [show (X ++ p :: q :: Y).reverse = Y.reverse ++ q :: p :: X.reverse by simp]
    exact sc_mid h2
  | nil =>
    cases X with
    | nil => rfl
    | cons a X =>
      rw [sc_end h1]
      have h2 : a ∉ p :: X.reverse := by
        have := (List.nodup_cons.mp (show (a :: (X ++ [p])).Nodup by simpa using hn)).1
        simp at this ⊢
        grind
      rw [show (a :: X ++ [p]).reverse = p :: X.reverse ++ [a] by simp]
      exact sc_end h2
theorem sc_inj {p q : vT} {L : List vT} (hn : L.Nodup) (hp : p ∈ L) (hq : q ∈ L) (e : sc L p = sc L q) : p = q := by
  rw [← sc_rev hn hp, e, sc_rev hn hq]
/-- a net by its components: each visit has the one behind it -/
def shw (N : Nat → Nat) (g : vT → Nat) (A : rn_L) : Prop := ∀ L, L ∈ A → ∀ p, p ∈ L → N (g p) = g (sc L p)
theorem nx_sc : ∀ A : rn_L, A.flatten.Nodup → ∀ v, v < A.flatten.length → ∃ L, L ∈ A ∧ vAt A v ∈ L ∧ vAt A (rn_nx A v) = sc L (vAt A v) := by
  refine snocI (fun _ v hv => absurd hv (Nat.not_lt_zero _)) (fun A L ih hn v hv => ?_)
  rw [fl_app] at hn
  rw [fl_app, List.length_append] at hv
  by_cases e : v < A.flatten.length
  · obtain ⟨K, k1, k2, k3⟩ := ih (List.nodup_append.mp hn).1 v e
    refine ⟨K, List.mem_append_left _ k1, ?_, ?_⟩
    · rw [vAt_ap e]
      exact k2
    · rw [vAt_ap e, rnx_app e, vAt_ap (rnx_lt e)]
      exact k3
  · obtain ⟨i, rfl⟩ : ∃ i, v = A.flatten.length + i := ⟨v - A.flatten.length, by omega⟩
    have hi : i < L.length := by omega
    have hL := (List.nodup_append.mp hn).2.1
    refine ⟨L, List.mem_append_right _ (List.mem_singleton.mpr rfl), ?_, ?_⟩
    · rw [vAt_nw (List.getElem?_eq_getElem hi)]
      exact List.getElem_mem hi
    · rw [rnx_new hi, vAt_nw (List.getElem?_eq_getElem hi)]
      have es : L = L.take i ++ L[i] :: L.drop (i + 1) := by
        rw [← List.drop_eq_getElem_cons hi, List.take_append_drop]
      have hni : L[i] ∉ L.take i := by
        rw [es] at hL
        exact (nd_mid hL).1
      by_cases h1 : i + 1 < L.length
      · rw [if_pos h1, vAt_nw (List.getElem?_eq_getElem h1)]
        have es2 : L = L.take i ++ L[i] :: L[i + 1] :: L.drop (i + 1 + 1) := by
          rw [← List.drop_eq_getElem_cons h1]
          exact es
        have := sc_mid (q := L[i + 1]) (Y := L.drop (i + 1 + 1)) hni
        rw [← es2] at this
        exact this.symm
      · rw [if_neg h1, show A.flatten.length = A.flatten.length + 0 from rfl, vAt_nw (List.getElem?_eq_getElem (show 0 < L.length by omega))]
        have := sc_hd (Y := L.drop (i + 1)) hni
        rw [← es] at this
        rw [this, List.drop_eq_nil_of_le (by omega), List.nil_append]
        cases L with
        | nil => exact absurd hi (Nat.not_lt_zero _)
        | cons a M =>
          cases i with
          | zero =>
            have : M = [] := List.length_eq_zero_iff.mp (by have h0 : (a :: M).length = M.length + 1 := rfl; omega)
            subst this
            rfl
          | succ i => rfl
theorem one_L {A : rn_L} (hn : A.flatten.Nodup) {L K : List vT} {p : vT} (hL : L ∈ A) (hK : K ∈ A) (h1 : p ∈ L) (h2 : p ∈ K) : L = K := by
  induction A with
  | nil => cases hL
  | cons B A ih =>
    rw [List.flatten_cons] at hn
    have hd := List.nodup_append.mp hn
    rcases List.mem_cons.mp hL with e1 | hL2
    · rcases List.mem_cons.mp hK with e2 | hK2
      · rw [e1, e2]
      · rw [e1] at h1
        exact absurd rfl (hd.2.2 p h1 p (List.mem_flatten.mpr ⟨K, hK2, h2⟩))
    · rcases List.mem_cons.mp hK with e2 | hK2
      · rw [e2] at h2
        exact absurd rfl (hd.2.2 p h2 p (List.mem_flatten.mpr ⟨L, hL2, h1⟩))
      · exact ih hd.2.1 hL2 hK2
theorem shw_iff {N : Nat → Nat} {g : vT → Nat} {A : rn_L} (hn : A.flatten.Nodup) : shw N g A ↔ ∀ v, v < A.flatten.length → N (g (vAt A v)) = g (vAt A (rn_nx A v)) := by
  constructor
  · intro h v hv
    obtain ⟨L, h1, h2, h3⟩ := nx_sc A hn v hv
    rw [h3]
    exact h L h1 _ h2
  · intro h L hL p hp
    have hm : p ∈ A.flatten := List.mem_flatten.mpr ⟨L, hL, hp⟩
    obtain ⟨v, hv, e⟩ := List.mem_iff_getElem.mp hm
    have e' : vAt A v = p := by
      unfold vAt
      rw [List.getElem?_eq_getElem hv, e]
      rfl
    obtain ⟨K, h1, h2, h3⟩ := nx_sc A hn v hv
    have := h v hv
    rw [h3, e'] at this
    rw [e'] at h2
    rw [one_L hn hL h1 hp h2]
    exact this
/-- isoN by names -/
def gl (f : Nat → Nat) (p : vT) : Nat := 2 * f p.1 + p.2
def isoS (A : rn_L) (sg : Nat → Bool) (f : Nat → Nat) (T : ow_NT) : Prop := wkF A.flatten ∧ A.flatten.length = 2 * T.1 ∧ T.1 ≤ 12 ∧ (∀ p, p ∈ A.flatten → f p.1 < T.1) ∧ (∀ p q, p ∈ A.flatten → q ∈ A.flatten → f p.1 = f q.1 → p.1 = q.1) ∧ shw T.2.2.1.1 (gl f) A ∧ (∀ p, p ∈ A.flatten → (T.2.2.2 (f p.1) < 0 ↔ sg p.1 = true)) ∧ cirs A = T.2.1
theorem mem_vAt {A : rn_L} {p : vT} (h : p ∈ A.flatten) : ∃ v, v < A.flatten.length ∧ vAt A v = p := by
  obtain ⟨v, hv, e⟩ := List.mem_iff_getElem.mp h
  refine ⟨v, hv, ?_⟩
  unfold vAt
  rw [List.getElem?_eq_getElem hv, e]
  rfl
theorem isoS_iff {A : rn_L} {sg : Nat → Bool} {f : Nat → Nat} {T : ow_NT} : isoS A sg f T ↔ isoN A sg f T := by
  constructor
  · rintro ⟨h1, h2, h3, h4, h5, h6, h7, h8⟩
    exact ⟨h1, h2, h3, fun v hv => h4 _ (vAt_mem hv), fun v w hv hw => h5 _ _ (vAt_mem hv) (vAt_mem hw), fun v hv => (shw_iff h1.1).mp h6 v hv, fun v hv => h7 _ (vAt_mem hv), h8⟩
  · rintro ⟨h1, h2, h3, h4, h5, h6, h7, h8⟩
    refine ⟨h1, h2, h3, fun p hp => ?_, fun p q hp hq => ?_, (shw_iff h1.1).mpr h6, fun p hp => ?_, h8⟩
    · obtain ⟨v, hv, rfl⟩ := mem_vAt hp
      exact h4 v hv
    · obtain ⟨v, hv, rfl⟩ := mem_vAt hp
      obtain ⟨w, hw, rfl⟩ := mem_vAt hq
      exact h5 v w hv hw
    · obtain ⟨v, hv, rfl⟩ := mem_vAt hp
      exact h7 v hv
end SC2
