/-! a smoothed net shows the smoothed components -/
theorem isoV_lists {A A1 : rn_L} {sg : Nat → Bool} {f : Nat → Nat} {T : ow_NT} (h : isoV A sg f T) (hp : A1.flatten.Perm A.flatten) (hc : cirs A1 = cirs A) (hL : ∀ L, L ∈ A1 → ∀ p, p ∈ L → ∃ L0, L0 ∈ A ∧ p ∈ L0 ∧ sc L p = sc L0 p) : isoV A1 sg f T := by
  refine isoV_of (isoS_iff.mp ⟨wkF_perm hp h.1.1, by rw [hp.length_eq]; exact h.1.2.1, h.1.2.2.1, fun p h9 => h.1.2.2.2.1 p (hp.mem_iff.mp h9), fun p q h8 h9 e => h.1.2.2.2.2.1 p q (hp.mem_iff.mp h8) (hp.mem_iff.mp h9) e, fun L l1 p p1 => ?_, fun p h9 => h.1.2.2.2.2.2.2.1 p (hp.mem_iff.mp h9), by rw [hc]; exact h.1.2.2.2.2.2.2.2⟩) (isoV_vn h)
  obtain ⟨L0, a1, a2, a3⟩ := hL L l1 p p1
  rw [a3]
  exact (h.2 L0 a1 p a2).1
theorem iso_exch {A A1 : rn_L} {sg : Nat → Bool} {f : Nat → Nat} {T : ow_NT} {p q : vT} (h : isoV A sg f T) (hpA : p ∈ A.flatten) (hqA : q ∈ A.flatten) (hpq : p ≠ q) (hp : A1.flatten.Perm A.flatten) (hc : cirs A1 = cirs A) (hL : ∀ L, L ∈ A1 → ∀ r, r ∈ L → (r = p → ∃ L0, L0 ∈ A ∧ q ∈ L0 ∧ sc L r = sc L0 q) ∧ (r = q → ∃ L0, L0 ∈ A ∧ p ∈ L0 ∧ sc L r = sc L0 p) ∧ (r ≠ p → r ≠ q → ∃ L0, L0 ∈ A ∧ r ∈ L0 ∧ sc L r = sc L0 r)) : isoV A1 sg f (T.1, T.2.1, np_exchange T.2.2.1 (gl f p) (gl f q), T.2.2.2) := by
  have hv := isoV_vn h
  refine isoV_of (isoS_iff.mp ⟨wkF_perm hp h.1.1, by rw [hp.length_eq]; exact h.1.2.1, h.1.2.2.1, fun p h9 => h.1.2.2.2.1 p (hp.mem_iff.mp h9), fun p q h8 h9 e => h.1.2.2.2.2.1 p q (hp.mem_iff.mp h8) (hp.mem_iff.mp h9) e, fun L l1 r r1 => ?_, fun p h9 => h.1.2.2.2.2.2.2.1 p (hp.mem_iff.mp h9), by rw [hc]; exact h.1.2.2.2.2.2.2.2⟩) (vn_exchange hv (gl_lt h hpA) (gl_lt h hqA))
  have rA : r ∈ A.flatten := hp.mem_iff.mp (List.mem_flatten.mpr ⟨L, l1, r1⟩)
  obtain ⟨k1, k2, k3⟩ := hL L l1 r r1
  show (np_exchange T.2.2.1 (gl f p) (gl f q)).1 (gl f r) = gl f (sc L r)
  rw [np_exchange_1]
  by_cases e1 : r = q
  · obtain ⟨L0, a1, a2, a3⟩ := k2 e1
    rw [if_pos (by rw [e1]), a3]
    exact (h.2 L0 a1 p a2).1
  · rw [if_neg (fun e => e1 (gl_gin h.1 r q rA hqA e))]
    by_cases e2 : r = p
    · obtain ⟨L0, a1, a2, a3⟩ := k1 e2
      rw [if_pos (by rw [e2]), a3]
      exact (h.2 L0 a1 q a2).1
    · obtain ⟨L0, a1, a2, a3⟩ := k3 e2 e1
      rw [if_neg (fun e => e2 (gl_gin h.1 r p rA hpA e)), a3]
      exact (h.2 L0 a1 r a2).1
theorem ex_comm {c : Nat} {S : ow_NP} (hv : vn c S) {v w : Nat} (h1 : v < 2 * c) (h2 : w < 2 * c) (hne : v ≠ w) : np_exchange S v w = np_exchange S w v := by
  have hi : S.1 v ≠ S.1 w := fun e => hne (vn_inj hv h1 h2 e)
  refine Prod.ext (funext fun k => ?_) (funext fun k => ?_)
  · rw [np_exchange_1, np_exchange_1]
    by_cases e1 : k = w
    · rw [if_pos e1, if_neg (fun e => hne (e.symm.trans e1)), if_pos e1]
    · rw [if_neg e1]
      by_cases e2 : k = v
      · rw [if_pos e2, if_pos e2]
      · rw [if_neg e2, if_neg e2, if_neg e1]
  · rw [np_exchange_2, np_exchange_2]
    by_cases e1 : k = S.1 v
    · rw [if_pos e1, if_neg (fun e => hi (e1.symm.trans e)), if_pos e1]
    · rw [if_neg e1]
      by_cases e2 : k = S.1 w
      · rw [if_pos e2, if_pos e2]
      · rw [if_neg e2, if_neg e2, if_neg e1]
theorem woL {x : Nat} {L : List vT} (h : ∀ r, r ∈ L → r.2 < 2) : (L.filter (fun r => decide (r ≠ (x, 0)))).filter (fun r => decide (r ≠ (x, 1))) = L.filter (fun r => decide (r.1 ≠ x)) := by
  rw [List.filter_filter]
  refine List.filter_congr (fun r hr => ?_)
  have h2 := h r hr
  obtain ⟨a, u⟩ := r
  dsimp only at h2 ⊢
  by_cases e : a = x
  · subst e
    rcases (show u = 0 ∨ u = 1 by omega) with rfl | rfl
    · simp
    · simp
  · have n0 : (a, u) ≠ ((x, 0) : vT) := fun e9 => e (Prod.mk.inj e9).1
    have n1 : (a, u) ≠ ((x, 1) : vT) := fun e9 => e (Prod.mk.inj e9).1
    rw [decide_eq_true n0, decide_eq_true n1, decide_eq_true e]
    rfl
theorem fil_k {x : Nat} {L : List vT} (h : ∀ r, r ∈ L → r.1 ≠ x) : L.filter (fun r => decide (r.1 ≠ x)) = L := List.filter_eq_self.mpr (fun r hr => decide_eq_true (h r hr))
theorem cirs_cons (L : List vT) (A : rn_L) : cirs (L :: A) = (if L = [] then 1 else 0) + cirs A := by
  unfold cirs
  rw [List.countP_cons]
  cases L with
  | nil =>
    simp
    omega
  | cons a X => simp
theorem cirs_ne {L : List vT} {A : rn_L} (h : L ≠ []) : cirs (L :: A) = cirs A := by
  rw [cirs_cons, if_neg h, Nat.zero_add]
section ISM
variable {A : rn_L} {sg : Nat → Bool} {f : Nat → Nat} {T : ow_NT} {P Mi Po : rn_L} {X Y Z W : List vT} {p q : vT}
/-- the visits of a crossing parted or joined, then taken out -/
theorem iso_sm0 {A1 : rn_L} {x : Nat} (h : isoV A1 sg f (T.1, T.2.1, np_exchange T.2.2.1 (gl f p) (gl f q), T.2.2.2)) (hv : vn T.1 T.2.2.1) (hp : p.1 = x) (hq : q = (x, 1 - p.2)) (hp2 : p.2 < 2) (hpA : p ∈ A1.flatten) : ∃ f', isoV (A1.map (List.filter (fun r => decide (r.1 ≠ x)))) sg f' (ntSm T (f x)) := by
  have hF := h.1.1
  have hqA : q ∈ A1.flatten := by
    have := (hF.2 p hpA).2.2
    rw [hp, ← hq] at this
    exact this
  have x0 : (x, 0) ∈ A1.flatten ∧ (p = (x, 0) ∧ q = (x, 1) ∨ p = (x, 1) ∧ q = (x, 0)) := by
    rcases (show p.2 = 0 ∨ p.2 = 1 by omega) with e | e
    · have e1 : p = (x, 0) := Prod.ext hp e
      rw [e] at hq
      exact ⟨by rw [← e1]; exact hpA, Or.inl ⟨e1, hq⟩⟩
    · have e1 : p = (x, 1) := Prod.ext hp e
      rw [e] at hq
      exact ⟨by have hq' : q = (x, 0) := hq; rw [← hq']; exact hqA, Or.inr ⟨e1, hq⟩⟩
  obtain ⟨f', k1, -⟩ := iso_rm h x0.1
  refine ⟨f', ?_⟩
  have ew : wox A1 x = A1.map (List.filter (fun r => decide (r.1 ≠ x))) := by
    unfold wox rmv
    rw [List.map_map]
    exact List.map_congr_left (fun L hL => woL (fun r hr => (hF.2 r (List.mem_flatten.mpr ⟨L, hL, hr⟩)).2.1))
  rw [ew] at k1
  have hfx : f x < T.1 := h.1.2.2.2.1 _ x0.1
  have eT : nt_rm (T.1, T.2.1, np_exchange T.2.2.1 (gl f p) (gl f q), T.2.2.2) (f x) = ntSm T (f x) := by
    unfold ntSm
    rcases x0.2 with ⟨e1, e2⟩ | ⟨e1, e2⟩
    · rw [e1, e2]
      rfl
    · rw [e1, e2]
      rw [show np_exchange T.2.2.1 (gl f (x, 1)) (gl f (x, 0)) = np_exchange T.2.2.1 (2 * f x) (2 * f x + 1) from ex_comm (v := 2 * f x + 1) (w := 2 * f x) hv (by omega) (by omega) (by omega)]
  rw [eT] at k1
  exact k1
theorem nd_of {L : List vT} {p q : vT} (hF : wkF A.flatten) (hL : L ∈ A) {x : Nat} (hp : p = (x, 0) ∧ q = (x, 1) ∨ p = (x, 1) ∧ q = (x, 0)) {r : vT} (hr : r ∈ L) (h1 : r ≠ p) (h2 : r ≠ q) : r.1 ≠ x := fun e => by
  have h3 := (hF.2 r (List.mem_flatten.mpr ⟨L, hL, hr⟩)).2.1
  rcases (show r.2 = 0 ∨ r.2 = 1 by omega) with e2 | e2
  · have e3 : r = (x, 0) := Prod.ext e e2
    rcases hp with ⟨e4, e5⟩ | ⟨e4, e5⟩
    · exact h1 (e3.trans e4.symm)
    · exact h2 (e3.trans e5.symm)
  · have e3 : r = (x, 1) := Prod.ext e e2
    rcases hp with ⟨e4, e5⟩ | ⟨e4, e5⟩
    · exact h2 (e3.trans e5.symm)
    · exact h1 (e3.trans e4.symm)
/-- both visits in one component -/
theorem iso_sm1 {x : Nat} (hAe : A = P ++ (X ++ p :: (Y ++ q :: Z)) :: Po) (h : isoV A sg f T) (hx : p = (x, 0) ∧ q = (x, 1) ∨ p = (x, 1) ∧ q = (x, 0)) : ∃ f', isoV (P ++ (X ++ Z) :: Po ++ [Y]) sg f' (ntSm T (f x)) := by
  have hF := h.1.1
  have hv := isoV_vn h
  have hLA : X ++ p :: (Y ++ q :: Z) ∈ A := by rw [hAe]; exact List.mem_append_right _ List.mem_cons_self
  have nL := L_nd hF.1 hLA
  have hpL : p ∈ X ++ p :: (Y ++ q :: Z) := List.mem_append_right _ List.mem_cons_self
  have hqL : q ∈ X ++ p :: (Y ++ q :: Z) := List.mem_append_right _ (List.mem_cons_of_mem _ (List.mem_append_right _ List.mem_cons_self))
  have hpq : p ≠ q := by
    rcases hx with ⟨rfl, rfl⟩ | ⟨rfl, rfl⟩
    · exact fun e => absurd (Prod.mk.inj e).2 (by decide)
    · exact fun e => absurd (Prod.mk.inj e).2 (by decide)
  have eR : X ++ p :: (Y ++ q :: Z) = (X ++ p :: (Y ++ [q])) ++ Z := by simp
  have eR2 : Z ++ (X ++ p :: (Y ++ [q])) = ((Z ++ X) ++ [p]) ++ (Y ++ [q]) := by simp
  have nR : (((Z ++ X) ++ [p]) ++ (Y ++ [q])).Nodup := by
    rw [← eR2]
    refine nd_rot ?_
    rw [← eR]
    exact nL
  have memR : ∀ r, r ∈ ((Z ++ X) ++ [p]) ++ (Y ++ [q]) ↔ r ∈ X ++ p :: (Y ++ q :: Z) := fun r => by
    simp only [List.mem_append, List.mem_cons, List.mem_singleton]
    grind
  have scR : ∀ r, r ∈ X ++ p :: (Y ++ q :: Z) → sc (((Z ++ X) ++ [p]) ++ (Y ++ [q])) r = sc (X ++ p :: (Y ++ q :: Z)) r := fun r hr => by
    have hn2 : ((X ++ p :: (Y ++ [q])) ++ Z).Nodup := by rw [← eR]; exact nL
    have := sc_rot (p := r) hn2 (by rw [← eR]; exact hr)
    rw [eR2, ← eR] at this
    exact this
  have otherL : ∀ L, L ∈ P ++ Po → L ∈ A := fun L hL => by
    rw [hAe]
    rcases List.mem_append.mp hL with h9 | h9
    · exact List.mem_append_left _ h9
    · exact List.mem_append_right _ (List.mem_cons_of_mem _ h9)
  have otherN : ∀ L, L ∈ P ++ Po → ∀ r, r ∈ L → r ≠ p ∧ r ≠ q := fun L hL r hr => by
    have hn := hF.1
    rw [hAe, List.flatten_append, List.flatten_cons] at hn
    have dis : ∀ s, s ∈ X ++ p :: (Y ++ q :: Z) → r ≠ s := fun s hs e => by
      obtain ⟨n1, n2, n3⟩ := List.nodup_append.mp hn
      obtain ⟨m1, m2, m3⟩ := List.nodup_append.mp n2
      rcases List.mem_append.mp hL with h9 | h9
      · exact n3 r (List.mem_flatten.mpr ⟨L, h9, hr⟩) s (List.mem_append_left _ hs) e
      · exact m3 s hs r (List.mem_flatten.mpr ⟨L, h9, hr⟩) e.symm
    exact ⟨dis p hpL, dis q hqL⟩
  let A1 : rn_L := P ++ ((Z ++ X) ++ [p]) :: Po ++ [Y ++ [q]]
  have perm1 : A1.flatten.Perm A.flatten := by
    rw [hAe]
    show (P ++ ((Z ++ X) ++ [p]) :: Po ++ [Y ++ [q]]).flatten.Perm _
    refine List.perm_iff_count.mpr (fun a => ?_)
    simp only [List.flatten_append, List.flatten_cons, List.flatten_nil, List.count_append, List.count_cons, List.count_nil]
    omega
  have cirs1 : cirs A1 = cirs A := by
    rw [hAe]
    show cirs (P ++ ((Z ++ X) ++ [p]) :: Po ++ [Y ++ [q]]) = _
    rw [cirs_app2, cirs_app2, cirs_app2, cirs_ne (by simp), cirs_ne (by simp), cirs_ne (by simp)]
    show cirs P + cirs Po + 0 = _
    omega
  have hpA : p ∈ A.flatten := List.mem_flatten.mpr ⟨_, hLA, hpL⟩
  have hqA : q ∈ A.flatten := List.mem_flatten.mpr ⟨_, hLA, hqL⟩
  have dis : ∀ r, r ∈ (Z ++ X) ++ [p] → r ∈ Y ++ [q] → False := fun r h1 h2 => (List.nodup_append.mp nR).2.2 r h1 r h2 rfl
  have key1 : isoV A1 sg f (T.1, T.2.1, np_exchange T.2.2.1 (gl f p) (gl f q), T.2.2.2) := by
    refine iso_exch h hpA hqA hpq perm1 cirs1 (fun L hL r hr => ?_)
    have hL : L ∈ P ++ Po ∨ L = (Z ++ X) ++ [p] ∨ L = Y ++ [q] := by
      have hL : L ∈ P ++ ((Z ++ X) ++ [p]) :: Po ++ [Y ++ [q]] := hL
      rcases List.mem_append.mp hL with h9 | h9
      · rcases List.mem_append.mp h9 with h8 | h8
        · exact Or.inl (List.mem_append_left _ h8)
        · rcases List.mem_cons.mp h8 with h7 | h7
          · exact Or.inr (Or.inl h7)
          · exact Or.inl (List.mem_append_right _ h7)
      · exact Or.inr (Or.inr (List.mem_singleton.mp h9))
    rcases hL with hL | rfl | rfl
    · obtain ⟨n1, n2⟩ := otherN L hL r hr
      exact ⟨fun e => absurd e n1, fun e => absurd e n2, fun _ _ => ⟨L, otherL L hL, hr, rfl⟩⟩
    · have hs := sc_spl1 nR hr
      have hrR := (memR r).mp (List.mem_append_left _ hr)
      refine ⟨fun e => ⟨_, hLA, hqL, ?_⟩, fun e => absurd (List.mem_append_right _ (by rw [e]; exact List.mem_singleton.mpr rfl)) (fun h9 => dis r hr h9), fun e1 _ => ⟨_, hLA, hrR, ?_⟩⟩
      · rw [hs, if_pos e, scR q hqL]
      · rw [hs, if_neg e1, scR r hrR]
    · have hs := sc_spl2 nR hr
      have hrR := (memR r).mp (List.mem_append_right _ hr)
      refine ⟨fun e => absurd (List.mem_append_right _ (by rw [e]; exact List.mem_singleton.mpr rfl)) (fun h9 => dis r h9 hr), fun e => ⟨_, hLA, hpL, ?_⟩, fun _ e2 => ⟨_, hLA, hrR, ?_⟩⟩
      · rw [hs, if_pos e, scR p hpL]
      · rw [hs, if_neg e2, scR r hrR]
  have hp1 : p.1 = x ∧ q = (x, 1 - p.2) ∧ p.2 < 2 := by
    rcases hx with ⟨rfl, rfl⟩ | ⟨rfl, rfl⟩
    · exact ⟨rfl, rfl, by show 0 < 2; omega⟩
    · exact ⟨rfl, rfl, by show 1 < 2; omega⟩
  obtain ⟨f', k1⟩ := iso_sm0 key1 hv hp1.1 hp1.2.1 hp1.2.2 (perm1.mem_iff.mpr hpA)
  have hq1 : q.1 = x := by rw [hp1.2.1]
  have notx : ∀ r, r ∈ X ++ p :: (Y ++ q :: Z) → r ≠ p → r ≠ q → r.1 ≠ x := fun r hr h1 h2 => nd_of hF hLA hx hr h1 h2
  have fo1 : ∀ L, L ∈ P ++ Po → L.filter (fun r => decide (r.1 ≠ x)) = L := fun L hL => fil_k (fun r hr => nd_of hF (otherL L hL) hx hr (otherN L hL r hr).1 (otherN L hL r hr).2)
  have inZX : ∀ r, r ∈ Z ++ X → r.1 ≠ x := fun r hr => notx r ((memR r).mp (List.mem_append_left _ (List.mem_append_left _ hr))) (fun e => by
    have nn := (List.nodup_append.mp nR).1
    exact (List.nodup_append.mp nn).2.2 r hr p (List.mem_singleton.mpr rfl) e) (fun e => dis r (List.mem_append_left _ hr) (by rw [e]; exact List.mem_append_right _ (List.mem_singleton.mpr rfl)))
  have inY : ∀ r, r ∈ Y → r.1 ≠ x := fun r hr => notx r ((memR r).mp (List.mem_append_right _ (List.mem_append_left _ hr))) (fun e => dis r (by rw [e]; exact List.mem_append_right _ (List.mem_singleton.mpr rfl)) (List.mem_append_left _ hr)) (fun e => by
    have nn := (List.nodup_append.mp nR).2.1
    exact (List.nodup_append.mp nn).2.2 r hr q (List.mem_singleton.mpr rfl) e)
  have f1 : ((Z ++ X) ++ [p]).filter (fun r => decide (r.1 ≠ x)) = Z ++ X := by
    rw [List.filter_append, fil_k inZX, List.filter_cons_of_neg (by rw [hp1.1]; simp), List.filter_nil, List.append_nil]
  have f2 : (Y ++ [q]).filter (fun r => decide (r.1 ≠ x)) = Y := by
    rw [List.filter_append, fil_k inY, List.filter_cons_of_neg (by rw [hq1]; simp), List.filter_nil, List.append_nil]
  have fP : P.map (List.filter (fun r => decide (r.1 ≠ x))) = P := by
    conv => rhs; rw [← List.map_id P]
    exact List.map_congr_left (fun L hL => fo1 L (List.mem_append_left _ hL))
  have fPo : Po.map (List.filter (fun r => decide (r.1 ≠ x))) = Po := by
    conv => rhs; rw [← List.map_id Po]
    exact List.map_congr_left (fun L hL => fo1 L (List.mem_append_right _ hL))
  have eA1 : A1.map (List.filter (fun r => decide (r.1 ≠ x))) = P ++ (Z ++ X) :: Po ++ [Y] := by
    show (P ++ ((Z ++ X) ++ [p]) :: Po ++ [Y ++ [q]]).map _ = _
    rw [List.map_append, List.map_append, List.map_cons, List.map_cons, List.map_nil, f1, f2, fP, fPo]
  rw [eA1] at k1
  refine ⟨f', isoV_lists k1 ?_ ?_ (fun L hL r hr => ?_)⟩
  · refine List.perm_iff_count.mpr (fun a => ?_)
    simp only [List.flatten_append, List.flatten_cons, List.flatten_nil, List.count_append, List.count_nil]
    omega
  · rw [cirs_app2, cirs_app2, cirs_app2, cirs_app2, cirs_cons (X ++ Z), cirs_cons (Z ++ X)]
    have : (X ++ Z = []) ↔ (Z ++ X = []) := by
      rw [List.append_eq_nil_iff, List.append_eq_nil_iff]
      exact And.comm
    simp only [this]
  · rcases List.mem_append.mp hL with h9 | h9
    · rcases List.mem_append.mp h9 with h8 | h8
      · exact ⟨L, List.mem_append_left _ (List.mem_append_left _ h8), hr, rfl⟩
      · rcases List.mem_cons.mp h8 with h7 | h7
        · have nZX : (Z ++ X).Nodup := by
            have nn := (List.nodup_append.mp nR).1
            exact (List.nodup_append.mp nn).1
          have hrZ : r ∈ Z ++ X := by
            rw [h7] at hr
            rcases List.mem_append.mp hr with h6 | h6
            · exact List.mem_append_right _ h6
            · exact List.mem_append_left _ h6
          refine ⟨Z ++ X, List.mem_append_left _ (List.mem_append_right _ List.mem_cons_self), hrZ, ?_⟩
          rw [h7]
          exact sc_rot nZX hrZ
        · exact ⟨L, List.mem_append_left _ (List.mem_append_right _ (List.mem_cons_of_mem _ h7)), hr, rfl⟩
    · exact ⟨L, List.mem_append_right _ h9, hr, rfl⟩
end ISM
