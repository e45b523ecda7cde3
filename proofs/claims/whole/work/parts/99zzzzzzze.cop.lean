/-! nets by their components: what changes a net changes its rows -/
def shL (S : ow_NP) (g : vT → Nat) (L : List vT) : Prop := ∀ p, p ∈ L → S.1 (g p) = g (sc L p) ∧ S.2 (g (sc L p)) = g p
def shP (S : ow_NP) (g : vT → Nat) (A : rn_L) : Prop := ∀ L, L ∈ A → shL S g L
def gin (g : vT → Nat) (F : List vT) : Prop := ∀ p q, p ∈ F → q ∈ F → g p = g q → p = q
theorem sc_pre {L : List vT} {r : vT} (hn : L.Nodup) (hr : r ∈ L) : ∃ q, q ∈ L ∧ sc L q = r := by
  have h1 : L.reverse.Nodup := List.pairwise_reverse.mpr (hn.imp (fun h9 e => h9 e.symm))
  have h2 := sc_rev h1 (List.mem_reverse.mpr hr)
  rw [List.reverse_reverse] at h2
  exact ⟨sc L.reverse r, List.mem_reverse.mp (sc_in (List.mem_reverse.mpr hr) h1), h2⟩
theorem sc_self {L : List vT} {r : vT} (hn : L.Nodup) (hr : r ∈ L) (e : sc L r = r) : L = [r] := by
  obtain ⟨X, Y, rfl⟩ := List.append_of_mem hr
  have h1 := nd_mid hn
  rw [sc_hd h1.1] at e
  cases Y with
  | cons q Y =>
    have e : q = r := e
    exact absurd (by rw [e]; exact List.mem_cons_self) h1.2
  | nil =>
    cases X with
    | nil => rfl
    | cons a X =>
      have e : a = r := e
      exact absurd (by rw [e]; exact List.mem_cons_self) h1.1
theorem shL_k {S S' : ow_NP} {g g' : vT → Nat} {L : List vT} (hn : L.Nodup) (hg : ∀ p, p ∈ L → g' p = g p) (h1 : ∀ p, p ∈ L → S'.1 (g p) = S.1 (g p) ∧ S'.2 (g p) = S.2 (g p)) (h : shL S g L) : shL S' g' L := by
  intro p hp
  have hs := sc_in hp hn
  rw [hg p hp, hg _ hs, (h1 p hp).1, (h1 _ hs).2]
  exact h p hp
/-- a visit is cut out of its row -/
theorem shL_cut {S : ow_NP} {g : vT → Nat} {X Y : List vT} {r : vT} (hn : (X ++ r :: Y).Nodup) (hg : gin g (X ++ r :: Y)) (h : shL S g (X ++ r :: Y)) : shL (np_cut S (g r)) g (X ++ Y) := by
  intro p hp
  have hrm : r ∈ X ++ r :: Y := by simp
  have hpm : p ∈ X ++ r :: Y := by
    simp at hp ⊢
    grind
  have hpr : p ≠ r := fun e => by
    have := nd_mid hn
    rw [e] at hp
    rcases List.mem_append.mp hp with h9 | h9
    · exact this.1 h9
    · exact this.2 h9
  obtain ⟨q, hq, e⟩ := sc_pre hn hrm
  obtain ⟨r1, r2⟩ := h r hrm
  obtain ⟨q1, q2⟩ := h q hq
  obtain ⟨p1, p2⟩ := h p hpm
  have hs := sc_in hrm hn
  have hps := sc_in hpm hn
  rw [e] at q1 q2
  have hne : ¬ S.1 (g r) = g r := by
    rw [r1]
    intro h9
    have := sc_self hn hrm (hg _ _ hs hrm h9)
    rw [this] at hpm
    exact hpr (List.mem_singleton.mp hpm)
  rw [show np_cut S (g r) = nl S (S.2 (g r)) (S.1 (g r)) from if_neg hne, q2, r1, sc_out hn hp]
  by_cases c : sc (X ++ r :: Y) p = r
  · have hpq : p = q := sc_inj hn hpm hq (by rw [c, e])
    rw [if_pos c, nl_1, nl_2, hpq, if_pos rfl, if_pos rfl]
    exact ⟨rfl, rfl⟩
  · have hpq : p ≠ q := fun h9 => c (by rw [h9, e])
    rw [if_neg c, nl_1, nl_2, if_neg (fun h9 => hpq (hg _ _ hpm hq h9)), if_neg (fun h9 => hpr (sc_inj hn hpm hrm (hg _ _ hps hs h9)))]
    exact ⟨p1, p2⟩
/-- a visit comes behind another -/
theorem shL_put {S : ow_NP} {g : vT → Nat} {X Y : List vT} {p r : vT} (hn : (X ++ p :: r :: Y).Nodup) (hg : gin g (X ++ p :: r :: Y)) (h : shL S g (X ++ p :: Y)) : shL (np_putBehind S (g p) (g r)) g (X ++ p :: r :: Y) := by
  have hn2 : (X ++ p :: Y).Nodup := by
    have e : X ++ p :: r :: Y = (X ++ [p]) ++ r :: Y := by simp
    rw [e] at hn
    have := nd_rot hn
    have h3 := (List.nodup_cons.mp (show (r :: (Y ++ (X ++ [p]))).Nodup by simpa using this)).2
    simpa using nd_rot h3
  have hpm2 : p ∈ X ++ p :: Y := by simp
  obtain ⟨p1, p2⟩ := h p hpm2
  have hs := sc_in hpm2 hn2
  have sub : ∀ a, a ∈ X ++ p :: Y → a ∈ X ++ p :: r :: Y := fun a ha => by
    simp at ha ⊢
    grind
  have hrn : r ∉ X ++ p :: Y := by
    have := nd_mid (X := X ++ [p]) (p := r) (Y := Y) (by simpa using hn)
    simp at this ⊢
    grind
  have hrm : r ∈ X ++ p :: r :: Y := by simp
  have hpm : p ∈ X ++ p :: r :: Y := by simp
  have hrp : r ≠ p := fun e => hrn (by rw [e]; exact hpm2)
  have hsr : sc (X ++ p :: Y) p ≠ r := fun e => hrn (by rw [← e]; exact hs)
  intro q hq
  rw [sc_put hn hq, show np_putBehind S (g p) (g r) = nl (nl S (g p) (g r)) (g r) (S.1 (g p)) from rfl, p1]
  by_cases c1 : q = p
  · rw [if_pos c1, c1, nl_1, nl_2, if_neg (fun e => hrp (hg _ _ hrm hpm e.symm)), if_neg (fun e => hsr (hg _ _ (sub _ hs) hrm e.symm)), nl_1, nl_2, if_pos rfl, if_pos rfl]
    exact ⟨rfl, rfl⟩
  · rw [if_neg c1]
    by_cases c2 : q = r
    · rw [if_pos c2, c2, nl_1, nl_2, if_pos rfl, if_pos rfl]
      exact ⟨rfl, rfl⟩
    · rw [if_neg c2]
      have hq2 : q ∈ X ++ p :: Y := by
        simp at hq ⊢
        grind
      have hqs := sc_in hq2 hn2
      obtain ⟨q1, q2⟩ := h q hq2
      rw [nl_1, nl_2, if_neg (fun e => c2 (hg _ _ hq hrm e)), if_neg (fun e => c1 (sc_inj hn2 hq2 hpm2 (hg _ _ (sub _ hqs) (sub _ hs) e))), nl_1, nl_2, if_neg (fun e => c1 (hg _ _ hq hpm e)), if_neg (fun e => hrn (by rw [← hg _ _ (sub _ hqs) hrm e]; exact hqs))]
      exact ⟨q1, q2⟩
/-- what is behind two visits is exchanged: a row is parted -/
theorem ex_val {S : ow_NP} {v w k : Nat} (hne : v ≠ w) : (np_exchange S v w).1 k = (if k = w then S.1 v else if k = v then S.1 w else S.1 k) ∧ (np_exchange S v w).2 k = (if k = S.1 v then w else if k = S.1 w then v else S.2 k) := ⟨rfl, rfl⟩
theorem shL_part {S : ow_NP} {g : vT → Nat} {X Y : List vT} {v w : vT} (hn : ((X ++ [v]) ++ (Y ++ [w])).Nodup) (hg : gin g ((X ++ [v]) ++ (Y ++ [w]))) (h : shL S g ((X ++ [v]) ++ (Y ++ [w]))) : shL (np_exchange S (g v) (g w)) g (X ++ [v]) ∧ shL (np_exchange S (g v) (g w)) g (Y ++ [w]) := by
  have hvm : v ∈ (X ++ [v]) ++ (Y ++ [w]) := by simp
  have hwm : w ∈ (X ++ [v]) ++ (Y ++ [w]) := by simp
  have hvw : v ≠ w := fun e => (List.nodup_append.mp hn).2.2 v (by simp) w (by simp) e
  have hgn : g v ≠ g w := fun e => hvw (hg _ _ hvm hwm e)
  obtain ⟨v1, v2⟩ := h v hvm
  obtain ⟨w1, w2⟩ := h w hwm
  have sv := sc_in hvm hn
  have sw := sc_in hwm hn
  have key : ∀ p, p ∈ (X ++ [v]) ++ (Y ++ [w]) → ∀ s, s = (if p = v then sc ((X ++ [v]) ++ (Y ++ [w])) w else if p = w then sc ((X ++ [v]) ++ (Y ++ [w])) v else sc ((X ++ [v]) ++ (Y ++ [w])) p) → (np_exchange S (g v) (g w)).1 (g p) = g s ∧ (np_exchange S (g v) (g w)).2 (g s) = g p := by
    intro p hp s hs
    obtain ⟨p1, p2⟩ := h p hp
    have sp := sc_in hp hn
    rw [(ex_val hgn).1, (ex_val hgn).2, v1, w1]
    by_cases c1 : p = v
    · rw [if_pos c1] at hs
      rw [hs, c1, if_neg hgn, if_pos rfl, if_neg (fun e => hvw (sc_inj hn hvm hwm (hg _ _ sv sw e.symm))), if_pos rfl]
      exact ⟨rfl, rfl⟩
    · rw [if_neg c1] at hs
      by_cases c2 : p = w
      · rw [if_pos c2] at hs
        rw [hs, c2, if_pos rfl, if_pos rfl]
        exact ⟨rfl, rfl⟩
      · rw [if_neg c2] at hs
        rw [hs, if_neg (fun e => c2 (hg _ _ hp hwm e)), if_neg (fun e => c1 (hg _ _ hp hvm e)), if_neg (fun e => c1 (sc_inj hn hp hvm (hg _ _ sp sv e))), if_neg (fun e => c2 (sc_inj hn hp hwm (hg _ _ sp sw e)))]
        exact ⟨p1, p2⟩
  constructor
  · intro p hp
    refine key p (List.mem_append_left _ hp) _ ?_
    rw [sc_spl1 hn hp]
    by_cases c1 : p = v
    · rw [if_pos c1, if_pos c1]
    · rw [if_neg c1, if_neg c1, if_neg (fun e => (List.nodup_append.mp hn).2.2 p hp w (by simp) e)]
  · intro p hp
    refine key p (List.mem_append_right _ hp) _ ?_
    rw [sc_spl2 hn hp]
    have c1 : p ≠ v := fun e => (List.nodup_append.mp hn).2.2 v (by simp) p hp e.symm
    rw [if_neg c1]
/-- .. or two rows become one -/
theorem shL_merge {S : ow_NP} {g : vT → Nat} {X Y : List vT} {v w : vT} (hn : ((X ++ [v]) ++ (Y ++ [w])).Nodup) (hg : gin g ((X ++ [v]) ++ (Y ++ [w]))) (h1 : shL S g (X ++ [v])) (h2 : shL S g (Y ++ [w])) : shL (np_exchange S (g v) (g w)) g ((X ++ [v]) ++ (Y ++ [w])) := by
  have n1 := (List.nodup_append.mp hn).1
  have n2 := (List.nodup_append.mp hn).2.1
  have hvm : v ∈ X ++ [v] := by simp
  have hwm : w ∈ Y ++ [w] := by simp
  have hvw : v ≠ w := fun e => (List.nodup_append.mp hn).2.2 v hvm w hwm e
  have L1 : ∀ {a : vT}, a ∈ X ++ [v] → a ∈ (X ++ [v]) ++ (Y ++ [w]) := fun ha => List.mem_append_left _ ha
  have L2 : ∀ {a : vT}, a ∈ Y ++ [w] → a ∈ (X ++ [v]) ++ (Y ++ [w]) := fun ha => List.mem_append_right _ ha
  have hgn : g v ≠ g w := fun e => hvw (hg _ _ (L1 hvm) (L2 hwm) e)
  have dj : ∀ a b, a ∈ X ++ [v] → b ∈ Y ++ [w] → g a ≠ g b := fun a b ha hb e => (List.nodup_append.mp hn).2.2 a ha b hb (hg _ _ (L1 ha) (L2 hb) e)
  obtain ⟨v1, v2⟩ := h1 v hvm
  obtain ⟨w1, w2⟩ := h2 w hwm
  have sv := sc_in hvm n1
  have sw := sc_in hwm n2
  intro p hp
  rw [(ex_val hgn).1, (ex_val hgn).2, v1, w1]
  rcases List.mem_append.mp hp with hp1 | hp1
  · have e1 := sc_spl1 hn hp1
    by_cases c1 : p = v
    · rw [c1]
      have e2 := sc_spl2 hn hwm
      rw [if_pos rfl] at e2
      rw [← e2, if_neg hgn, if_pos rfl, if_neg (fun e => dj _ _ sv sw e.symm), if_pos rfl]
      exact ⟨rfl, rfl⟩
    · rw [if_neg c1] at e1
      have sp := sc_in hp1 n1
      obtain ⟨p1, p2⟩ := h1 p hp1
      rw [← e1, if_neg (dj _ _ hp1 hwm), if_neg (fun e => c1 (hg _ _ hp (L1 hvm) e)), if_neg (fun e => c1 (sc_inj n1 hp1 hvm (hg _ _ (L1 sp) (L1 sv) e))), if_neg (dj _ _ sp sw)]
      exact ⟨p1, p2⟩
  · have e1 := sc_spl2 hn hp1
    by_cases c1 : p = w
    · rw [c1]
      have e2 := sc_spl1 hn hvm
      rw [if_pos rfl] at e2
      rw [← e2, if_pos rfl, if_pos rfl]
      exact ⟨rfl, rfl⟩
    · rw [if_neg c1] at e1
      have sp := sc_in hp1 n2
      obtain ⟨p1, p2⟩ := h2 p hp1
      rw [← e1, if_neg (fun e => c1 (hg _ _ hp (L2 hwm) e)), if_neg (fun e => dj _ _ hvm hp1 e.symm), if_neg (fun e => dj _ _ sv sp e.symm), if_neg (fun e => c1 (sc_inj n2 hp1 hwm (hg _ _ (L2 sp) (L2 sw) e)))]
      exact ⟨p1, p2⟩
/-- rows turned -/
theorem shL_rot {S : ow_NP} {g : vT → Nat} {X Y : List vT} (hn : (X ++ Y).Nodup) (h : shL S g (X ++ Y)) : shL S g (Y ++ X) := by
  intro p hp
  have hp2 : p ∈ X ++ Y := by simpa [Or.comm] using hp
  rw [sc_rot hn hp2]
  exact h p hp2
/-- a visit gets another name -/
theorem shL_ren {S : ow_NP} {g : vT → Nat} {L : List vT} {r : vT} {n : Nat} (hn : L.Nodup) (hr : r ∈ L) (hg : gin g L) (hf : ∀ p, p ∈ L → g p ≠ n) (h : shL S g L) : shL (np_rename S (g r) n) (fun p => if p = r then n else g p) L := by
  obtain ⟨q, hq, e⟩ := sc_pre hn hr
  obtain ⟨r1, r2⟩ := h r hr
  obtain ⟨q1, q2⟩ := h q hq
  rw [e] at q1 q2
  have hs := sc_in hr hn
  intro p hp
  dsimp only
  by_cases hself : S.1 (g r) = g r
  · have hL := sc_self hn hr (hg _ _ hs hr (by rw [← r1]; exact hself))
    subst hL
    have := List.mem_singleton.mp hp
    subst this
    rw [show np_rename S (g p) n = nl S n n from if_pos hself, show sc [p] p = p from rfl, if_pos rfl, nl_1, nl_2, if_pos rfl, if_pos rfl]
    exact ⟨rfl, rfl⟩
  · have hsr : sc L r ≠ r := fun h9 => hself (by rw [r1, h9])
    have hqr : q ≠ r := fun h9 => by rw [h9] at e; exact hsr e
    have hk : (nl S (S.2 (g r)) n).1 (g r) = g (sc L r) := by
      rw [nl_1, q2, if_neg (fun h9 => hqr (hg _ _ hq hr h9.symm))]
      exact r1
    rw [show np_rename S (g r) n = nl (nl S (S.2 (g r)) n) n ((nl S (S.2 (g r)) n).1 (g r)) from if_neg hself, hk, q2]
    obtain ⟨p1, p2⟩ := h p hp
    have hps := sc_in hp hn
    by_cases c1 : p = r
    · rw [if_pos c1, c1, if_neg hsr, nl_1, nl_2, if_pos rfl, if_pos rfl]
      exact ⟨rfl, rfl⟩
    · rw [if_neg c1]
      by_cases c2 : sc L p = r
      · have hpq : p = q := sc_inj hn hp hq (by rw [c2, e])
        rw [if_pos c2, hpq, nl_1, nl_2, if_neg (hf q hq), if_neg (fun h9 => hf _ hs h9.symm), nl_1, nl_2, if_pos rfl, if_pos rfl]
        exact ⟨rfl, rfl⟩
      · have hpq : p ≠ q := fun h9 => c2 (by rw [h9, e])
        rw [if_neg c2, nl_1, nl_2, if_neg (hf p hp), if_neg (fun h9 => c1 (sc_inj hn hp hr (hg _ _ hps hs h9))), nl_1, nl_2, if_neg (fun h9 => hpq (hg _ _ hp hq h9)), if_neg (hf _ hps)]
        exact ⟨p1, p2⟩
