section
/-! 99zzzzzzze.cop -/
/-! nets by their components: what changes a net changes its rows -/
def shL (S : ow_NP) (g : vT → Nat) (L : List vT) : Prop := ∀ p, p ∈ L → S.1 (g p) = g (sc L p) ∧ S.2 (g (sc L p)) = g p
def shP (S : ow_NP) (g : vT → Nat) (A : rn_L) : Prop := ∀ L, L ∈ A → shL S g L
def gin (g : vT → Nat) (F : List vT) : Prop := ∀ p q, p ∈ F → q ∈ F → g p = g q → p = q
theorem sc_pre {L : List vT} {r : vT} (hn : L.Nodup) (hr : r ∈ L) : ∃ q, q ∈ L ∧ sc L q = r := by
  have h1 : L.reverse.Nodup := List.pairwise_reverse.mpr (hn.imp (fun h9 e => h9 e.symm))
  have h2 := sc_rev h1 (List.mem_reverse.mpr hr)
  rw [List.reverse_reverse] at h2
  exact ⟨sc L.reverse r, List.mem_reverse.mp (sc_in (List.mem_reverse.mpr hr) h1), h2⟩
theorem sc_self {L : List vT} {r : vT} (hn : L.Nodup) (hr : r ∈ L) (e : sc L r = r) : L = [r] := by
  obtain ⟨X, Y, rfl⟩ := List.append_of_mem hr
  have h1 := nd_mid hn
  rw [sc_hd h1.1] at e
  cases Y with
  | cons q Y =>
    have e : q = r := e
    exact absurd (by rw [e]; exact List.mem_cons_self) h1.2
  | nil =>
    cases X with
    | nil => rfl
    | cons a X =>
      have e : a = r := e
      exact absurd (by rw [e]; exact List.mem_cons_self) h1.1
theorem shL_k {S S' : ow_NP} {g g' : vT → Nat} {L : List vT} (hn : L.Nodup) (hg : ∀ p, p ∈ L → g' p = g p) (h1 : ∀ p, p ∈ L → S'.1 (g p) = S.1 (g p) ∧ S'.2 (g p) = S.2 (g p)) (h : shL S g L) : shL S' g' L := by
  intro p hp
  have hs := sc_in hp hn
  rw [hg p hp, hg _ hs, (h1 p hp).1, (h1 _ hs).2]
  exact h p hp
/-- a visit is cut out of its row -/
theorem shL_cut {S : ow_NP} {g : vT → Nat} {X Y : List vT} {r : vT} (hn : (X ++ r :: Y).Nodup) (hg : gin g (X ++ r :: Y)) (h : shL S g (X ++ r :: Y)) : shL (np_cut S (g r)) g (X ++ Y) := by
  intro p hp
  have hrm : r ∈ X ++ r :: Y := by simp
  have hpm : p ∈ X ++ r :: Y := by
    simp at hp ⊢
    grind
  have hpr : p ≠ r := fun e => by
    have := nd_mid hn
    rw [e] at hp
    rcases List.mem_append.mp hp with h9 | h9
    · exact this.1 h9
    · exact this.2 h9
  obtain ⟨q, hq, e⟩ := sc_pre hn hrm
  obtain ⟨r1, r2⟩ := h r hrm
  obtain ⟨q1, q2⟩ := h q hq
  obtain ⟨p1, p2⟩ := h p hpm
  have hs := sc_in hrm hn
  have hps := sc_in hpm hn
  rw [e] at q1 q2
  have hne : ¬ S.1 (g r) = g r := by
    rw [r1]
    intro h9
    have := sc_self hn hrm (hg _ _ hs hrm h9)
    rw [this] at hpm
    exact hpr (List.mem_singleton.mp hpm)
  rw [show np_cut S (g r) = nl S (S.2 (g r)) (S.1 (g r)) from if_neg hne, q2, r1, sc_out hn hp]
  by_cases c : sc (X ++ r :: Y) p = r
  · have hpq : p = q := sc_inj hn hpm hq (by rw [c, e])
    rw [if_pos c, nl_1, nl_2, hpq, if_pos rfl, if_pos rfl]
    exact ⟨rfl, rfl⟩
  · have hpq : p ≠ q := fun h9 => c (by rw [h9, e])
    rw [if_neg c, nl_1, nl_2, if_neg (fun h9 => hpq (hg _ _ hpm hq h9)), if_neg (fun h9 => hpr (sc_inj hn hpm hrm (hg _ _ hps hs h9)))]
    exact ⟨p1, p2⟩
/-- a visit comes behind another -/
theorem shL_put {S : ow_NP} {g : vT → Nat} {X Y : List vT} {p r : vT} (hn : (X ++ p :: r :: Y).Nodup) (hg : gin g (X ++ p :: r :: Y)) (h : shL S g (X ++ p :: Y)) : shL (np_putBehind S (g p) (g r)) g (X ++ p :: r :: Y) := by
  have hn2 : (X ++ p :: Y).Nodup := by
    have e : X ++ p :: r :: Y = (X ++ [p]) ++ r :: Y := by simp
    rw [e] at hn
    have := nd_rot hn
    have h3 := (List.nodup_cons.mp (show (r :: (Y ++ (X ++ [p]))).Nodup by simpa using this)).2
    simpa using nd_rot h3
  have hpm2 : p ∈ X ++ p :: Y := by simp
  obtain ⟨p1, p2⟩ := h p hpm2
  have hs := sc_in hpm2 hn2
  have sub : ∀ a, a ∈ X ++ p :: Y → a ∈ X ++ p :: r :: Y := fun a ha => by
    simp at ha ⊢
    grind
  have hrn : r ∉ X ++ p :: Y := by
    have := nd_mid (X := X ++ [p]) (p := r) (Y := Y) (by simpa using hn)
    simp at this ⊢
    grind
  have hrm : r ∈ X ++ p :: r :: Y := by simp
  have hpm : p ∈ X ++ p :: r :: Y := by simp
  have hrp : r ≠ p := fun e => hrn (by rw [e]; exact hpm2)
  have hsr : sc (X ++ p :: Y) p ≠ r := fun e => hrn (by rw [← e]; exact hs)
  intro q hq
  rw [sc_put hn hq, show np_putBehind S (g p) (g r) = nl (nl S (g p) (g r)) (g r) (S.1 (g p)) from rfl, p1]
  by_cases c1 : q = p
  · rw [if_pos c1, c1, nl_1, nl_2, if_neg (fun e => hrp (hg _ _ hrm hpm e.symm)), if_neg (fun e => hsr (hg _ _ (sub _ hs) hrm e.symm)), nl_1, nl_2, if_pos rfl, if_pos rfl]
    exact ⟨rfl, rfl⟩
  · rw [if_neg c1]
    by_cases c2 : q = r
    · rw [if_pos c2, c2, nl_1, nl_2, if_pos rfl, if_pos rfl]
      exact ⟨rfl, rfl⟩
    · rw [if_neg c2]
      have hq2 : q ∈ X ++ p :: Y := by
        simp at hq ⊢
        grind
      have hqs := sc_in hq2 hn2
      obtain ⟨q1, q2⟩ := h q hq2
      rw [nl_1, nl_2, if_neg (fun e => c2 (hg _ _ hq hrm e)), if_neg (fun e => c1 (sc_inj hn2 hq2 hpm2 (hg _ _ (sub _ hqs) (sub _ hs) e))), nl_1, nl_2, if_neg (fun e => c1 (hg _ _ hq hpm e)), if_neg (fun e => hrn (by rw [← hg _ _ (sub _ hqs) hrm e]; exact hqs))]
      exact ⟨q1, q2⟩
/-- a visit gets another name -/
theorem shL_ren {S : ow_NP} {g : vT → Nat} {L : List vT} {r : vT} {n : Nat} (hn : L.Nodup) (hr : r ∈ L) (hg : gin g L) (hf : ∀ p, p ∈ L → g p ≠ n) (h : shL S g L) : shL (np_rename S (g r) n) (fun p => if p = r then n else g p) L := by
  obtain ⟨q, hq, e⟩ := sc_pre hn hr
  obtain ⟨r1, r2⟩ := h r hr
  obtain ⟨q1, q2⟩ := h q hq
  rw [e] at q1 q2
  have hs := sc_in hr hn
  intro p hp
  dsimp only
  by_cases hself : S.1 (g r) = g r
  · have hL := sc_self hn hr (hg _ _ hs hr (by rw [← r1]; exact hself))
    subst hL
    have := List.mem_singleton.mp hp
    subst this
    rw [show np_rename S (g p) n = nl S n n from if_pos hself, show sc [p] p = p from rfl, if_pos rfl, nl_1, nl_2, if_pos rfl, if_pos rfl]
    exact ⟨rfl, rfl⟩
  · have hsr : sc L r ≠ r := fun h9 => hself (by rw [r1, h9])
    have hqr : q ≠ r := fun h9 => by rw [h9] at e; exact hsr e
    have hk : (nl S (S.2 (g r)) n).1 (g r) = g (sc L r) := by
      rw [nl_1, q2, if_neg (fun h9 => hqr (hg _ _ hq hr h9.symm))]
      exact r1
    rw [show np_rename S (g r) n = nl (nl S (S.2 (g r)) n) n ((nl S (S.2 (g r)) n).1 (g r)) from if_neg hself, hk, q2]
    obtain ⟨p1, p2⟩ := h p hp
    have hps := sc_in hp hn
    by_cases c1 : p = r
    · rw [if_pos c1, c1, if_neg hsr, nl_1, nl_2, if_pos rfl, if_pos rfl]
      exact ⟨rfl, rfl⟩
    · rw [if_neg c1]
      by_cases c2 : sc L p = r
      · have hpq : p = q := sc_inj hn hp hq (by rw [c2, e])
        rw [if_pos c2, hpq, nl_1, nl_2, if_neg (hf q hq), if_neg (fun h9 => hf _ hs h9.symm), nl_1, nl_2, if_pos rfl, if_pos rfl]
        exact ⟨rfl, rfl⟩
      · have hpq : p ≠ q := fun h9 => c2 (by rw [h9, e])
        rw [if_neg c2, nl_1, nl_2, if_neg (hf p hp), if_neg (fun h9 => c1 (sc_inj hn hp hr (hg _ _ hps hs h9))), nl_1, nl_2, if_neg (fun h9 => hpq (hg _ _ hp hq h9)), if_neg (hf _ hps)]
        exact ⟨p1, p2⟩
end
section
/-! 99zzzzzzzf.cop2 -/
/-! nets by their components: whole nets -/
def rmv (A : rn_L) (r : vT) : rn_L := A.map (List.filter (fun p => decide (p ≠ r)))
theorem rmv_fl {A : rn_L} {r : vT} : (rmv A r).flatten = A.flatten.filter (fun p => decide (p ≠ r)) := (List.filter_flatten).symm
theorem rmv_mem {A : rn_L} {r p : vT} : p ∈ (rmv A r).flatten ↔ p ∈ A.flatten ∧ p ≠ r := by
  rw [rmv_fl, List.mem_filter, decide_eq_true_iff]
theorem rmv_nd {A : rn_L} {r : vT} (h : A.flatten.Nodup) : (rmv A r).flatten.Nodup := by
  rw [rmv_fl]
  exact h.filter _
theorem fil_1 {F : List vT} {r : vT} (hn : F.Nodup) (hr : r ∈ F) : (F.filter (fun p => decide (p ≠ r))).length + 1 = F.length := by
  have h1 := filt_sum (fun p : vT => decide (p ≠ r)) F
  have h2 : (F.filter (fun p => !decide (p ≠ r))).length = 1 := by
    refine nodup_eq (l2 := [r]) (hn.filter _) (List.pairwise_singleton _ _) (fun a => ?_)
    rw [List.mem_filter, List.mem_singleton]
    constructor
    · rintro ⟨-, h⟩
      simpa using h
    · rintro rfl
      exact ⟨hr, by simp⟩
  omega
theorem fil_n {L : List vT} {r : vT} (h : r ∉ L) : L.filter (fun p => decide (p ≠ r)) = L := by
  rw [List.filter_eq_self]
  intro a ha
  exact decide_eq_true (fun e => h (by rw [← e]; exact ha))
theorem fil_m {X Y : List vT} {r : vT} (h : (X ++ r :: Y).Nodup) : (X ++ r :: Y).filter (fun p => decide (p ≠ r)) = X ++ Y := by
  obtain ⟨h1, h2⟩ := nd_mid h
  rw [List.filter_append, List.filter_cons_of_neg (by simp), fil_n h1, fil_n h2]
theorem L_nd {A : rn_L} (hn : A.flatten.Nodup) {L : List vT} (hL : L ∈ A) : L.Nodup := by
  induction A with
  | nil => cases hL
  | cons B A ih =>
    rw [List.flatten_cons] at hn
    have hd := List.nodup_append.mp hn
    rcases List.mem_cons.mp hL with e | h
    · rw [e]
      exact hd.1
    · exact ih hd.2.1 h
theorem gin_L {g : vT → Nat} {A : rn_L} (hg : gin g A.flatten) {L : List vT} (hL : L ∈ A) : gin g L := fun p q hp hq => hg p q (List.mem_flatten.mpr ⟨L, hL, hp⟩) (List.mem_flatten.mpr ⟨L, hL, hq⟩)
section OP
variable {S : ow_NP} {g : vT → Nat} {A : rn_L} {r : vT}
theorem cirs_rmv (hn : A.flatten.Nodup) {L : List vT} (hL : L ∈ A) (hr : r ∈ L) : cirs (rmv A r) = cirs A + if L = [r] then 1 else 0 := by
  induction A with
  | nil => cases hL
  | cons B A ih =>
    rw [List.flatten_cons] at hn
    have hd := List.nodup_append.mp hn
    show List.countP _ (_ :: _) = _
    unfold cirs
    rw [List.countP_cons, List.countP_cons]
    by_cases e : r ∈ B
    · have eL : L = B := one_L (A := B :: A) (by rw [List.flatten_cons]; exact hn) hL List.mem_cons_self hr e
      subst eL
      have rest : A.map (List.filter (fun p => decide (p ≠ r))) = A := by
        refine (List.map_congr_left (fun K hK => fil_n (fun h9 => ?_))).trans (List.map_id _)
        exact hd.2.2 r hr r (List.mem_flatten.mpr ⟨K, hK, h9⟩) rfl
      rw [rest]
      obtain ⟨X, Y, rfl⟩ := List.append_of_mem hr
      rw [fil_m hd.1]
      cases X with
      | nil =>
        cases Y with
        | nil => simp
        | cons b Y => simp
      | cons a X => simp
    · have eL : L ∈ A := (List.mem_cons.mp hL).resolve_left (fun h9 => e (by rw [← h9]; exact hr))
      have := ih hd.2.1 eL
      unfold cirs at this
      rw [fil_n e]
      show List.countP _ (rmv A r) + _ = _
      rw [this]
      omega
/-- a visit is cut out of a net -/
theorem shP_cut (hn : A.flatten.Nodup) (hg : gin g A.flatten) (h : shP S g A) (hr : r ∈ A.flatten) : shP (np_cut S (g r)) g (rmv A r) ∧ cirs (rmv A r) = np_cutN S (g r) (cirs A) := by
  obtain ⟨L, hL, hrL⟩ := List.mem_flatten.mp hr
  have nL := L_nd hn hL
  have gL := gin_L hg hL
  obtain ⟨q, hq, e⟩ := sc_pre nL hrL
  obtain ⟨r1, r2⟩ := h L hL r hrL
  obtain ⟨q1, q2⟩ := h L hL q hq
  rw [e] at q1 q2
  have hs := sc_in hrL nL
  constructor
  · intro K hK
    obtain ⟨M, hM, rfl⟩ := List.mem_map.mp hK
    by_cases c : r ∈ M
    · have eM := one_L hn hM hL c hrL
      subst eM
      obtain ⟨X, Y, rfl⟩ := List.append_of_mem hrL
      rw [fil_m nL]
      exact shL_cut nL gL (h _ hL)
    · rw [fil_n c]
      have far : ∀ p a, p ∈ M → a ∈ L → g p ≠ g a := fun p a hp ha e9 => by
        have := hg p a (List.mem_flatten.mpr ⟨M, hM, hp⟩) (List.mem_flatten.mpr ⟨L, hL, ha⟩) e9
        rw [this] at hp
        exact c (by rw [one_L hn hM hL hp ha]; exact hrL)
      refine shL_k (L_nd hn hM) (fun p _ => rfl) (fun p hp => ?_) (h M hM)
      by_cases hself : S.1 (g r) = g r
      · rw [show np_cut S (g r) = S from if_pos hself]
        exact ⟨rfl, rfl⟩
      · rw [show np_cut S (g r) = nl S (S.2 (g r)) (S.1 (g r)) from if_neg hself, nl_1, nl_2, q2, r1, if_neg (far p q hp hq), if_neg (far p _ hp hs)]
        exact ⟨rfl, rfl⟩
  · rw [cirs_rmv hn hL hrL]
    unfold np_cutN
    by_cases c : L = [r]
    · subst c
      rw [if_pos rfl, if_pos (by rw [r1]; rfl)]
    · rw [if_neg c, if_neg (fun h9 => c (sc_self nL hrL (gL _ _ hs hrL (by rw [← r1]; exact h9))))]
      rfl
/-- a visit gets another name -/
theorem shP_ren {n : Nat} (hn : A.flatten.Nodup) (hg : gin g A.flatten) (hf : ∀ p, p ∈ A.flatten → g p ≠ n) (h : shP S g A) (hr : r ∈ A.flatten) : shP (np_rename S (g r) n) (fun p => if p = r then n else g p) A := by
  obtain ⟨L, hL, hrL⟩ := List.mem_flatten.mp hr
  have nL := L_nd hn hL
  have gL := gin_L hg hL
  obtain ⟨q, hq, e⟩ := sc_pre nL hrL
  obtain ⟨r1, r2⟩ := h L hL r hrL
  obtain ⟨q1, q2⟩ := h L hL q hq
  rw [e] at q1 q2
  have hs := sc_in hrL nL
  intro M hM
  by_cases c : r ∈ M
  · have eM := one_L hn hM hL c hrL
    subst eM
    exact shL_ren nL hrL gL (fun p hp => hf p (List.mem_flatten.mpr ⟨M, hM, hp⟩)) (h M hM)
  · have far : ∀ p a, p ∈ M → a ∈ L → g p ≠ g a := fun p a hp ha e9 => by
      have := hg p a (List.mem_flatten.mpr ⟨M, hM, hp⟩) (List.mem_flatten.mpr ⟨L, hL, ha⟩) e9
      rw [this] at hp
      exact c (by rw [one_L hn hM hL hp ha]; exact hrL)
    refine shL_k (L_nd hn hM) (fun p hp => if_neg (fun e9 => c (by rw [← e9]; exact hp))) (fun p hp => ?_) (h M hM)
    have fp := hf p (List.mem_flatten.mpr ⟨M, hM, hp⟩)
    by_cases hself : S.1 (g r) = g r
    · rw [show np_rename S (g r) n = nl S n n from if_pos hself, nl_1, nl_2, if_neg fp, if_neg fp]
      exact ⟨rfl, rfl⟩
    · have hk : (nl S (S.2 (g r)) n).1 (g r) = g (sc L r) := by
        have hqr : q ≠ r := fun h9 => hself (by rw [← h9, q1, h9])
        rw [nl_1, q2, if_neg (fun h9 => hqr (gL _ _ hq hrL h9.symm))]
        exact r1
      rw [show np_rename S (g r) n = nl (nl S (S.2 (g r)) n) n ((nl S (S.2 (g r)) n).1 (g r)) from if_neg hself, hk, q2, nl_1, nl_2, if_neg fp, if_neg (far p _ hp hs), nl_1, nl_2, if_neg (far p q hp hq), if_neg fp]
      exact ⟨rfl, rfl⟩
end OP
/-- a net and the components that it shows, with both links -/
def isoV (A : rn_L) (sg : Nat → Bool) (f : Nat → Nat) (T : ow_NT) : Prop := isoS A sg f T ∧ shP T.2.2.1 (gl f) A
theorem gl_gin {A : rn_L} {sg : Nat → Bool} {f : Nat → Nat} {T : ow_NT} (h : isoS A sg f T) : gin (gl f) A.flatten := by
  intro p q hp hq e
  have h1 := (h.1.2 p hp).2.1
  have h2 := (h.1.2 q hq).2.1
  unfold gl at e
  have e1 : f p.1 = f q.1 := by omega
  exact Prod.ext (h.2.2.2.2.1 p q hp hq e1) (by omega)
theorem isoV_of {A : rn_L} {sg : Nat → Bool} {f : Nat → Nat} {T : ow_NT} (h : isoN A sg f T) (hv : vn T.1 T.2.2.1) : isoV A sg f T := by
  have hs := isoS_iff.mpr h
  refine ⟨hs, fun L hL p hp => ?_⟩
  have hpf : p ∈ A.flatten := List.mem_flatten.mpr ⟨L, hL, hp⟩
  have e := hs.2.2.2.2.2.1 L hL p hp
  refine ⟨e, ?_⟩
  rw [← e]
  have h1 := hs.2.2.2.1 p hpf
  have h2 := (hs.1.2 p hpf).2.1
  refine (hv (gl f p) ?_).2.2.1
  unfold gl
  omega
theorem isoV_vn {A : rn_L} {sg : Nat → Bool} {f : Nat → Nat} {T : ow_NT} (h : isoV A sg f T) : vn T.1 T.2.2.1 := by
  have hN := isoS_iff.mp h.1
  intro k hk
  obtain ⟨v, hv, e⟩ := lbv_sur hN hk
  have hm := vAt_mem hv
  obtain ⟨L, hL, hp⟩ := List.mem_flatten.mp hm
  have nL := L_nd h.1.1.1 hL
  have lt : ∀ p, p ∈ L → gl f p < 2 * T.1 := fun p hp => by
    have hpf : p ∈ A.flatten := List.mem_flatten.mpr ⟨L, hL, hp⟩
    have h1 := h.1.2.2.2.1 p hpf
    have h2 := (h.1.1.2 p hpf).2.1
    unfold gl
    omega
  have e' : gl f (vAt A v) = k := e
  obtain ⟨a1, a2⟩ := h.2 L hL _ hp
  obtain ⟨q, hq, e2⟩ := sc_pre nL hp
  obtain ⟨b1, b2⟩ := h.2 L hL q hq
  rw [e2] at b1 b2
  rw [← e']
  refine ⟨?_, ?_, ?_, ?_⟩
  · rw [a1]
    exact lt _ (sc_in hp nL)
  · rw [b2]
    exact lt _ hq
  · rw [a1, a2]
  · rw [b2, b1]
/-- a crossing goes out of the components -/
def wox (A : rn_L) (x : Nat) : rn_L := rmv (rmv A (x, 0)) (x, 1)
theorem wox_mem {A : rn_L} {x : Nat} {p : vT} (h : ∀ p, p ∈ A.flatten → p.2 < 2) : p ∈ (wox A x).flatten ↔ p ∈ A.flatten ∧ p.1 ≠ x := by
  unfold wox
  rw [rmv_mem, rmv_mem]
  constructor
  · rintro ⟨⟨h1, h2⟩, h3⟩
    refine ⟨h1, fun e => ?_⟩
    have := h p h1
    have : p.2 = 0 ∨ p.2 = 1 := by omega
    rcases this with h4 | h4
    · exact h2 (Prod.ext e h4)
    · exact h3 (Prod.ext e h4)
  · rintro ⟨h1, h2⟩
    exact ⟨⟨h1, fun e => h2 (by rw [e])⟩, fun e => h2 (by rw [e])⟩
theorem iso_rm {A : rn_L} {sg : Nat → Bool} {f : Nat → Nat} {T : ow_NT} {x0 : Nat} (h : isoV A sg f T) (hx : (x0, 0) ∈ A.flatten) : ∃ f', isoV (wox A x0) sg f' (nt_rm T (f x0)) ∧ ∀ y, f' y = if f y = T.1 - 1 then f x0 else f y := by
  obtain ⟨⟨h1, h2, h3, h4, h5, h6, h7, h8⟩, hP⟩ := id h
  have hg := gl_gin h.1
  have hx1 : (x0, 1) ∈ A.flatten := (h1.2 _ hx).2.2
  have hxc : f x0 < T.1 := h4 _ hx
  have hu : ∀ p, p ∈ A.flatten → p.2 < 2 := fun p hp => (h1.2 p hp).2.1
  obtain ⟨p1, c1⟩ := shP_cut h1.1 hg hP hx
  have n1 := rmv_nd (r := (x0, 0)) h1.1
  have g1 : gin (gl f) (rmv A (x0, 0)).flatten := fun p q hp hq => hg p q (rmv_mem.mp hp).1 (rmv_mem.mp hq).1
  have hx1' : (x0, 1) ∈ (rmv A (x0, 0)).flatten := rmv_mem.mpr ⟨hx1, fun e => by cases e⟩
  obtain ⟨p2, c2⟩ := shP_cut n1 g1 p1 hx1'
  have n2 : (wox A x0).flatten.Nodup := rmv_nd n1
  have g2 : gin (gl f) (wox A x0).flatten := fun p q hp hq => g1 p q (rmv_mem.mp hp).1 (rmv_mem.mp hq).1
  have e0 : gl f (x0, 0) = 2 * f x0 := rfl
  have e1 : gl f (x0, 1) = 2 * f x0 + 1 := rfl
  rw [e0] at p1 c1 p2 c2
  rw [e1] at p2 c2
  have hmem : ∀ p, p ∈ (wox A x0).flatten ↔ p ∈ A.flatten ∧ p.1 ≠ x0 := fun p => wox_mem hu
  have hci : cirs (wox A x0) = np_rmN T.2.2.1 (f x0) T.2.1 := by
    show cirs (rmv (rmv A (x0, 0)) (x0, 1)) = _
    rw [c2, c1, h8]
    rfl
  have hlen : (wox A x0).flatten.length + 2 = 2 * T.1 := by
    have l1 := fil_1 h1.1 hx
    have l2 := fil_1 n1 hx1'
    rw [← rmv_fl] at l1 l2
    have : (wox A x0).flatten.length = (rmv (rmv A (x0, 0)) (x0, 1)).flatten.length := rfl
    omega
  have hwk : wkF (wox A x0).flatten := by
    refine ⟨n2, fun p hp => ?_⟩
    obtain ⟨a, b⟩ := (hmem p).mp hp
    obtain ⟨k1, k2, k3⟩ := h1.2 p a
    exact ⟨k1, k2, (hmem _).mpr ⟨k3, b⟩⟩
  have hfx : ∀ p, p ∈ (wox A x0).flatten → f p.1 ≠ f x0 := fun p hp e => ((hmem p).mp hp).2 (h5 p (x0, 0) ((hmem p).mp hp).1 hx e)
  refine ⟨fun y => if f y = T.1 - 1 then f x0 else f y, ?_, fun y => rfl⟩
  have hf' : ∀ p, p ∈ (wox A x0).flatten → (if f p.1 = T.1 - 1 then f x0 else f p.1) < T.1 - 1 := by
    intro p hp
    have a := h4 p ((hmem p).mp hp).1
    have b := hfx p hp
    split <;> omega
  have hinj : ∀ p q, p ∈ (wox A x0).flatten → q ∈ (wox A x0).flatten → (if f p.1 = T.1 - 1 then f x0 else f p.1) = (if f q.1 = T.1 - 1 then f x0 else f q.1) → p.1 = q.1 := by
    intro p q hp hq e
    have a := hfx p hp
    have b := hfx q hq
    refine h5 p q ((hmem p).mp hp).1 ((hmem q).mp hq).1 ?_
    split at e <;> split at e <;> omega
  have hsg : ∀ p, p ∈ (wox A x0).flatten → (np_rmG T.2.2.2 (f x0) (T.1 - 1) (if f p.1 = T.1 - 1 then f x0 else f p.1) < 0 ↔ sg p.1 = true) := by
    intro p hp
    have a := hfx p hp
    rw [← h7 p ((hmem p).mp hp).1]
    unfold np_rmG
    by_cases cx : f x0 = T.1 - 1
    · rw [if_pos cx, if_neg (fun e => a (by rw [e, cx]))]
    · rw [if_neg cx]
      by_cases cp : f p.1 = T.1 - 1
      · rw [if_pos cp, cp, show su T.2.2.2 (f x0) (T.2.2.2 (T.1 - 1)) (f x0) = T.2.2.2 (T.1 - 1) from if_pos rfl]
      · rw [if_neg cp, show su T.2.2.2 (f x0) (T.2.2.2 (T.1 - 1)) (f p.1) = T.2.2.2 (f p.1) from if_neg a]
  have main : shP (np_rmS T.2.2.1 (f x0) (T.1 - 1)) (gl (fun y => if f y = T.1 - 1 then f x0 else f y)) (wox A x0) := by
    unfold np_rmS
    by_cases cx : f x0 = T.1 - 1
    · rw [if_pos cx]
      intro L hL
      refine shL_k (g := gl f) (L_nd n2 hL) (fun p hp => ?_) (fun p hp => ⟨rfl, rfl⟩) (p2 L hL)
      have := hfx p (List.mem_flatten.mpr ⟨L, hL, hp⟩)
      unfold gl
      dsimp only
      rw [if_neg (fun e => this (by rw [e, cx]))]
    · rw [if_neg cx]
      have hN := isoS_iff.mp h.1
      obtain ⟨v, hv, ev⟩ := lbv_sur hN (k := 2 * (T.1 - 1)) (by omega)
      have hm := vAt_mem hv
      have hu0 := hu _ hm
      have ev' : 2 * f (vAt A v).1 + (vAt A v).2 = 2 * (T.1 - 1) := ev
      generalize hy : vAt A v = y at *
      obtain ⟨y0, yu⟩ := y
      dsimp only at hu0 ev'
      have hyu : yu = 0 := by omega
      subst hyu
      have hfy : f y0 = T.1 - 1 := by omega
      have hyx : y0 ≠ x0 := fun e => cx (by rw [← e]; exact hfy)
      have m0 : (y0, 0) ∈ (wox A x0).flatten := (hmem _).mpr ⟨hm, hyx⟩
      have m1 : (y0, 1) ∈ (wox A x0).flatten := (hmem _).mpr ⟨(h1.2 _ hm).2.2, hyx⟩
      have k0 : gl f (y0, 0) = 2 * (T.1 - 1) := by
        unfold gl
        dsimp only
        omega
      have r1 := shP_ren (n := 2 * f x0) n2 g2 (fun p hp e => hfx p hp (by
        have := hu p ((hmem p).mp hp).1
        unfold gl at e
        omega)) p2 m0
      rw [k0] at r1
      have g3 : gin (fun p => if p = (y0, 0) then 2 * f x0 else gl f p) (wox A x0).flatten := by
        intro p q hp hq e
        dsimp only at e
        have ap := hfx p hp
        have aq := hfx q hq
        have up := hu p ((hmem p).mp hp).1
        have uq := hu q ((hmem q).mp hq).1
        by_cases cp : p = (y0, 0)
        · by_cases cq : q = (y0, 0)
          · rw [cp, cq]
          · rw [if_pos cp, if_neg cq] at e
            unfold gl at e
            omega
        · by_cases cq : q = (y0, 0)
          · rw [if_neg cp, if_pos cq] at e
            unfold gl at e
            omega
          · rw [if_neg cp, if_neg cq] at e
            exact g2 p q hp hq e
      have k1 : (if ((y0, 1) : vT) = (y0, 0) then 2 * f x0 else gl f (y0, 1)) = 2 * (T.1 - 1) + 1 := by
        rw [if_neg (fun e => by cases e)]
        unfold gl
        dsimp only
        omega
      have r2 := shP_ren (n := 2 * f x0 + 1) n2 g3 (fun p hp e => by
        have ap := hfx p hp
        have up := hu p ((hmem p).mp hp).1
        by_cases cp : p = (y0, 0)
        · rw [if_pos cp] at e
          omega
        · rw [if_neg cp] at e
          unfold gl at e
          omega) r1 m1
      rw [k1] at r2
      intro L hL
      refine shL_k (L_nd n2 hL) (fun p hp => ?_) (fun p hp => ⟨rfl, rfl⟩) (r2 L hL)
      have hpf : p ∈ (wox A x0).flatten := List.mem_flatten.mpr ⟨L, hL, hp⟩
      have up := hu p ((hmem p).mp hpf).1
      by_cases cy : p.1 = y0
      · have c01 : p.2 = 0 ∨ p.2 = 1 := by omega
        rcases c01 with c0 | c0
        · have ep : p = (y0, 0) := Prod.ext cy c0
          rw [ep]
          unfold gl
          dsimp only
          rw [if_pos hfy, if_neg (fun e => by cases e), if_pos rfl]
          rfl
        · have ep : p = (y0, 1) := Prod.ext cy c0
          rw [ep]
          unfold gl
          dsimp only
          rw [if_pos hfy, if_pos rfl]
      · rw [if_neg (fun e => cy (by rw [e])), if_neg (fun e => cy (by rw [e]))]
        unfold gl
        dsimp only
        rw [if_neg (fun e => cy (h5 p (y0, 0) ((hmem p).mp hpf).1 hm (by rw [e]; exact hfy.symm)))]
  exact ⟨⟨hwk, by show _ = 2 * (T.1 - 1); omega, by show T.1 - 1 ≤ 12; omega, hf', hinj, fun L hL p hp => (main L hL p hp).1, hsg, hci⟩, main⟩
end
section
/-! 99zzzzzzzg.cprt2 -/
/-! parts of a net: how many come when a crossing goes -/
def cidx (A : rn_L) (p : vT) : Nat := A.findIdx (fun L => decide (p ∈ L))
def pLe (A : rn_L) (k : Nat) : Prop := ∀ M : Nat → Nat, (∀ x, (x, 0) ∈ A.flatten → M (cidx A (x, 0)) = M (cidx A (x, 1))) → dLe A.length M k
theorem cidx_at {A : rn_L} {p : vT} (h : p ∈ A.flatten) : ∃ hj : cidx A p < A.length, p ∈ A[cidx A p] := by
  obtain ⟨L, hL, hp⟩ := List.mem_flatten.mp h
  have hj : cidx A p < A.length := List.findIdx_lt_length_of_exists ⟨L, hL, decide_eq_true hp⟩
  exact ⟨hj, of_decide_eq_true (List.findIdx_getElem (w := hj))⟩
theorem cidx_of {A : rn_L} (hn : A.flatten.Nodup) {p : vT} {j : Nat} (hj : j < A.length) (hp : p ∈ A[j]) : cidx A p = j := by
  induction A generalizing j with
  | nil => exact absurd hj (Nat.not_lt_zero _)
  | cons B A ih =>
    rw [List.flatten_cons] at hn
    have hd := List.nodup_append.mp hn
    unfold cidx
    rw [List.findIdx_cons]
    cases j with
    | zero =>
      have hp : p ∈ B := hp
      rw [decide_eq_true hp]
      rfl
    | succ j =>
      have hj' : j < A.length := Nat.lt_of_succ_lt_succ hj
      have hp' : p ∈ A[j] := hp
      have hnB : p ∉ B := fun h9 => hd.2.2 p h9 p (List.mem_flatten.mpr ⟨A[j], List.getElem_mem hj', hp'⟩) rfl
      rw [decide_eq_false hnB]
      have := ih hd.2.1 hj' hp'
      unfold cidx at this
      rw [this]
      rfl
theorem wox_len {A : rn_L} {x : Nat} : (wox A x).length = A.length := by
  unfold wox rmv
  rw [List.length_map, List.length_map]
theorem wox_idx {A : rn_L} {x : Nat} {p : vT} (hx : p.1 ≠ x) : cidx (wox A x) p = cidx A p := by
  unfold cidx wox rmv
  rw [List.map_map, List.findIdx_map]
  congr 1
  funext L
  have h0 : p ≠ (x, 0) := fun e => hx (by rw [e])
  have h1 : p ≠ (x, 1) := fun e => hx (by rw [e])
  have e : p ∈ List.filter (fun p => decide (p ≠ (x, 1))) (List.filter (fun p => decide (p ≠ (x, 0))) L) ↔ p ∈ L := by
    rw [List.mem_filter, List.mem_filter]
    exact ⟨fun h => h.1.1, fun h => ⟨⟨h, decide_eq_true h0⟩, decide_eq_true h1⟩⟩
  exact decide_eq_decide.mpr e
theorem pLe_rm {A : rn_L} {k x : Nat} (hu : ∀ p, p ∈ A.flatten → p.2 < 2) (h : pLe A k) : pLe (wox A x) (k + 1) := by
  intro M hM
  rw [wox_len]
  refine mgL_k [(cidx A (x, 0), cidx A (x, 1))] M k (h _ (fun y hy => ?_))
  show (if M (cidx A (y, 0)) = M (cidx A (x, 0)) then M (cidx A (x, 1)) else M (cidx A (y, 0))) = (if M (cidx A (y, 1)) = M (cidx A (x, 0)) then M (cidx A (x, 1)) else M (cidx A (y, 1)))
  by_cases e : y = x
  · rw [e, if_pos rfl]
    split <;> rfl
  · have := hM y ((wox_mem hu).mpr ⟨hy, e⟩)
    rw [wox_idx (p := (y, 0)) e, wox_idx (p := (y, 1)) e] at this
    rw [this]
theorem sc_idx {L : List vT} (hn : L.Nodup) {i : Nat} (hi : i + 1 < L.length) : sc L (L[i]'(by omega)) = L[i + 1] := by
  have es : L = L.take i ++ L[i]'(by omega) :: L[i + 1] :: L.drop (i + 1 + 1) := by
    rw [← List.drop_eq_getElem_cons hi, ← List.drop_eq_getElem_cons (by omega), List.take_append_drop]
  have hni : L[i]'(by omega) ∉ L.take i := by
    have h1 : (L.take i ++ L[i]'(by omega) :: L[i + 1] :: L.drop (i + 1 + 1)).Nodup := by
      rw [← es]
      exact hn
    exact (nd_mid h1).1
  have := sc_mid (q := L[i + 1]) (Y := L.drop (i + 1 + 1)) hni
  rw [← es] at this
  exact this
theorem sc_const {β : Type} {φ : vT → β} {L : List vT} (hn : L.Nodup) (h : ∀ p, p ∈ L → φ (sc L p) = φ p) {p q : vT} (hp : p ∈ L) (hq : q ∈ L) : φ p = φ q := by
  have key : ∀ i (hi : i < L.length), φ L[i] = φ (L[0]'(by omega)) := by
    intro i
    induction i with
    | zero => intro hi; rfl
    | succ i ih =>
      intro hi
      rw [← ih (by omega), ← sc_idx hn hi]
      exact h _ (List.getElem_mem _)
  obtain ⟨i, hi, rfl⟩ := List.mem_iff_getElem.mp hp
  obtain ⟨j, hj, rfl⟩ := List.mem_iff_getElem.mp hq
  rw [key i hi, key j hj]
section CP2
variable {A : rn_L} {sg : Nat → Bool} {f : Nat → Nat} {T : ow_NT}
/-- visits of one component, visits of one crossing: one label -/
theorem prt_lab (h : isoV A sg f T) {M : Nat → Nat} (hM : ∀ x, (x, 0) ∈ A.flatten → M (cidx A (x, 0)) = M (cidx A (x, 1))) {p q : vT} (hp : p ∈ A.flatten) (hq : q ∈ A.flatten) (e : (np_parts T.1 T.2.2.1.1).1 (gl f p) = (np_parts T.1 T.2.2.1.1).1 (gl f q)) : M (cidx A p) = M (cidx A q) := by
  have hv := isoV_vn h
  have lt : ∀ p, p ∈ A.flatten → gl f p < 2 * T.1 := fun p hpf => by
    have h1 := h.1.2.2.2.1 p hpf
    have h2 := (h.1.1.2 p hpf).2.1
    unfold gl
    omega
  have hr := (parts_iff hv h.1.2.2.1 (lt p hp) (lt q hq)).mp e
  have key := hr (fun k => ∃ r, r ∈ A.flatten ∧ gl f r = k ∧ M (cidx A r) = M (cidx A p)) ⟨p, hp, rfl, rfl⟩ ?_ ?_
  · obtain ⟨r, r1, r2, r3⟩ := key
    rw [← gl_gin h.1 r q r1 hq r2]
    exact r3.symm
  · rintro k - ⟨r, r1, r2, r3⟩
    obtain ⟨L, hL, hrL⟩ := List.mem_flatten.mp r1
    have nL := L_nd h.1.1.1 hL
    have hs := sc_in hrL nL
    have hsf : sc L r ∈ A.flatten := List.mem_flatten.mpr ⟨L, hL, hs⟩
    refine ⟨sc L r, hsf, ?_, ?_⟩
    · rw [← r2]
      exact (h.2 L hL r hrL).1.symm
    · obtain ⟨j, hj, ej⟩ := List.mem_iff_getElem.mp hL
      rw [cidx_of h.1.1.1 hj (by rw [ej]; exact hs), ← r3, cidx_of h.1.1.1 hj (by rw [ej]; exact hrL)]
  · rintro k - ⟨r, r1, r2, r3⟩
    obtain ⟨k1, k2, k3⟩ := h.1.1.2 r r1
    refine ⟨(r.1, 1 - r.2), k3, ?_, ?_⟩
    · rw [← r2]
      unfold gl mt
      dsimp only
      split <;> omega
    · rw [← r3]
      have c01 : r.2 = 0 ∨ r.2 = 1 := by omega
      rcases c01 with c0 | c0
      · have er : r = (r.1, 0) := Prod.ext rfl c0
        rw [c0]
        have := hM r.1 (by rw [← er]; exact r1)
        rw [← er] at this
        exact this.symm
      · have er : r = (r.1, 1) := Prod.ext rfl c0
        rw [c0] at k3 ⊢
        have := hM r.1 k3
        rw [← er] at this
        exact this
theorem emp_cnt (A : rn_L) : ((List.range A.length).filter (fun c => !neB A c)).length = cirs A := cirs_f.symm
theorem pLe_of (h : isoV A sg f T) {k : Nat} (hk : (np_parts T.1 T.2.2.1.1).2 + T.2.1 ≤ k) : pLe A k := by
  have hv := isoV_vn h
  obtain ⟨-, p2, p3, -⟩ := parts_I hv h.1.2.2.1
  have hN := isoS_iff.mp h.1
  intro M hM
  have hex : ∀ r, ∃ l, r < (np_parts T.1 T.2.2.1.1).2 → ∀ p, p ∈ A.flatten → (np_parts T.1 T.2.2.1.1).1 (gl f p) = nI r → M (cidx A p) = l := by
    intro r
    by_cases hp : ∃ p, p ∈ A.flatten ∧ (np_parts T.1 T.2.2.1.1).1 (gl f p) = nI r
    · obtain ⟨p, hp, e⟩ := hp
      exact ⟨M (cidx A p), fun _ q hq e2 => prt_lab h hM hq hp (by rw [e, e2])⟩
    · exact ⟨0, fun _ p h1 h2 => absurd ⟨p, h1, h2⟩ hp⟩
  refine ⟨(List.range (np_parts T.1 T.2.2.1.1).2).map (fun r => Classical.choose (hex r)) ++ ((List.range A.length).filter (fun c => !neB A c)).map M, ?_, fun j hj => ?_⟩
  · rw [List.length_append, List.length_map, List.length_map, List.length_range, emp_cnt, h.1.2.2.2.2.2.2.2]
    exact hk
  · by_cases hne : A[j] = []
    · refine List.mem_append_right _ (List.mem_map.mpr ⟨j, List.mem_filter.mpr ⟨List.mem_range.mpr hj, ?_⟩, rfl⟩)
      unfold neB
      rw [List.getElem?_eq_getElem hj, hne]
      rfl
    · obtain ⟨p, hp⟩ := List.exists_mem_of_ne_nil _ hne
      have hpf : p ∈ A.flatten := List.mem_flatten.mpr ⟨A[j], List.getElem_mem hj, hp⟩
      have hlt : gl f p < 2 * T.1 := by
        have h1 := h.1.2.2.2.1 p hpf
        have h2 := (h.1.1.2 p hpf).2.1
        unfold gl
        omega
      obtain ⟨r, r1, r2⟩ := p2 (gl f p) hlt
      refine List.mem_append_left _ (List.mem_map.mpr ⟨r, List.mem_range.mpr r1, ?_⟩)
      rw [← Classical.choose_spec (hex r) r1 p hpf r2, cidx_of h.1.1.1 hj hp]
theorem pLe_to (h : isoV A sg f T) {k : Nat} (hk : pLe A k) : (np_parts T.1 T.2.2.1.1).2 + T.2.1 ≤ k := by
  have hv := isoV_vn h
  have hc := h.1.2.2.1
  obtain ⟨hcl, p2, p3, -⟩ := parts_I hv hc
  have hN := isoS_iff.mp h.1
  have hP31 : (np_parts T.1 T.2.2.1.1).2 < 2 ^ 31 := by
    have := mp_out_le T.2.2.1.1 (2 * T.1) (fun _ => -1) (2 * T.1)
    unfold np_parts
    omega
  have lt : ∀ p, p ∈ A.flatten → gl f p < 2 * T.1 := fun p hpf => by
    have h1 := h.1.2.2.2.1 p hpf
    have h2 := (h.1.1.2 p hpf).2.1
    unfold gl
    omega
  -- one mark on a component
  have comp : ∀ L, L ∈ A → ∀ p q, p ∈ L → q ∈ L → (np_parts T.1 T.2.2.1.1).1 (gl f p) = (np_parts T.1 T.2.2.1.1).1 (gl f q) := by
    intro L hL p q hp hq
    refine sc_const (φ := fun p => (np_parts T.1 T.2.2.1.1).1 (gl f p)) (L_nd h.1.1.1 hL) (fun r hr => ?_) hp hq
    rw [← (h.2 L hL r hr).1]
    exact (hcl _ (lt _ (List.mem_flatten.mpr ⟨L, hL, hr⟩))).1
  let M : Nat → Nat := fun j => match A[j]? with
    | some (p :: _) => 2 * ((np_parts T.1 T.2.2.1.1).1 (gl f p)).toNatClampNeg
    | _ => 2 * j + 1
  have Mp : ∀ p, p ∈ A.flatten → ∀ r, r < (np_parts T.1 T.2.2.1.1).2 → (np_parts T.1 T.2.2.1.1).1 (gl f p) = nI r → M (cidx A p) = 2 * r := by
    intro p hp r hr e
    obtain ⟨hj, hpj⟩ := cidx_at hp
    have hL : A[cidx A p] ∈ A := List.getElem_mem hj
    show (match A[cidx A p]? with
      | some (p :: _) => 2 * ((np_parts T.1 T.2.2.1.1).1 (gl f p)).toNatClampNeg
      | _ => 2 * cidx A p + 1) = 2 * r
    rw [List.getElem?_eq_getElem hj]
    cases hl : A[cidx A p] with
    | nil =>
      rw [hl] at hpj
      cases hpj
    | cons a R =>
      have e2 := comp _ hL a p (by rw [hl]; exact List.mem_cons_self) hpj
      dsimp only
      rw [e2, e, nI_clamp (by omega)]
  have hMx : ∀ x, (x, 0) ∈ A.flatten → M (cidx A (x, 0)) = M (cidx A (x, 1)) := by
    intro x hx
    have hx1 : (x, 1) ∈ A.flatten := (h.1.1.2 _ hx).2.2
    obtain ⟨r, r1, r2⟩ := p2 _ (lt _ hx)
    rw [Mp _ hx r r1 r2, Mp _ hx1 r r1 ?_]
    have e : gl f (x, 0) = mt (gl f (x, 1)) := by
      unfold gl mt
      dsimp only
      split <;> omega
    rw [← r2, e]
    exact (hcl _ (lt _ hx1)).2.symm
  obtain ⟨R, hR, hR2⟩ := hk M hMx
  have hlist : ((List.range (np_parts T.1 T.2.2.1.1).2).map (fun r => 2 * r) ++ ((List.range A.length).filter (fun c => !neB A c)).map (fun j => 2 * j + 1)).Nodup := by
    rw [List.nodup_append]
    refine ⟨nodup_map List.nodup_range (fun a b _ _ e => by omega), nodup_map (List.nodup_range.filter _) (fun a b _ _ e => by omega), fun a ha b hb e => ?_⟩
    obtain ⟨a1, -, rfl⟩ := List.mem_map.mp ha
    obtain ⟨b1, -, rfl⟩ := List.mem_map.mp hb
    omega
  have := nodup_le _ R hlist (fun a ha => by
    rcases List.mem_append.mp ha with h9 | h9
    · obtain ⟨r, r1, rfl⟩ := List.mem_map.mp h9
      have r1 := List.mem_range.mp r1
      obtain ⟨v, v1, v2⟩ := p3 r r1
      obtain ⟨w, w1, w2⟩ := lbv_sur hN v1
      have hm := vAt_mem w1
      have w2 : gl f (vAt A w) = v := w2
      have := Mp _ hm r r1 (by rw [w2]; exact v2)
      rw [← this]
      exact hR2 _ (cidx_at hm).1
    · obtain ⟨j, j1, rfl⟩ := List.mem_map.mp h9
      obtain ⟨j1, j2⟩ := List.mem_filter.mp j1
      have j1 := List.mem_range.mp j1
      have : M j = 2 * j + 1 := by
        show (match A[j]? with
          | some (p :: _) => 2 * ((np_parts T.1 T.2.2.1.1).1 (gl f p)).toNatClampNeg
          | _ => 2 * j + 1) = 2 * j + 1
        unfold neB at j2
        rw [List.getElem?_eq_getElem j1] at j2 ⊢
        cases hl : A[j] with
        | nil => rfl
        | cons a L =>
          rw [hl] at j2
          cases j2
      rw [← this]
      exact hR2 j j1)
  rw [List.length_append, List.length_map, List.length_map, List.length_range, emp_cnt, h.1.2.2.2.2.2.2.2] at this
  omega
end CP2
end
section
/-! 99zzzzzzzh.cchn -/
/-! the class: chain: a net small enough -/
theorem rn_b_take (A : rn_L) (c : Nat) (h : c < A.length) : rn_b A (c + 1) = rn_b A c + A[c].length := by
  have e : A.take (c + 1) = A.take c ++ [A[c]] := by
    rw [List.take_succ, List.getElem?_eq_getElem h]
    rfl
  unfold rn_b
  rw [e, List.flatten_append, List.length_append, List.flatten_cons, List.flatten_nil, List.append_nil]
theorem cirs_eC (A : rn_L) : cirs A = eC A := by
  have h1 := filt_sum (neB A) (List.range A.length)
  rw [List.length_range, ← cirs_f] at h1
  have h2 := neC_eC A
  have h3 : ((List.range A.length).filter (neB A)).length ≤ neC A := by
    refine nodup_le _ _ (List.nodup_range.filter _) (fun c hc => ?_)
    obtain ⟨c1, c2⟩ := List.mem_filter.mp hc
    have c1' := List.mem_range.mp c1
    refine List.mem_filter.mpr ⟨c1, decide_eq_true ?_⟩
    have e := rn_b_take A c c1'
    unfold neB at c2
    rw [List.getElem?_eq_getElem c1'] at c2
    have : A[c] ≠ [] := fun h9 => by
      rw [h9] at c2
      cases c2
    have := List.length_pos_iff.mpr this
    omega
  have h4 := neC_cirs A
  omega
section CHN
variable {A : rn_L} {sg : Nat → Bool} {T : ow_NT} {c : Nat}
theorem ell_le (hok : okF A.flatten T.1) (h : isoV A sg (fun x => x) T) : ell2 (qE A) T.1 A.flatten.length sg T.1 0 + eC A ≤ (np_parts T.1 T.2.2.1.1).2 + T.2.1 := by
  have hc := h.1.2.2.1
  have hF := okF_wk (by omega) hok
  have hd := wkF_ok hF
  have hv := isoV_vn h
  have hN := isoS_iff.mp h.1
  let L := lab (qE A) T.1 (mdS sg T.1 0)
  have hS := lab_sat (q := qE A) (c := T.1) (m := mdS sg T.1 0)
  have all : ∀ v, v < A.flatten.length → L (rn_pv A v) = L v ∧ L (mtf A v) = L v := by
    intro v hv
    have hx : crs A v < T.1 := ((hok.2 _).mp (List.mem_of_getElem? (vAt_of hv))).1
    have h3 : mdS sg T.1 0 (crs A v) = 3 := by unfold mdS; rw [if_pos hx]
    have h1 := (hS _ hx).1 (Or.inr h3)
    have h2 := (hS _ hx).2 (Or.inr h3)
    have h1 : L (rn_pv A (ovx A (crs A v))) = L (mtf A (ovx A (crs A v))) ∧ L (rn_pv A (mtf A (ovx A (crs A v)))) = L (ovx A (crs A v)) := h1
    have h2 : L (rn_pv A (ovx A (crs A v))) = L (rn_pv A (mtf A (ovx A (crs A v)))) ∧ L (ovx A (crs A v)) = L (mtf A (ovx A (crs A v))) := h2
    by_cases h0 : uns A v = 0
    · rw [ovx_eq hok hv h0] at h1 h2
      exact ⟨by rw [h1.1, ← h2.2], h2.2.symm⟩
    · have e1 := ovx_eq hok (mtf_lt hd hv) (mtf_uns hF hv h0)
      rw [crs_mtf hd hv] at e1
      rw [e1, mtf_mtf hd hv] at h1 h2
      exact ⟨by rw [← h2.1, h1.1], h2.2⟩
  obtain ⟨-, p2, p3, -⟩ := parts_I hv hc
  have one : ∀ v w, v < A.flatten.length → w < A.flatten.length → (np_parts T.1 T.2.2.1.1).1 (lbv A (fun x => x) v) = (np_parts T.1 T.2.2.1.1).1 (lbv A (fun x => x) w) → L v = L w := by
    intro v w hv1 hw1 e
    have hr := (parts_iff hv hc (lbv_lt hN hv1) (lbv_lt hN hw1)).mp e
    have key := hr (fun k => ∃ u, u < A.flatten.length ∧ lbv A (fun x => x) u = k ∧ L u = L v) ⟨v, hv1, rfl, rfl⟩ ?_ ?_
    · obtain ⟨u, u1, u2, u3⟩ := key
      rw [← lbv_inj hN u1 hw1 u2]
      exact u3.symm
    · rintro k - ⟨u, u1, u2, u3⟩
      refine ⟨rn_nx A u, rn_nx_lt u1, ?_, ?_⟩
      · rw [← u2]
        exact (hN.2.2.2.2.2.1 u u1).symm
      · have := (all (rn_nx A u) (rn_nx_lt u1)).1
        rw [pv_nx u1] at this
        rw [← this]
        exact u3
    · rintro k - ⟨u, u1, u2, u3⟩
      obtain ⟨m1, -, m3, -⟩ := lbv_mt hN u1
      exact ⟨mtf A u, m1, by rw [m3, u2], by rw [(all u u1).2]; exact u3⟩
  have hex : ∀ r, ∃ l, ∀ v, v < A.flatten.length → (np_parts T.1 T.2.2.1.1).1 (lbv A (fun x => x) v) = nI r → L v = l := by
    intro r
    by_cases hp : ∃ v, v < A.flatten.length ∧ (np_parts T.1 T.2.2.1.1).1 (lbv A (fun x => x) v) = nI r
    · obtain ⟨v, hv1, e⟩ := hp
      exact ⟨L v, fun w hw e2 => one w v hw hv1 (by rw [e, e2])⟩
    · exact ⟨0, fun v h1 h2 => absurd ⟨v, h1, h2⟩ hp⟩
  have h1 : ell2 (qE A) T.1 A.flatten.length sg T.1 0 ≤ (np_parts T.1 T.2.2.1.1).2 := by
    refine cN_le ⟨(List.range (np_parts T.1 T.2.2.1.1).2).map (fun r => Classical.choose (hex r)), by rw [List.length_map, List.length_range]; exact Nat.le_refl _, fun v hv1 => ?_⟩
    obtain ⟨r, r1, r2⟩ := p2 _ (lbv_lt hN hv1)
    exact List.mem_map.mpr ⟨r, List.mem_range.mpr r1, (Classical.choose_spec (hex r) v hv1 r2).symm⟩
  have := cirs_eC A
  have := h.1.2.2.2.2.2.2.2
  omega
theorem ch_ok2 {k : Nat} (hok : okF A.flatten T.1) (hC : A.length ≤ 6) (h : isoV A sg (fun x => x) T) (hk : (np_parts T.1 T.2.2.1.1).2 + T.2.1 ≤ k) (hk1 : 1 ≤ k) (hck : T.1 + k ≤ 9) : chOK A sg T.1 k := by
  have hE := qE_ends hok (by omega)
  have hev := qE_evn hok (by omega)
  have hp := Nat.le_trans (ell_le hok h) hk
  have hle : ∀ s, s < 2 ^ T.1 → LcN A sg s ≤ ell (qE A) T.1 A.flatten.length sg s + eC A := fun s hs => Nat.add_le_add_right (rts_ell hok (by omega) hs) _
  have hblk : ∀ h, smH (fun s => mbt (ell (qE A) T.1 A.flatten.length sg s + eC A)) h 0 (2 ^ T.1) ≤ 1140 := by
    intro h
    rcases Nat.lt_or_ge h 9 with h9 | h9
    · exact blk_1140 hE hev hk1 hp (by omega) h9
    · rw [smH_0 _ (fun i hi e => by
        have := pc_le (c := T.1) hi
        omega)]
      omega
  have hblk2 : ∀ h, smH (fun s => mbt (LcN A sg s)) h 0 (2 ^ T.1) ≤ 1140 := fun h => Nat.le_trans (smH_le _ (fun i hi => by
    rw [Nat.zero_add]
    exact mbt_mono (hle i hi))) (hblk h)
  refine ⟨hok, by omega, hC, fun s hs => mbt_9 ?_, ?_, hblk2⟩
  · have h1 := smH_mono (w := fun s => mbt (LcN A sg s)) (h := pc s) (t := 0) (a := s + 1) (2 ^ T.1) hs
    have h2 : mbt (LcN A sg s) ≤ smH (fun s => mbt (LcN A sg s)) (pc s) 0 (s + 1) := by
      show _ ≤ smH _ _ _ s + (if pc s = pc s then mbt (LcN A sg (0 + s)) else 0)
      rw [if_pos rfl, Nat.zero_add]
      omega
    exact Nat.le_trans h2 (Nat.le_trans h1 (hblk2 _))
  · have h1 := gen_all (ab := sg) (e := eC A) hE hev T.1 0 (Nat.le_refl _) (Nat.zero_mod _)
    have h2 : bsN A sg (2 ^ T.1) ≤ smA (fun s => 2 ^ (ell (qE A) T.1 A.flatten.length sg s + eC A)) 0 (2 ^ T.1) := smA_le _ (fun i hi => by
      rw [Nat.zero_add]
      exact two_mono (hle i hi))
    have h3 : 3 ^ T.1 * 2 ^ (ell2 (qE A) T.1 A.flatten.length sg T.1 0 + eC A) ≤ 3 ^ T.1 * 2 ^ k := Nat.mul_le_mul_left _ (two_mono hp)
    have key : ∀ c : Fin 9, ∀ P : Fin 10, c.val + P.val ≤ 9 → 1 ≤ P.val → 3 ^ c.val * 2 ^ P.val ≤ 13122 := by decide
    have h4 := key ⟨T.1, by omega⟩ ⟨k, by omega⟩ hck hk1
    exact Nat.le_trans h2 (Nat.le_trans h1 (Nat.le_trans h3 h4))
end CHN
end
section
/-! 99zzzzzzzi.clp -/
/-! the class: the loops of a state, gone round -/
/-- the end that is joined to an end -/
def muE (G : Nat → Int32) (b : Nat → Bool) (e : Nat) : Nat := if alB G b (e / 4) then 2 * mt (e / 2) + (1 - e % 2) else 2 * mt (e / 2) + e % 2
section LPP
variable {S : ow_NP} {G : Nat → Int32} {b : Nat → Bool} {c : Nat}
theorem mt_h (v : Nat) : mt v / 2 = v / 2 ∧ mt v ≠ v ∧ mt (mt v) = v := by
  unfold mt
  refine ⟨?_, ?_, ?_⟩
  · split <;> omega
  · split <;> omega
  · split <;> split <;> omega
theorem muE_i (e : Nat) : muE G b e / 4 = e / 4 ∧ muE G b e / 2 = mt (e / 2) ∧ muE G b e ≠ e ∧ muE G b (muE G b e) = e := by
  obtain ⟨m1, m2, m3⟩ := mt_h (e / 2)
  have key : ∀ k, k / 2 = mt (e / 2) → k / 4 = e / 4 := fun k hk => by omega
  have h1 : muE G b e / 2 = mt (e / 2) := by
    unfold muE
    split <;> omega
  have h2 := key _ h1
  have h3 : muE G b e % 2 = if alB G b (e / 4) then 1 - e % 2 else e % 2 := by
    unfold muE
    split <;> omega
  refine ⟨h2, h1, fun h9 => m2 (by rw [← h1, h9]), ?_⟩
  unfold muE at h1 h2 h3 ⊢
  by_cases ha : alB G b (e / 4) = true
  · rw [if_pos ha] at h1 h2 h3 ⊢
    rw [if_pos ha] at h3
    rw [h2, if_pos ha, h1, m3, h3]
    omega
  · rw [if_neg ha] at h1 h2 h3 ⊢
    rw [if_neg ha] at h3
    rw [h2, if_neg ha, h1, m3, h3]
    omega
theorem p0E_i (hv : vn c S) {e : Nat} (he : e < 4 * c) : p0E S e < 4 * c ∧ p0E S (p0E S e) = e ∧ p0E S e % 2 ≠ e % 2 ∧ egp S (p0E S e) = egp S e := by
  obtain ⟨v1, v2, v3, v4⟩ := hv (e / 2) (by omega)
  unfold p0E egp
  by_cases h : e % 2 = 0
  · rw [if_pos h, if_pos h]
    refine ⟨by omega, ?_, by omega, ?_⟩
    · rw [if_neg (by omega), show (2 * S.1 (e / 2) + 1) / 2 = S.1 (e / 2) by omega, v3]
      omega
    · rw [if_neg (by omega), show (2 * S.1 (e / 2) + 1) / 2 = S.1 (e / 2) by omega, v3]
  · rw [if_neg h, if_neg h]
    refine ⟨by omega, ?_, by omega, ?_⟩
    · rw [if_pos (by omega), show (2 * S.2 (e / 2)) / 2 = S.2 (e / 2) by omega, v4]
      omega
    · rw [if_pos (by omega), show (2 * S.2 (e / 2)) / 2 = S.2 (e / 2) by omega]
theorem egp_two (hv : vn c S) {e d : Nat} (he : e < 4 * c) (hd : d < 4 * c) (h : egp S e = egp S d) : d = e ∨ d = p0E S e := by
  obtain ⟨v1, v2, v3, v4⟩ := hv (e / 2) (by omega)
  obtain ⟨w1, w2, w3, w4⟩ := hv (d / 2) (by omega)
  unfold egp at h
  unfold p0E
  by_cases h1 : e % 2 = 0
  · rw [if_pos h1] at h ⊢
    by_cases h2 : d % 2 = 0
    · rw [if_pos h2] at h
      omega
    · rw [if_neg h2] at h
      rw [h, w4]
      omega
  · rw [if_neg h1] at h ⊢
    by_cases h2 : d % 2 = 0
    · rw [if_pos h2] at h
      omega
    · rw [if_neg h2] at h
      have := vn_inj2 hv (show e / 2 < 2 * c by omega) (show d / 2 < 2 * c by omega) h
      omega
theorem muE_lt {e : Nat} (he : e < 4 * c) : muE G b e < 4 * c := by
  have := (muE_i (G := G) (b := b) e).1
  omega
/-- labels that stay across the joins -/
def clL (S : ow_NP) (G : Nat → Int32) (b : Nat → Bool) (c : Nat) (f : Nat → Option Nat) : Prop := ∀ d l, d < 4 * c → f (egp S d) = some l → f (egp S (muE G b d)) = some l
/-- gone round from e0, now at e, behind ep -/
def wkL (S : ow_NP) (G : Nat → Int32) (b : Nat → Bool) (c : Nat) (f : Nat → Option Nat) (l e0 ep e : Nat) : Prop := e0 < 4 * c ∧ ep < 4 * c ∧ e = p0E S (muE G b ep) ∧ f (egp S ep) = some l ∧ f (egp S e0) = some l ∧ (∀ d l', d < 4 * c → f (egp S d) = some l' → f (egp S (muE G b d)) = some l' ∨ d = ep ∧ l' = l ∨ d = p0E S e0 ∧ l' = l) ∧ (f (egp S e) = none ∨ e = e0)
theorem wkL_lt (hv : vn c S) {f : Nat → Option Nat} {l e0 ep e : Nat} (h : wkL S G b c f l e0 ep e) : e < 4 * c := by
  rw [h.2.2.1]
  exact (p0E_i hv (muE_lt h.2.1)).1
theorem wkL_0 (hv : vn c S) {f : Nat → Option Nat} {l e0 : Nat} (he : e0 < 4 * c) (hn : f (egp S e0) = none) (h : clL S G b c f) : wkL S G b c (stO f (egp S e0) l) l e0 e0 (p0E S (muE G b e0)) := by
  have m1 := muE_lt (G := G) (b := b) he
  obtain ⟨-, -, m3, m4⟩ := muE_i (G := G) (b := b) e0
  obtain ⟨q1, q2, q3, q4⟩ := p0E_i hv m1
  obtain ⟨r1, r2, r3, r4⟩ := p0E_i hv he
  refine ⟨he, he, rfl, stO_at, stO_at, fun d l' hd hl => ?_, ?_⟩
  · by_cases c1 : egp S d = egp S e0
    · rw [c1, stO_at] at hl
      injection hl with hl
      rcases egp_two hv he hd c1.symm with h9 | h9
      · exact Or.inr (Or.inl ⟨h9, hl.symm⟩)
      · exact Or.inr (Or.inr ⟨h9, hl.symm⟩)
    · rw [stO_ne c1] at hl
      have := h d l' hd hl
      refine Or.inl ?_
      rw [stO_ne (fun h9 => by rw [h9, hn] at this; cases this)]
      exact this
  · by_cases c1 : p0E S (muE G b e0) = e0
    · exact Or.inr c1
    · refine Or.inl ?_
      rw [q4]
      by_cases c2 : egp S (muE G b e0) = egp S e0
      · rcases egp_two hv he m1 c2.symm with h9 | h9
        · exact absurd h9 m3
        · exact absurd (by rw [h9, r2]) c1
      · rw [stO_ne c2]
        cases hf : f (egp S (muE G b e0)) with
        | none => rfl
        | some l' =>
          have := h _ l' m1 hf
          rw [m4, hn] at this
          cases this
theorem wkL_s (hv : vn c S) {f : Nat → Option Nat} {l e0 ep e : Nat} (hn : f (egp S e) = none) (h : wkL S G b c f l e0 ep e) : wkL S G b c (stO f (egp S e) l) l e0 e (p0E S (muE G b e)) := by
  have he := wkL_lt hv h
  obtain ⟨h1, h2, h3, h4, h5, h6, h7⟩ := h
  have m1 := muE_lt (G := G) (b := b) he
  obtain ⟨-, -, m3, m4⟩ := muE_i (G := G) (b := b) e
  obtain ⟨q1, q2, q3, q4⟩ := p0E_i hv m1
  obtain ⟨r1, r2, r3, r4⟩ := p0E_i hv he
  have n1 := muE_lt (G := G) (b := b) h2
  obtain ⟨-, -, n3, n4⟩ := muE_i (G := G) (b := b) ep
  have pe : p0E S e = muE G b ep := by
    rw [h3, (p0E_i hv n1).2.1]
  have ege : egp S (muE G b ep) = egp S e := by
    rw [h3, (p0E_i hv n1).2.2.2]
  have ne : ∀ x, f x ≠ none → x ≠ egp S e := fun x hx e9 => hx (by rw [e9]; exact hn)
  refine ⟨h1, he, rfl, stO_at, ?_, fun d l' hd hl => ?_, ?_⟩
  · rw [stO_ne (ne _ (by rw [h5]; simp))]
    exact h5
  · by_cases c1 : egp S d = egp S e
    · rw [c1, stO_at] at hl
      injection hl with hl
      rcases egp_two hv he hd c1.symm with h9 | h9
      · exact Or.inr (Or.inl ⟨h9, hl.symm⟩)
      · refine Or.inl ?_
        rw [h9, pe, n4, stO_ne (ne _ (by rw [h4]; simp)), h4, hl]
    · rw [stO_ne c1] at hl
      rcases h6 d l' hd hl with h9 | ⟨h9, h8⟩ | ⟨h9, h8⟩
      · refine Or.inl ?_
        rw [stO_ne (fun e9 => by rw [e9, hn] at h9; cases h9)]
        exact h9
      · refine Or.inl ?_
        rw [h9, ege, stO_at, h8]
      · exact Or.inr (Or.inr ⟨h9, h8⟩)
  · by_cases c1 : p0E S (muE G b e) = e0
    · exact Or.inr c1
    · refine Or.inl ?_
      rw [q4]
      by_cases c2 : egp S (muE G b e) = egp S e
      · rcases egp_two hv he m1 c2.symm with h9 | h9
        · exact absurd h9 m3
        · rw [pe] at h9
          have : e = ep := by rw [← m4, h9, n4]
          rw [this, h4] at hn
          cases hn
      · rw [stO_ne c2]
        cases hf : f (egp S (muE G b e)) with
        | none => rfl
        | some l' =>
          exfalso
          rcases h6 _ l' m1 hf with h9 | ⟨h9, -⟩ | ⟨h9, -⟩
          · rw [m4, hn] at h9
            cases h9
          · have e1 : muE G b ep = e := by rw [← h9, m4]
            rw [e1] at pe
            exact r3 (by rw [pe])
          · exact c1 (by rw [h9, (p0E_i hv h1).2.1])
theorem wkL_e (hv : vn c S) {f : Nat → Option Nat} {l e0 ep e : Nat} (hn : f (egp S e) ≠ none) (h : wkL S G b c f l e0 ep e) : clL S G b c f := by
  obtain ⟨h1, h2, h3, h4, h5, h6, h7⟩ := h
  have he0 : e = e0 := h7.resolve_left hn
  have n1 := muE_lt (G := G) (b := b) h2
  obtain ⟨-, -, n3, n4⟩ := muE_i (G := G) (b := b) ep
  have ege : egp S (muE G b ep) = egp S e := by
    rw [h3, (p0E_i hv n1).2.2.2]
  have pe : p0E S e = muE G b ep := by
    rw [h3, (p0E_i hv n1).2.1]
  intro d l' hd hl
  rcases h6 d l' hd hl with h9 | ⟨h9, h8⟩ | ⟨h9, h8⟩
  · exact h9
  · rw [h9, ege, he0, h5, h8]
  · rw [h9, ← he0, pe, n4, h4, h8]
/-- the joins are those of the state -/
theorem muE_un (hv : vn c S) {e : Nat} (he : e < 4 * c) : rt (uPx S G b c) (egp S e) = rt (uPx S G b c) (egp S (muE G b e)) := by
  obtain ⟨j1, j2⟩ := uPx_j (S := S) (G := G) (b := b) c (e / 4) (by omega)
  have key : ∀ k, k < 4 → e = 4 * (e / 4) + k → rt (uPx S G b c) (egp S e) = rt (uPx S G b c) (egp S (muE G b e)) := by
    intro k hk he4
    unfold toI at j1
    unfold toO at j2
    generalize hx : e / 4 = x at *
    have m0 : mt (2 * x) = 2 * x + 1 := by unfold mt; rw [if_pos (by omega)]
    have m1 : mt (2 * x + 1) = 2 * x := by unfold mt; rw [if_neg (by omega)]; omega
    have mu : muE G b e = if alB G b x then 2 * mt (e / 2) + (1 - e % 2) else 2 * mt (e / 2) + e % 2 := by
      unfold muE
      rw [hx]
    rw [mu]
    have k4 : k = 0 ∨ k = 1 ∨ k = 2 ∨ k = 3 := by omega
    by_cases ha : alB G b x = true
    · rw [if_pos ha] at j1 j2 ⊢
      rcases k4 with rfl | rfl | rfl | rfl
      · rw [show e / 2 = 2 * x by omega, show e % 2 = 0 by omega, m0, show e = 4 * x by omega, show 2 * (2 * x + 1) + (1 - 0) = 4 * x + 3 by omega]
        exact j2
      · rw [show e / 2 = 2 * x by omega, show e % 2 = 1 by omega, m0, show e = 4 * x + 1 by omega, show 2 * (2 * x + 1) + (1 - 1) = 4 * x + 2 by omega]
        exact j1
      · rw [show e / 2 = 2 * x + 1 by omega, show e % 2 = 0 by omega, m1, show e = 4 * x + 2 by omega, show 2 * (2 * x) + (1 - 0) = 4 * x + 1 by omega]
        exact j1.symm
      · rw [show e / 2 = 2 * x + 1 by omega, show e % 2 = 1 by omega, m1, show e = 4 * x + 3 by omega, show 2 * (2 * x) + (1 - 1) = 4 * x by omega]
        exact j2.symm
    · rw [if_neg ha] at j1 j2 ⊢
      rcases k4 with rfl | rfl | rfl | rfl
      · rw [show e / 2 = 2 * x by omega, show e % 2 = 0 by omega, m0, show e = 4 * x by omega, show 2 * (2 * x + 1) + 0 = 4 * x + 2 by omega]
        exact j2
      · rw [show e / 2 = 2 * x by omega, show e % 2 = 1 by omega, m0, show e = 4 * x + 1 by omega, show 2 * (2 * x + 1) + 1 = 4 * x + 3 by omega]
        exact j1
      · rw [show e / 2 = 2 * x + 1 by omega, show e % 2 = 0 by omega, m1, show e = 4 * x + 2 by omega, show 2 * (2 * x) + 0 = 4 * x by omega]
        exact j2.symm
      · rw [show e / 2 = 2 * x + 1 by omega, show e % 2 = 1 by omega, m1, show e = 4 * x + 3 by omega, show 2 * (2 * x) + 1 = 4 * x + 1 by omega]
        exact j1.symm
  exact key (e % 4) (by omega) (by omega)
/-- labels that stay across the joins are labels of the loops -/
theorem clL_un (hv : vn c S) {f : Nat → Option Nat} (h : clL S G b c f) (hall : ∀ g, g < 2 * c → f g ≠ none) {g g' : Nat} (hg : g < 2 * c) (hg' : g' < 2 * c) (e : rt (uPx S G b c) g = rt (uPx S G b c) g') : f g = f g' := by
  have fs : ∀ d, d < 4 * c → f (egp S d) = f (egp S (muE G b d)) := by
    intro d hd
    cases hf : f (egp S d) with
    | none => exact absurd hf (hall _ (egp_lt hv hd))
    | some l => exact (h d l hd hf).symm
  have key := uPx_min (M := fun g => (f g).getD 0) hv (fun x hx => ?_) c (Nat.le_refl _) g g' hg hg' e
  · have key : (f g).getD 0 = (f g').getD 0 := key
    cases h1 : f g with
    | none => exact absurd h1 (hall g hg)
    | some l =>
      cases h2 : f g' with
      | none => exact absurd h2 (hall g' hg')
      | some l' =>
        rw [h1, h2] at key
        exact congrArg some key
  · have m0 : mt (2 * x) = 2 * x + 1 := by unfold mt; rw [if_pos (by omega)]
    have f0 := fs (4 * x) (by omega)
    have f1 := fs (4 * x + 1) (by omega)
    unfold muE at f0 f1
    rw [show 4 * x / 4 = x by omega, show 4 * x / 2 = 2 * x by omega, show 4 * x % 2 = 0 by omega, m0] at f0
    rw [show (4 * x + 1) / 4 = x by omega, show (4 * x + 1) / 2 = 2 * x by omega, show (4 * x + 1) % 2 = 1 by omega, m0] at f1
    unfold toI toO
    by_cases ha : alB G b x = true
    · rw [if_pos ha] at f0 f1
      rw [if_pos ha, if_pos ha, show 4 * x + 2 = 2 * (2 * x + 1) + (1 - 1) by omega, show 4 * x + 3 = 2 * (2 * x + 1) + (1 - 0) by omega, f0, f1]
      exact ⟨rfl, rfl⟩
    · rw [if_neg ha] at f0 f1
      rw [if_neg ha, if_neg ha, show 4 * x + 3 = 2 * (2 * x + 1) + 1 by omega, show 4 * x + 2 = 2 * (2 * x + 1) + 0 by omega, f0, f1]
      exact ⟨rfl, rfl⟩
theorem clL_gd {f : Nat → Option Nat} {n x : Nat} (h : clL S G b c f) (hx : x < c) : (f (egp S (4 * x + 1))).getD n = (f (egp S (toI G b x))).getD n ∧ (f (egp S (4 * x))).getD n = (f (egp S (toO G b x))).getD n := by
  have fs : ∀ d, d < 4 * c → f (egp S d) = f (egp S (muE G b d)) := by
    intro d hd
    cases hf : f (egp S d) with
    | none =>
      cases hf2 : f (egp S (muE G b d)) with
      | none => rfl
      | some l =>
        have := h _ l (muE_lt hd) hf2
        rw [(muE_i d).2.2.2, hf] at this
        cases this
    | some l => exact (h d l hd hf).symm
  have m0 : mt (2 * x) = 2 * x + 1 := by unfold mt; rw [if_pos (by omega)]
  have f0 := fs (4 * x) (by omega)
  have f1 := fs (4 * x + 1) (by omega)
  unfold muE at f0 f1
  rw [show 4 * x / 4 = x by omega, show 4 * x / 2 = 2 * x by omega, show 4 * x % 2 = 0 by omega, m0] at f0
  rw [show (4 * x + 1) / 4 = x by omega, show (4 * x + 1) / 2 = 2 * x by omega, show (4 * x + 1) % 2 = 1 by omega, m0] at f1
  unfold toI toO
  by_cases ha : alB G b x = true
  · rw [if_pos ha] at f0 f1
    rw [if_pos ha, if_pos ha, show 4 * x + 2 = 2 * (2 * x + 1) + (1 - 1) by omega, show 4 * x + 3 = 2 * (2 * x + 1) + (1 - 0) by omega, f0, f1]
    exact ⟨rfl, rfl⟩
  · rw [if_neg ha] at f0 f1
    rw [if_neg ha, if_neg ha, show 4 * x + 3 = 2 * (2 * x + 1) + 1 by omega, show 4 * x + 2 = 2 * (2 * x + 1) + 0 by omega, f0, f1]
    exact ⟨rfl, rfl⟩
end LPP
end
section
/-! 99zzzzzzzj.clp2 -/
/-! the class: goRound, markLoops -/
theorem ch_43002 {vl : Nat → Nat} : ((cX vl).2 43002).2.1 = 4096 := rfl
theorem ch_43003 {vl : Nat → Nat} : ((cX vl).2 43003).2.1 = 256 := rfl
theorem ch_43004 {vl : Nat → Nat} : ((cX vl).2 43004).2.1 = 2560 := rfl
theorem nH44 : nH 44000 := by
  unfold nH nHL
  decide
def tb (s x : Nat) : Bool := decide (s / 2 ^ x % 2 = 1)
theorem bvx : ∀ v : Fin 16, nI v.val >>> ((1 : Int32) &&& 31) = nI (v.val / 2) ∧ nI v.val ^^^ 1 = nI (mt v.val) := by decide +kernel
theorem m1b : vp_nar .byte (-1 : Int32) = -1 := by decide
section GOR
variable {vl : Nat → Nat} {y : ow_MS} {S : ow_NP} {G : Nat → Int32} {c ci s : Nat}
theorem u_J7_fill_eb02e_1 {vl : Nat → Nat} {x1 : Int32} {x2 : Int32} {x3 : Int32} {x4 : Int32} {r0 : Nat} {z : ow_MS} {Q : ow_MS → Prop} (H : Tt (fun K k => cm_J7_fill_eb02e_1 vl K (c_J7_fill_eb02e vl K k) x1 x2 x3 x4 r0 z) Q) : Tt (fun K k => c_J7_fill_eb02e vl K k 1 x1 x2 x3 x4 r0 z) Q := w_un (fun _ _ => rfl) H
theorem e_J7_fill_eb02e {vl : Nat → Nat} {r0 : Nat} {x1 : Int32} {x2 : Int32} {x3 : Int32} {z : ow_MS} {Q : ow_MS → Prop} (H : Tt (fun K k => c_J7_fill_eb02e vl K k 0 x1 x2 x3 0 r0 z) Q) : Te (fun K => ce_J7_fill_eb02e vl K r0 x1 x2 x3 z) Q := w_te H
theorem u_J7_fill_eb02e_0 {vl : Nat → Nat} {x1 : Int32} {x2 : Int32} {x3 : Int32} {x4 : Int32} {r0 : Nat} {z : ow_MS} {Q : ow_MS → Prop} (H : Tt (fun K k => cm_J7_fill_eb02e_0 vl K (c_J7_fill_eb02e vl K k) x1 x2 x3 x4 r0 z) Q) : Tt (fun K k => c_J7_fill_eb02e vl K k 0 x1 x2 x3 x4 r0 z) Q := w_un (fun _ _ => rfl) H
theorem tc_fillB {g l a b : Nat} {x : Int32} (hL : ((cX vl).2 g).2.1 = l) (h1 : a ≤ b) (h2 : b ≤ l) (hl : l < 2 ^ 31) (hx : vp_nar .byte x = x) : Te (fun K => ce_J7_fill_eb02e vl K g (nI a) (nI b) x y) (fun y1 => (∀ k, y1.2.1 g k = if a ≤ k ∧ k < b then x else y.2.1 g k) ∧ fr (fun q => q = g) y y1) := by
  let Q : ow_MS → Prop := fun y1 => (∀ k, y1.2.1 g k = if a ≤ k ∧ k < b then x else y.2.1 g k) ∧ fr (fun q => q = g) y y1
  have c1 : ∀ (d i : Nat) (y1 : ow_MS), i + d = b → a ≤ i → (∀ k, y1.2.1 g k = if a ≤ k ∧ k < i then x else y.2.1 g k) → fr (fun q => q = g) y y1 → Tt (fun K t => c_J7_fill_eb02e vl K t 1 (nI a) (nI b) x (nI i) g y1) Q := by
    intro d
    induction d with
    | zero =>
      intro i y1 hi ha hk hf
      have e : i = b := by omega
      subst e
      refine u_J7_fill_eb02e_1 ?_; unfold cm_J7_fill_eb02e_1
      exact w_leT (by omega) (by omega) (w_some ⟨hk, hf⟩)
    | succ d ih =>
      intro i y1 hi ha hk hf
      refine u_J7_fill_eb02e_1 ?_; unfold cm_J7_fill_eb02e_1
      rw [nI_1]
      refine w_leF (by omega) (by omega) (w_ctB hL rfl (by omega) ?_)
      rw [hx]
      refine ih (i + 1) _ (by omega) (by omega) (fun k => ?_) (fr_I2 hf rfl)
      by_cases e : k = i
      · rw [e, if_pos (by omega)]
        exact po_usI_at
      · rw [show (usI y1 g i x).2.1 g k = y1.2.1 g k from po_usI_ne e, hk]
        by_cases e1 : a ≤ k ∧ k < i
        · rw [if_pos e1, if_pos (by omega)]
        · rw [if_neg e1, if_neg (by omega)]
  refine e_J7_fill_eb02e ?_
  refine u_J7_fill_eb02e_0 ?_; unfold cm_J7_fill_eb02e_0
  unfold uw_len
  rw [hL]
  refine w_cs0 (tc_range h1 h2 hl) ?_
  rintro y1 e
  subst e
  exact c1 (b - a) a _ (by omega) (by omega) (fun k => by rw [if_neg (by omega)]) fr_rf
/-- only the entries of one state change -/
def frS (s : Nat) (z z1 : ow_MS) : Prop := fr (fun g => g = 43002 ∨ g = 43003 ∨ g = 43004) z z1 ∧ (∀ i, i / 16 ≠ s → z1.2.1 43002 i = z.2.1 43002 i) ∧ (∀ i, i ≠ s → z1.2.1 43003 i = z.2.1 43003 i) ∧ ∀ i, i / 10 ≠ s → z1.2.1 43004 i = z.2.1 43004 i
theorem frS_tr {z z1 z2 : ow_MS} (h1 : frS s z z1) (h2 : frS s z1 z2) : frS s z z2 := ⟨fr_tr h1.1 h2.1, fun i hi => (h2.2.1 i hi).trans (h1.2.1 i hi), fun i hi => (h2.2.2.1 i hi).trans (h1.2.2.1 i hi), fun i hi => (h2.2.2.2 i hi).trans (h1.2.2.2 i hi)⟩
theorem frS_3 {z : ow_MS} {x : Int32} : frS s z (usI z 43003 s x) := ⟨fr_I (Or.inr (Or.inl rfl)), fun j _ => rd_ot (by omega) rfl, fun j hj => po_usI_ne hj, fun j _ => rd_ot (by omega) rfl⟩
theorem frS_4 {z : ow_MS} {i : Nat} {x : Int32} (hi : i / 10 = s) : frS s z (usI z 43004 i x) := ⟨fr_I (Or.inr (Or.inr rfl)), fun j _ => rd_ot (by omega) rfl, fun j _ => rd_ot (by omega) rfl, fun j hj => po_usI_ne (fun e => hj (by rw [e]; exact hi))⟩
/-- labels of the gaps so far -/
def lbS (z : ow_MS) (s c : Nat) (f : Nat → Option Nat) : Prop := ∀ g, g < 2 * c → z.2.1 43002 (16 * s + g) = oM (f g)
theorem lbS_set {z : ow_MS} {f : Nat → Option Nat} {g l : Nat} (h : lbS z s c f) : lbS (usI z 43002 (16 * s + g) (nI l)) s c (stO f g l) := by
  intro k hk
  by_cases e : k = g
  · rw [e, po_usI_at, stO_at]
    rfl
  · rw [stO_ne e]
    exact rd_ne (by omega) (h k hk)
theorem i16 (s g : Nat) : nI s * (16 : Int32) + nI g = nI (16 * s + g) := by
  rw [show nI s * (16 : Int32) = nI (s * 16) from pk_mul _ 16, nI_add, Nat.mul_comm]
theorem i10 (s g : Nat) : nI s * (10 : Int32) + nI g = nI (10 * s + g) := by
  rw [show nI s * (10 : Int32) = nI (s * 10) from pk_mul _ 10, nI_add, Nat.mul_comm]
theorem u_X1_goRound_7 {vl : Nat → Nat} {x1 : Int32} {x2 : Int32} {x3 : Int32} {x4 : Int32} {x5 : Int32} {x6 : Int32} {x7 : Int32} {x8 : Int32} {r0 : Nat} {t0 : Int32} {t1 : Int32} {z : ow_MS} {Q : ow_MS → Prop} (H : Tt (fun K k => cm_X1_goRound_7 vl K (c_X1_goRound vl K k) x1 x2 x3 x4 x5 x6 x7 x8 r0 t0 t1 z) Q) : Tt (fun K k => c_X1_goRound vl K k 7 x1 x2 x3 x4 x5 x6 x7 x8 r0 t0 t1 z) Q := w_un (fun _ _ => rfl) H
theorem u_X1_goRound_6 {vl : Nat → Nat} {x1 : Int32} {x2 : Int32} {x3 : Int32} {x4 : Int32} {x5 : Int32} {x6 : Int32} {x7 : Int32} {x8 : Int32} {r0 : Nat} {t0 : Int32} {t1 : Int32} {z : ow_MS} {Q : ow_MS → Prop} (H : Tt (fun K k => cm_X1_goRound_6 vl K (c_X1_goRound vl K k) x1 x2 x3 x4 x5 x6 x7 x8 r0 t0 t1 z) Q) : Tt (fun K k => c_X1_goRound vl K k 6 x1 x2 x3 x4 x5 x6 x7 x8 r0 t0 t1 z) Q := w_un (fun _ _ => rfl) H
theorem u_X1_goRound_5 {vl : Nat → Nat} {x1 : Int32} {x2 : Int32} {x3 : Int32} {x4 : Int32} {x5 : Int32} {x6 : Int32} {x7 : Int32} {x8 : Int32} {r0 : Nat} {t0 : Int32} {t1 : Int32} {z : ow_MS} {Q : ow_MS → Prop} (H : Tt (fun K k => cm_X1_goRound_5 vl K (c_X1_goRound vl K k) x1 x2 x3 x4 x5 x6 x7 x8 r0 t0 t1 z) Q) : Tt (fun K k => c_X1_goRound vl K k 5 x1 x2 x3 x4 x5 x6 x7 x8 r0 t0 t1 z) Q := w_un (fun _ _ => rfl) H
theorem u_X1_goRound_3 {vl : Nat → Nat} {x1 : Int32} {x2 : Int32} {x3 : Int32} {x4 : Int32} {x5 : Int32} {x6 : Int32} {x7 : Int32} {x8 : Int32} {r0 : Nat} {t0 : Int32} {t1 : Int32} {z : ow_MS} {Q : ow_MS → Prop} (H : Tt (fun K k => cm_X1_goRound_3 vl K (c_X1_goRound vl K k) x1 x2 x3 x4 x5 x6 x7 x8 r0 t0 t1 z) Q) : Tt (fun K k => c_X1_goRound vl K k 3 x1 x2 x3 x4 x5 x6 x7 x8 r0 t0 t1 z) Q := w_un (fun _ _ => rfl) H
theorem u_X1_goRound_4 {vl : Nat → Nat} {x1 : Int32} {x2 : Int32} {x3 : Int32} {x4 : Int32} {x5 : Int32} {x6 : Int32} {x7 : Int32} {x8 : Int32} {r0 : Nat} {t0 : Int32} {t1 : Int32} {z : ow_MS} {Q : ow_MS → Prop} (H : Tt (fun K k => cm_X1_goRound_4 vl K (c_X1_goRound vl K k) x1 x2 x3 x4 x5 x6 x7 x8 r0 t0 t1 z) Q) : Tt (fun K k => c_X1_goRound vl K k 4 x1 x2 x3 x4 x5 x6 x7 x8 r0 t0 t1 z) Q := w_un (fun _ _ => rfl) H
theorem u_X1_goRound_2 {vl : Nat → Nat} {x1 : Int32} {x2 : Int32} {x3 : Int32} {x4 : Int32} {x5 : Int32} {x6 : Int32} {x7 : Int32} {x8 : Int32} {r0 : Nat} {t0 : Int32} {t1 : Int32} {z : ow_MS} {Q : ow_MS → Prop} (H : Tt (fun K k => cm_X1_goRound_2 vl K (c_X1_goRound vl K k) x1 x2 x3 x4 x5 x6 x7 x8 r0 t0 t1 z) Q) : Tt (fun K k => c_X1_goRound vl K k 2 x1 x2 x3 x4 x5 x6 x7 x8 r0 t0 t1 z) Q := w_un (fun _ _ => rfl) H
theorem u_X1_goRound_1 {vl : Nat → Nat} {x1 : Int32} {x2 : Int32} {x3 : Int32} {x4 : Int32} {x5 : Int32} {x6 : Int32} {x7 : Int32} {x8 : Int32} {r0 : Nat} {t0 : Int32} {t1 : Int32} {z : ow_MS} {Q : ow_MS → Prop} (H : Tt (fun K k => cm_X1_goRound_1 vl K (c_X1_goRound vl K k) x1 x2 x3 x4 x5 x6 x7 x8 r0 t0 t1 z) Q) : Tt (fun K k => c_X1_goRound vl K k 1 x1 x2 x3 x4 x5 x6 x7 x8 r0 t0 t1 z) Q := w_un (fun _ _ => rfl) H
theorem e_X1_goRound {vl : Nat → Nat} {r0 : Nat} {x1 : Int32} {x2 : Int32} {x3 : Int32} {z : ow_MS} {Q : ow_MS → Prop} (H : Tt (fun K k => c_X1_goRound vl K k 0 x1 x2 x3 0 0 0 0 0 r0 0 0 z) Q) : Te (fun K => ce_X1_goRound vl K r0 x1 x2 x3 z) Q := w_te H
theorem u_X1_goRound_0 {vl : Nat → Nat} {x1 : Int32} {x2 : Int32} {x3 : Int32} {x4 : Int32} {x5 : Int32} {x6 : Int32} {x7 : Int32} {x8 : Int32} {r0 : Nat} {t0 : Int32} {t1 : Int32} {z : ow_MS} {Q : ow_MS → Prop} (H : Tt (fun K k => cm_X1_goRound_0 vl K (c_X1_goRound vl K k) x1 x2 x3 x4 x5 x6 x7 x8 r0 t0 t1 z) Q) : Tt (fun K k => c_X1_goRound vl K k 0 x1 x2 x3 x4 x5 x6 x7 x8 r0 t0 t1 z) Q := w_un (fun _ _ => rfl) H
theorem tc_goRound {l g0 : Nat} {f : Nat → Option Nat} (hy : cAt y 44000 (c, ci, S, G)) (hv : vn c S) (hc : c ≤ 8) (hs : s < 256) (hl : l < 16) (hg0 : g0 < 2 * c) (hf : lbS y s c f) (hn : f g0 = none) (hcl : clL S G (tb s) c f) (hfl : ∀ g k, g < 2 * c → f g = some k → k < 16) : Te (fun K => ce_X1_goRound vl K 43000 (nI s) (nI g0) (nI l) y) (fun y1 => ∃ f1, lbS y1 s c f1 ∧ clL S G (tb s) c f1 ∧ f1 g0 = some l ∧ (∀ g, g < 2 * c → f g ≠ none → f1 g = f g) ∧ (∀ g k, g < 2 * c → f1 g = some k → f g = none → k = l ∧ rt (uPx S G (tb s) c) g = rt (uPx S G (tb s) c) g0) ∧ fr (fun q => q = 43002) y y1 ∧ ∀ i, i / 16 ≠ s → y1.2.1 43002 i = y.2.1 43002 i) := by
  let Q : ow_MS → Prop := fun y1 => ∃ f1, lbS y1 s c f1 ∧ clL S G (tb s) c f1 ∧ f1 g0 = some l ∧ (∀ g, g < 2 * c → f g ≠ none → f1 g = f g) ∧ (∀ g k, g < 2 * c → f1 g = some k → f g = none → k = l ∧ rt (uPx S G (tb s) c) g = rt (uPx S G (tb s) c) g0) ∧ fr (fun q => q = 43002) y y1 ∧ ∀ i, i / 16 ≠ s → y1.2.1 43002 i = y.2.1 43002 i
  let J : ow_MS → (Nat → Option Nat) → Prop := fun z f1 => lbS z s c f1 ∧ (∀ g, g < 2 * c → f g ≠ none → f1 g = f g) ∧ (∀ g k, g < 2 * c → f1 g = some k → f g = none → k = l ∧ rt (uPx S G (tb s) c) g = rt (uPx S G (tb s) c) g0) ∧ fr (fun q => q = 43002) y z ∧ ∀ i, i / 16 ≠ s → z.2.1 43002 i = y.2.1 43002 i
  have hA : ∀ z, fr (fun q => q = 43002) y z → cAt z 44000 (c, ci, S, G) := fun z h => cAt_fr h (fun g hg h9 => by unfold cP at hg; omega) hy
  -- from the arrival at an end to the next one
  have step : ∀ (e i : Nat) (z : ow_MS), e < 4 * c → fr (fun q => q = 43002) y z → Tt (fun K k => c_X1_goRound vl K k 1 (nI s) (nI g0) (nI l) (nI (egp S (p0E S (muE G (tb s) e)))) (nI (p0E S (muE G (tb s) e) % 2)) (nI (i + 1)) 0 0 43000 0 0 z) Q → Tt (fun K k => c_X1_goRound vl K k 2 (nI s) (nI g0) (nI l) (nI (egp S e)) (nI (e % 2)) (nI i) 0 0 43000 (nI (e / 2)) 0 z) Q := by
    intro e i z he hz H
    have m1 := muE_lt (G := G) (b := tb s) he
    obtain ⟨u1, u2, u3, u4⟩ := muE_i (G := G) (b := tb s) e
    obtain ⟨q1, q2, q3, q4⟩ := p0E_i hv m1
    obtain ⟨b1, b2⟩ := bvx ⟨e / 2, by omega⟩
    dsimp only at b1 b2
    have mlt := mt_lt (show e / 2 < 2 * c by omega)
    have e4 : e / 2 / 2 = e / 4 := by omega
    rw [q4] at H
    have par : muE G (tb s) e % 2 = if alB G (tb s) (e / 4) then 1 - e % 2 else e % 2 := by
      unfold muE
      split <;> omega
    have eg : egp S (muE G (tb s) e) = if muE G (tb s) e % 2 = 0 then mt (e / 2) else S.2 (mt (e / 2)) := by
      unfold egp
      rw [u2]
    have c7 : ∀ (x7 x8 : Int32), Tt (fun K k => c_X1_goRound vl K k 7 (nI s) (nI g0) (nI l) (nI (egp S e)) (nI (p0E S (muE G (tb s) e) % 2)) (nI i) x7 x8 43000 (nI (egp S (muE G (tb s) e))) 0 z) Q := by
      intro x7 x8
      refine u_X1_goRound_7 ?_; unfold cm_X1_goRound_7
      rw [nI_1]
      exact H
    have c5 : ∀ al : Bool, al = alB G (tb s) (e / 4) → Tt (fun K k => c_X1_goRound vl K k 5 (nI s) (nI g0) (nI l) (nI (egp S e)) (nI (e % 2)) (nI i) (nI (e / 2)) 0 43000 (if al then 1 else 0) 0 z) Q := by
      intro al hal
      rw [← hal] at par
      have fin : ∀ (t : Nat), t = p0E S (muE G (tb s) e) % 2 → Tt (fun K k => c_X1_goRound vl K k 6 (nI s) (nI g0) (nI l) (nI (egp S e)) (nI (e % 2)) (nI i) (nI (e / 2)) (if al then 1 else 0) 43000 (nI t) 0 z) Q := by
        intro t ht
        have t01 : t = 0 ∨ t = 1 := by omega
        refine u_X1_goRound_6 ?_; unfold cm_X1_goRound_6
        rw [b2]
        rcases t01 with h9 | h9
        · rw [h9] at ht
          have k1 : muE G (tb s) e % 2 = 1 := by omega
          rw [if_neg (by omega)] at eg
          refine w_ifT (by rw [h9]; rfl) (w_crI (nH_2 nH44) rfl (show mt (e / 2) < 24 by omega) ((hA z hz).2.2.2.1 _) ?_)
          rw [← eg, h9, ht]
          exact c7 _ _
        · rw [h9] at ht
          have k1 : muE G (tb s) e % 2 = 0 := by omega
          rw [if_pos k1] at eg
          refine w_ifF (by rw [h9]; decide) ?_
          rw [← eg, h9, ht]
          exact c7 _ _
      have e01 : e % 2 = 0 ∨ e % 2 = 1 := by omega
      refine u_X1_goRound_5 ?_; unfold cm_X1_goRound_5
      cases al with
      | false =>
        have par : muE G (tb s) e % 2 = e % 2 := par
        rcases e01 with h9 | h9
        · exact w_ifT (by rw [h9]; rfl) (fin 1 (by omega))
        · exact w_ifF (by rw [h9]; decide) (fin 0 (by omega))
      | true =>
        have par : muE G (tb s) e % 2 = 1 - e % 2 := par
        rcases e01 with h9 | h9
        · exact w_ifF (by rw [h9]; decide) (fin 0 (by omega))
        · exact w_ifT (by rw [h9]; rfl) (fin 1 (by omega))
    have c3 : ∀ sb : Bool, sb = sgP G (e / 4) → Tt (fun K k => c_X1_goRound vl K k 3 (nI s) (nI g0) (nI l) (nI (egp S e)) (nI (e % 2)) (nI i) (nI (e / 2)) 0 43000 (if sb then 1 else 0) 0 z) Q := by
      intro sb hsb
      have hbit := bit_nI (s := s) (x := e / 4) hs (by omega)
      have c5' : ∀ bb : Bool, tb s (e / 4) = bb → Tt (fun K k => c_X1_goRound vl K k 5 (nI s) (nI g0) (nI l) (nI (egp S e)) (nI (e % 2)) (nI i) (nI (e / 2)) 0 43000 (if (sb == !bb) then 1 else 0) 0 z) Q := fun bb hbb => c5 (sb == !bb) (by unfold alB; rw [hsb, hbb])
      refine u_X1_goRound_3 ?_; unfold cm_X1_goRound_3
      rw [b1, e4, hbit]
      by_cases hb : s / 2 ^ (e / 4) % 2 = 1
      · have tbv : tb s (e / 4) = true := decide_eq_true hb
        have := c5' true tbv
        refine w_ifF (by unfold btN; rw [hb]; decide) ?_
        refine u_X1_goRound_4 ?_; unfold cm_X1_goRound_4
        cases sb with
        | false => exact w_ifT rfl this
        | true => exact w_ifF (by decide) this
      · have tbv : tb s (e / 4) = false := decide_eq_false hb
        have := c5' false tbv
        have hb0 : s / 2 ^ (e / 4) % 2 = 0 := by omega
        refine w_ifT (by unfold btN; rw [hb0]; rfl) ?_
        refine u_X1_goRound_4 ?_; unfold cm_X1_goRound_4
        cases sb with
        | false => exact w_ifF (by decide) this
        | true => exact w_ifT rfl this
    refine u_X1_goRound_2 ?_; unfold cm_X1_goRound_2
    rw [b1, e4]
    refine w_crI (nH_3 nH44) rfl (show e / 4 < 12 by omega) ((hA z hz).2.2.2.2 _) (w_if (fun h9 => ?_) (fun h9 => ?_))
    · exact c3 false (by unfold sgP; rw [decide_eq_false (Int32.not_lt.mpr h9)])
    · exact c3 true (by unfold sgP; rw [decide_eq_true (Int32.not_le.mp h9)])
  -- one gap is marked, the walk goes on
  have mark : ∀ (e i : Nat) (z : ow_MS) (f1 : Nat → Option Nat), i < 16 → e < 4 * c → f1 (egp S e) = none → J z f1 → (∀ z1, J z1 (stO f1 (egp S e) l) → Tt (fun K k => c_X1_goRound vl K k 1 (nI s) (nI g0) (nI l) (nI (egp S (p0E S (muE G (tb s) e)))) (nI (p0E S (muE G (tb s) e) % 2)) (nI (i + 1)) 0 0 43000 0 0 z1) Q) → rt (uPx S G (tb s) c) (egp S e) = rt (uPx S G (tb s) c) g0 → Tt (fun K k => c_X1_goRound vl K k 1 (nI s) (nI g0) (nI l) (nI (egp S e)) (nI (e % 2)) (nI i) 0 0 43000 0 0 z) Q := by
    rintro e i z f1 hi he hn1 ⟨j1, j2, j3, j4, j5⟩ H hrt
    have hge := egp_lt hv he
    have J2 : J (usI z 43002 (16 * s + egp S e) (nI l)) (stO f1 (egp S e) l) := by
      refine ⟨lbS_set j1, fun g hg h9 => ?_, fun g k hg hk h9 => ?_, fr_I2 j4 rfl, fun k hk => ?_⟩
      · rw [stO_ne (fun e9 => by rw [← e9, j2 g hg h9] at hn1; exact h9 hn1)]
        exact j2 g hg h9
      · by_cases e9 : g = egp S e
        · rw [e9, stO_at] at hk
          injection hk with hk
          rw [e9]
          exact ⟨hk.symm, hrt⟩
        · rw [stO_ne e9] at hk
          exact j3 g k hg hk h9
      · rw [show (usI z 43002 (16 * s + egp S e) (nI l)).2.1 43002 k = z.2.1 43002 k from po_usI_ne (fun e9 => hk (by omega))]
        exact j5 k hk
    have ev : e % 2 = 0 ∨ e % 2 = 1 := by omega
    refine u_X1_goRound_1 ?_; unfold cm_X1_goRound_1
    rw [i16]
    refine w_leF (a := 16) (by omega) (by omega) (w_crI ch_43002 rfl (by omega) ((j1 _ hge).trans (by rw [hn1]; rfl)) (w_ifT rfl (w_ctB ch_43002 rfl (by omega) ?_)))
    rw [show vp_nar .byte ((nI l).toInt8.toInt32) = nI l from (byt ⟨l, by omega⟩).1]
    rcases ev with h9 | h9
    · have e1 : egp S e = e / 2 := if_pos h9
      have := step e i _ he J2.2.2.2.1 (H _ J2)
      refine w_ifT (by rw [h9]; rfl) ?_
      rw [show nI (egp S e) = nI (e / 2) from by rw [e1]]
      rw [show nI (egp S e) = nI (e / 2) from by rw [e1]] at this
      rw [e1] at this ⊢
      exact this
    · have e1 : egp S e = S.2 (e / 2) := if_neg (by omega)
      have hn2 : S.1 (egp S e) = e / 2 := by rw [e1]; exact (hv _ (by omega)).2.2.2
      refine w_ifF (by rw [h9]; decide) (w_crI (nH_1 nH44) rfl (show egp S e < 24 by omega) ((hA _ J2.2.2.2.1).2.2.1 _) ?_)
      have e2 : ((c, ci, S, G) : ow_NT).2.2.1.1 (egp S e) = e / 2 := hn2
      rw [e2]
      exact step e i _ he J2.2.2.2.1 (H _ J2)
  have go : ∀ (d i ep e : Nat) (z : ow_MS) (f1 : Nat → Option Nat), i + d = 16 → 0 < i → i + ucn f1 (2 * c) ≤ 2 * c → J z f1 → wkL S G (tb s) c f1 l (p0E S (2 * g0)) ep e → rt (uPx S G (tb s) c) (egp S ep) = rt (uPx S G (tb s) c) g0 → Tt (fun K k => c_X1_goRound vl K k 1 (nI s) (nI g0) (nI l) (nI (egp S e)) (nI (e % 2)) (nI i) 0 0 43000 0 0 z) Q := by
    intro d
    induction d with
    | zero =>
      intro i ep e z f1 hi hi0 hu hJ hw hr
      have he := wkL_lt hv hw
      have hne := ucn_0 _ (show ucn f1 (2 * c) = 0 by omega) _ (egp_lt hv he)
      obtain ⟨j1, j2, j3, j4, j5⟩ := id hJ
      have g0e : egp S (p0E S (2 * g0)) = g0 := by
        rw [(p0E_i hv (by omega)).2.2.2]
        unfold egp
        rw [if_pos (by omega)]
        omega
      have := hw.2.2.2.2.1
      rw [g0e] at this
      refine u_X1_goRound_1 ?_; unfold cm_X1_goRound_1
      exact w_leT (a := 16) (by omega) (by omega) (w_some ⟨f1, j1, wkL_e hv hne hw, this, j2, j3, j4, j5⟩)
    | succ d ih =>
      intro i ep e z f1 hi hi0 hu hJ hw hr
      have he := wkL_lt hv hw
      have hge := egp_lt hv he
      have ce : rt (uPx S G (tb s) c) (egp S e) = rt (uPx S G (tb s) c) g0 := by
        rw [hw.2.2.1, (p0E_i hv (muE_lt hw.2.1)).2.2.2, ← muE_un hv hw.2.1]
        exact hr
      by_cases hn1 : f1 (egp S e) = none
      · have uc := ucn_st (l := l) hn1 (2 * c) hge
        exact mark e i z f1 (by omega) he hn1 hJ (fun z1 J1 => ih (i + 1) e _ z1 _ (by omega) (by omega) (by omega) J1 (wkL_s hv hn1 hw) ce) ce
      · obtain ⟨j1, j2, j3, j4, j5⟩ := id hJ
        have g0e : egp S (p0E S (2 * g0)) = g0 := by
          rw [(p0E_i hv (by omega)).2.2.2]
          unfold egp
          rw [if_pos (by omega)]
          omega
        have hgl := hw.2.2.2.2.1
        rw [g0e] at hgl
        obtain ⟨k, hk⟩ : ∃ k, f1 (egp S e) = some k := by
          cases hf1 : f1 (egp S e) with
          | none => exact absurd hf1 hn1
          | some k => exact ⟨k, rfl⟩
        have k16 : k < 16 := by
          by_cases hfn : f (egp S e) = none
          · have := (j3 _ k hge hk hfn).1
            omega
          · rw [j2 _ hge hfn] at hk
            exact hfl _ k hge hk
        refine u_X1_goRound_1 ?_; unfold cm_X1_goRound_1
        rw [i16]
        exact w_leF (a := 16) (by omega) (by omega) (w_crI ch_43002 rfl (by omega) ((j1 _ hge).trans (by rw [hk])) (w_ifF (oM_n (by omega)) (w_some ⟨f1, j1, wkL_e hv hn1 hw, hgl, j2, j3, j4, j5⟩)))
  have he0 := (p0E_i hv (show 2 * g0 < 4 * c by omega)).1
  have g0e : egp S (p0E S (2 * g0)) = g0 := by
    rw [(p0E_i hv (by omega)).2.2.2]
    unfold egp
    rw [if_pos (by omega)]
    omega
  have p2 : p0E S (2 * g0) % 2 = 1 := by
    have := (p0E_i hv (show 2 * g0 < 4 * c by omega)).2.2.1
    omega
  have uc := ucn_st (l := l) hn (2 * c) hg0
  have ul := ucn_le f (2 * c)
  have := mark (p0E S (2 * g0)) 0 y f (by omega) he0 (by rw [g0e]; exact hn) ⟨hf, fun g _ _ => rfl, fun g k _ hk h9 => (by rw [h9] at hk; cases hk), fr_rf, fun _ _ => rfl⟩ (fun z1 J1 => go 15 1 _ _ z1 _ (by omega) (by omega) (by rw [g0e]; omega) J1 (wkL_0 hv he0 (by rw [g0e]; exact hn) hcl) (by rw [g0e])) (by rw [g0e])
  rw [g0e, p2] at this
  refine e_X1_goRound ?_
  refine u_X1_goRound_0 ?_; unfold cm_X1_goRound_0
  exact this
end GOR
/-- what markLoops leaves of a state: labels, how many, a gap of each -/
def LpS (y : ow_MS) (S : ow_NP) (G : Nat → Int32) (c s : Nat) (L : Nat → Nat) (n : Nat) : Prop := (∀ g, g < 2 * c → y.2.1 43002 (16 * s + g) = nI (L g) ∧ L g < n) ∧ y.2.1 43003 s = nI n ∧ (∀ l, l < n → ∃ g, g < 2 * c ∧ y.2.1 43004 (10 * s + l) = nI g ∧ L g = l) ∧ (∀ g g', g < 2 * c → g' < 2 * c → (L g = L g' ↔ rt (uPx S G (tb s) c) g = rt (uPx S G (tb s) c) g')) ∧ n = rtsN (uPx S G (tb s) c) (2 * c)
section MLP
variable {vl : Nat → Nat} {y : ow_MS} {S : ow_NP} {G : Nat → Int32} {c ci : Nat}
theorem LpS_frS {z z1 : ow_MS} {s s' n : Nat} {L : Nat → Nat} (hne : s' ≠ s) (hc : c ≤ 8) (hn : n ≤ 10) (h : frS s z z1) (hL : LpS z S G c s' L n) : LpS z1 S G c s' L n := by
  obtain ⟨-, f2, f3, f4⟩ := h
  obtain ⟨h1, h2, h3, h4, h5⟩ := hL
  refine ⟨fun g hg => ?_, by rw [f3 s' hne]; exact h2, fun l hl => ?_, h4, h5⟩
  · rw [f2 (16 * s' + g) (by omega)]
    exact h1 g hg
  · obtain ⟨g, g1, g2, g3⟩ := h3 l hl
    exact ⟨g, g1, by rw [f4 (10 * s' + l) (by omega)]; exact g2, g3⟩
theorem rtsN_lab {p : Nat → Nat} {V n : Nat} {L : Nat → Nat} (hp : dn p) (h1 : ∀ g, g < V → L g < n) (h2 : ∀ l, l < n → ∃ g, g < V ∧ L g = l) (h3 : ∀ g g', g < V → g' < V → (L g = L g' ↔ rt p g = rt p g')) : n = rtsN p V := by
  refine Nat.le_antisymm ?_ ?_
  · have := rtsN_le (p1 := fun x => x) (p2 := p) (f := fun l => if h : l < n then Classical.choose (h2 l h) else 0) (V1 := n) (V2 := V) hp (fun l hl => ?_) (fun l l' hl hl' e => ?_)
    · have e : rtsN (fun x => x) n = n := by
        have : ∀ m, rtsN (fun x : Nat => x) m = m := by
          intro m
          induction m with
          | zero => rfl
          | succ m ih => rw [rtsN_s, ih, if_pos rfl]
        exact this n
      rw [e] at this
      exact this
    · rw [dif_pos hl]
      exact (Classical.choose_spec (h2 l hl)).1
    · rw [dif_pos hl, dif_pos hl'] at e
      have a := Classical.choose_spec (h2 l hl)
      have b := Classical.choose_spec (h2 l' hl')
      have := (h3 _ _ a.1 b.1).mpr e
      rw [a.2, b.2] at this
      rw [this]
  · unfold rtsN
    have e : (((List.range V).filter (fun g => decide (p g = g))).map L).length = ((List.range V).filter (fun g => decide (p g = g))).length := List.length_map _
    rw [← e]
    have := nodup_le (((List.range V).filter (fun g => decide (p g = g))).map L) (List.range n) (nodup_map (List.nodup_range.filter _) (fun a b ha hb e => ?_)) (fun l hl => ?_)
    · rw [List.length_range] at this
      exact this
    · obtain ⟨a1, a2⟩ := List.mem_filter.mp ha
      obtain ⟨b1, b2⟩ := List.mem_filter.mp hb
      have := (h3 a b (List.mem_range.mp a1) (List.mem_range.mp b1)).mp e
      rw [rt_root (of_decide_eq_true a2), rt_root (of_decide_eq_true b2)] at this
      exact this
    · obtain ⟨g, hg, rfl⟩ := List.mem_map.mp hl
      exact List.mem_range.mpr (h1 g (List.mem_range.mp (List.mem_filter.mp hg).1))
theorem u_X1_markLoops_1 {vl : Nat → Nat} {x1 : Int32} {x2 : Int32} {x3 : Int32} {x4 : Int32} {r0 : Nat} {z : ow_MS} {Q : ow_MS → Prop} (H : Tt (fun K k => cm_X1_markLoops_1 vl K (c_X1_markLoops vl K k) x1 x2 x3 x4 r0 z) Q) : Tt (fun K k => c_X1_markLoops vl K k 1 x1 x2 x3 x4 r0 z) Q := w_un (fun _ _ => rfl) H
theorem u_X1_markLoops_2 {vl : Nat → Nat} {x1 : Int32} {x2 : Int32} {x3 : Int32} {x4 : Int32} {r0 : Nat} {z : ow_MS} {Q : ow_MS → Prop} (H : Tt (fun K k => cm_X1_markLoops_2 vl K (c_X1_markLoops vl K k) x1 x2 x3 x4 r0 z) Q) : Tt (fun K k => c_X1_markLoops vl K k 2 x1 x2 x3 x4 r0 z) Q := w_un (fun _ _ => rfl) H
theorem u_X1_markLoops_3 {vl : Nat → Nat} {x1 : Int32} {x2 : Int32} {x3 : Int32} {x4 : Int32} {r0 : Nat} {z : ow_MS} {Q : ow_MS → Prop} (H : Tt (fun K k => cm_X1_markLoops_3 vl K (c_X1_markLoops vl K k) x1 x2 x3 x4 r0 z) Q) : Tt (fun K k => c_X1_markLoops vl K k 3 x1 x2 x3 x4 r0 z) Q := w_un (fun _ _ => rfl) H
theorem e_X1_markLoops {vl : Nat → Nat} {r0 : Nat} {z : ow_MS} {Q : ow_MS → Prop} (H : Tt (fun K k => c_X1_markLoops vl K k 0 0 0 0 0 r0 z) Q) : Te (fun K => ce_X1_markLoops vl K r0 z) Q := w_te H
theorem u_X1_markLoops_0 {vl : Nat → Nat} {x1 : Int32} {x2 : Int32} {x3 : Int32} {x4 : Int32} {r0 : Nat} {z : ow_MS} {Q : ow_MS → Prop} (H : Tt (fun K k => cm_X1_markLoops_0 vl K (c_X1_markLoops vl K k) x1 x2 x3 x4 r0 z) Q) : Tt (fun K k => c_X1_markLoops vl K k 0 x1 x2 x3 x4 r0 z) Q := w_un (fun _ _ => rfl) H
theorem tc_markLoops (hy : cAt y 44000 (c, ci, S, G)) (hv : vn c S) (hc : c ≤ 8) (hB : ∀ s, s < 2 ^ c → rtsN (uPx S G (tb s) c) (2 * c) ≤ 9) : Te (fun K => ce_X1_markLoops vl K 43000 y) (fun y1 => (∀ s, s < 2 ^ c → ∃ L n, LpS y1 S G c s L n) ∧ fr (fun g => g = 43002 ∨ g = 43003 ∨ g = 43004) y y1) := by
  let Q : ow_MS → Prop := fun y1 => (∀ s, s < 2 ^ c → ∃ L n, LpS y1 S G c s L n) ∧ fr (fun g => g = 43002 ∨ g = 43003 ∨ g = 43004) y y1
  have h2c : 2 ^ c ≤ 256 := two_mono (b := 8) hc
  have hA : ∀ z, fr (fun g => g = 43002 ∨ g = 43003 ∨ g = 43004) y z → cAt z 44000 (c, ci, S, G) := fun z h => cAt_fr h (fun g hg h9 => by unfold cP at hg; omega) hy
  have c1 : ∀ (d s : Nat) (z : ow_MS), s + d = 2 ^ c → (∀ s', s' < s → ∃ L n, LpS z S G c s' L n) → fr (fun g => g = 43002 ∨ g = 43003 ∨ g = 43004) y z → Tt (fun K k => c_X1_markLoops vl K k 1 (nI (2 * c)) (nI s) 0 0 43000 z) Q := by
    intro d
    induction d with
    | zero =>
      intro s z hs hL hf
      refine u_X1_markLoops_1 ?_; unfold cm_X1_markLoops_1
      refine w_rdF (hA z hf).1 ?_
      rw [shl1 (show ((c, ci, S, G) : ow_NT).1 < 31 by show c < 31; omega)]
      exact w_leT (by show s < 2 ^ 31; omega) (show 2 ^ c ≤ s by omega) (w_some ⟨fun s' hs' => hL s' (by omega), hf⟩)
    | succ d ih =>
      intro s z hs hL hf
      -- gaps below g are marked, n labels so far
      have c2 : ∀ (e g n : Nat) (f : Nat → Option Nat) (z1 : ow_MS), g + e = 2 * c → n ≤ g → lbS z1 s c f → clL S G (tb s) c f → (∀ k, k < g → f k ≠ none) → (∀ k l, k < 2 * c → f k = some l → l < n) → (∀ l, l < n → ∃ k, k < 2 * c ∧ z1.2.1 43004 (10 * s + l) = nI k ∧ f k = some l) → (∀ k k' l, k < 2 * c → k' < 2 * c → f k = some l → f k' = some l → rt (uPx S G (tb s) c) k = rt (uPx S G (tb s) c) k') → frS s z z1 → Tt (fun K k => c_X1_markLoops vl K k 2 (nI (2 * c)) (nI s) (nI n) (nI g) 43000 z1) Q := by
        intro e
        induction e with
        | zero =>
          intro g n f z1 hg hng hl hcl hm hln hgap hsame hfr
          have hg : g = 2 * c := by omega
          subst hg
          have hall : ∀ g, g < 2 * c → f g ≠ none := hm
          have fr1 : fr (fun g => g = 43002 ∨ g = 43003 ∨ g = 43004) y z1 := fr_tr hf hfr.1
          have hex : ∀ g, g < 2 * c → ∃ l, f g = some l := fun g hg => by
            cases hfg : f g with
            | none => exact absurd hfg (hall g hg)
            | some l => exact ⟨l, rfl⟩
          have hLp : LpS (usI z1 43003 s (nI n)) S G c s (fun g => (f g).getD 0) n := by
            have k1 : ∀ g, g < 2 * c → (f g).getD 0 < n := fun g hg => by
              obtain ⟨l, hl2⟩ := hex g hg
              rw [hl2]
              exact hln g l hg hl2
            have k3 : ∀ g g', g < 2 * c → g' < 2 * c → ((f g).getD 0 = (f g').getD 0 ↔ rt (uPx S G (tb s) c) g = rt (uPx S G (tb s) c) g') := by
              intro g g' hg hg'
              obtain ⟨l, e1⟩ := hex g hg
              obtain ⟨l', e2⟩ := hex g' hg'
              constructor
              · intro h9
                rw [e1, e2] at h9
                have h9 : l = l' := h9
                rw [← h9] at e2
                exact hsame g g' l hg hg' e1 e2
              · intro h9
                rw [clL_un hv hcl hall hg hg' h9]
            refine ⟨fun g hg => ⟨rd_ot (by omega) ?_, k1 g hg⟩, po_usI_at, fun l hl2 => ?_, k3, rtsN_lab (uPx_dn c) k1 (fun l hl2 => ?_) k3⟩
            · obtain ⟨l, e1⟩ := hex g hg
              dsimp only
              rw [hl g hg, e1]
              rfl
            · obtain ⟨k, q1, q2, q3⟩ := hgap l hl2
              exact ⟨k, q1, rd_ot (by omega) q2, by dsimp only; rw [q3]; rfl⟩
            · obtain ⟨k, q1, q2, q3⟩ := hgap l hl2
              exact ⟨k, q1, by rw [q3]; rfl⟩
          refine u_X1_markLoops_2 ?_; unfold cm_X1_markLoops_2
          refine w_leT (by omega) (by omega) (w_ctI ch_43003 rfl (by omega) ?_)
          rw [nI_1]
          refine ih (s + 1) _ (by omega) (fun s' hs' => ?_) (fr_tr fr1 frS_3.1)
          by_cases e9 : s' = s
          · rw [e9]
            exact ⟨_, n, hLp⟩
          · obtain ⟨L, n', hLs⟩ := hL s' (by omega)
            have hn' : n' ≤ 10 := by
              have := hB s' (by omega)
              rw [hLs.2.2.2.2]
              omega
            exact ⟨L, n', LpS_frS e9 hc hn' (frS_tr hfr frS_3) hLs⟩
        | succ e ihe =>
          intro g n f z1 hg hng hl hcl hm hln hgap hsame hfr
          have hgc : g < 2 * c := by omega
          have n9 : n ≤ 9 := by
            have := rtsN_le (p1 := fun x => x) (p2 := uPx S G (tb s) c) (f := fun l => if h : l < n then Classical.choose (hgap l h) else 0) (V1 := n) (V2 := 2 * c) (uPx_dn c) (fun l hl2 => ?_) (fun l l' hl2 hl2' e9 => ?_)
            · have e9 : rtsN (fun x : Nat => x) n = n := by
                have : ∀ m, rtsN (fun x : Nat => x) m = m := by
                  intro m
                  induction m with
                  | zero => rfl
                  | succ m ih => rw [rtsN_s, ih, if_pos rfl]
                exact this n
              rw [e9] at this
              exact Nat.le_trans this (hB s (by omega))
            · rw [dif_pos hl2]
              exact (Classical.choose_spec (hgap l hl2)).1
            · rw [dif_pos hl2, dif_pos hl2'] at e9
              have a := Classical.choose_spec (hgap l hl2)
              have b := Classical.choose_spec (hgap l' hl2')
              have key : l = l' := by
                have key := uPx_min (M := fun k => (f k).getD n) hv (fun x hx => ?_) c (Nat.le_refl _) _ _ a.1 b.1 e9
                · have key : (f (Classical.choose (hgap l hl2))).getD n = (f (Classical.choose (hgap l' hl2'))).getD n := key
                  rw [a.2.2, b.2.2] at key
                  exact key
                · exact clL_gd hcl hx
              rw [key]
          have hfl : ∀ k l, k < 2 * c → f k = some l → l < 16 := fun k l hk h9 => by
            have := hln k l hk h9
            omega
          have fr1 : fr (fun g => g = 43002 ∨ g = 43003 ∨ g = 43004) y z1 := fr_tr hf hfr.1
          have c3 : ∀ (n' : Nat) (f' : Nat → Option Nat) (z2 : ow_MS), n' ≤ g + 1 → lbS z2 s c f' → clL S G (tb s) c f' → (∀ k, k < g + 1 → f' k ≠ none) → (∀ k l, k < 2 * c → f' k = some l → l < n') → (∀ l, l < n' → ∃ k, k < 2 * c ∧ z2.2.1 43004 (10 * s + l) = nI k ∧ f' k = some l) → (∀ k k' l, k < 2 * c → k' < 2 * c → f' k = some l → f' k' = some l → rt (uPx S G (tb s) c) k = rt (uPx S G (tb s) c) k') → frS s z z2 → Tt (fun K k => c_X1_markLoops vl K k 3 (nI (2 * c)) (nI s) (nI n') (nI g) 43000 z2) Q := by
            intro n' f' z2 a1 a2 a3 a4 a5 a6 a7 a8
            refine u_X1_markLoops_3 ?_; unfold cm_X1_markLoops_3
            rw [nI_1]
            exact ihe (g + 1) n' f' z2 (by omega) a1 a2 a3 a4 a5 a6 a7 a8
          by_cases hfg : f g = none
          · refine u_X1_markLoops_2 ?_; unfold cm_X1_markLoops_2
            rw [i16, i10]
            refine w_leF (by omega) (by omega) (w_crI ch_43002 rfl (by omega) ((hl g hgc).trans (by rw [hfg]; rfl)) (w_ifT rfl (w_ctB ch_43004 rfl (by omega) ?_)))
            rw [show vp_nar .byte ((nI g).toInt8.toInt32) = nI g from (byt ⟨g, by omega⟩).1]
            have fz : frS s z1 (usI z1 43004 (10 * s + n) (nI g)) := frS_4 (by omega)
            refine w_cs0 (tc_goRound (ci := ci) (hA _ (fr_tr fr1 fz.1)) hv hc (by omega) (show n < 16 by omega) hgc (fun k hk => rd_ot (by omega) (hl k hk)) hfg hcl hfl) ?_
            rintro z2 ⟨f1, g1, g2, g3, g4, g5, g6, g7⟩
            have fz2 : frS s (usI z1 43004 (10 * s + n) (nI g)) z2 := ⟨fr_mono (fun q hq => Or.inl hq) g6, g7, fun i _ => by rw [(g6 43003 (by decide)).2.1], fun i _ => by rw [(g6 43004 (by decide)).2.1]⟩
            rw [nI_1]
            refine c3 (n + 1) f1 z2 (by omega) g1 g2 (fun k hk => ?_) (fun k l hk h9 => ?_) (fun l hl2 => ?_) (fun k k' l hk hk' h9 h8 => ?_) (frS_tr hfr (frS_tr fz fz2))
            · by_cases e9 : k = g
              · rw [e9, g3]
                simp
              · rw [g4 k (by omega) (hm k (by omega))]
                exact hm k (by omega)
            · by_cases hfk : f k = none
              · have := (g5 k l hk h9 hfk).1
                omega
              · rw [g4 k hk hfk] at h9
                have := hln k l hk h9
                omega
            · rw [(g6 43004 (by decide)).2.1]
              by_cases e9 : l = n
              · rw [e9]
                exact ⟨g, hgc, po_usI_at, g3⟩
              · obtain ⟨k, q1, q2, q3⟩ := hgap l (by omega)
                refine ⟨k, q1, rd_ne (by omega) q2, ?_⟩
                rw [g4 k q1 (by rw [q3]; simp)]
                exact q3
            · by_cases hfk : f k = none
              · obtain ⟨e1, r1⟩ := g5 k l hk h9 hfk
                by_cases hfk' : f k' = none
                · rw [r1, (g5 k' l hk' h8 hfk').2]
                · rw [g4 k' hk' hfk'] at h8
                  have := hln k' l hk' h8
                  omega
              · rw [g4 k hk hfk] at h9
                have hlt := hln k l hk h9
                by_cases hfk' : f k' = none
                · have := (g5 k' l hk' h8 hfk').1
                  omega
                · rw [g4 k' hk' hfk'] at h8
                  exact hsame k k' l hk hk' h9 h8
          · obtain ⟨l0, hl0⟩ : ∃ l, f g = some l := by
              cases h9 : f g with
              | none => exact absurd h9 hfg
              | some l => exact ⟨l, rfl⟩
            have hl016 := hfl g l0 hgc hl0
            refine u_X1_markLoops_2 ?_; unfold cm_X1_markLoops_2
            rw [i16]
            refine w_leF (by omega) (by omega) (w_crI ch_43002 rfl (by omega) ((hl g hgc).trans (by rw [hl0])) (w_ifF (oM_n (by omega)) (c3 n f z1 (by omega) hl hcl (fun k hk => ?_) hln hgap hsame hfr)))
            by_cases e9 : k = g
            · rw [e9]
              exact hfg
            · exact hm k (by omega)
      refine u_X1_markLoops_1 ?_; unfold cm_X1_markLoops_1
      refine w_rdF (hA z hf).1 ?_
      rw [shl1 (show ((c, ci, S, G) : ow_NT).1 < 31 by show c < 31; omega), show nI s * (16 : Int32) = nI (16 * s) from by rw [show nI s * (16 : Int32) = nI (s * 16) from pk_mul _ 16, Nat.mul_comm], nI_add]
      refine w_leF (show 2 ^ c < 2 ^ 31 by omega) (show s < 2 ^ c by omega) (w_cs0 (tc_fillB ch_43002 (by omega) (by omega) (by omega) m1b) ?_)
      rintro z1 ⟨g1, g2⟩
      refine c2 (2 * c) 0 0 (fun _ => none) z1 (by omega) (by omega) (fun g hg => ?_) (fun d l _ h9 => by cases h9) (fun k hk => absurd hk (by omega)) (fun k l _ h9 => by cases h9) (fun l hl2 => absurd hl2 (by omega)) (fun k k' l _ _ h9 => by cases h9) ⟨fr_mono (fun q hq => Or.inl hq) g2, fun i hi => ?_, fun i _ => by rw [(g2 43003 (by decide)).2.1], fun i _ => by rw [(g2 43004 (by decide)).2.1]⟩
      · rw [g1, if_pos (by omega)]
        rfl
      · rw [g1, if_neg (by omega)]
  refine e_X1_markLoops ?_
  refine u_X1_markLoops_0 ?_; unfold cm_X1_markLoops_0
  refine w_rdF hy.1 ?_
  rw [rn_mul2]
  exact c1 (2 ^ c) 0 y (by omega) (fun s' hs' => absurd hs' (by omega)) fr_rf
end MLP
end
