/-! nets by their components: whole nets -/
def rmv (A : rn_L) (r : vT) : rn_L := A.map (List.filter (fun p => decide (p ≠ r)))
theorem rmv_fl {A : rn_L} {r : vT} : (rmv A r).flatten = A.flatten.filter (fun p => decide (p ≠ r)) := (List.filter_flatten).symm
theorem rmv_mem {A : rn_L} {r p : vT} : p ∈ (rmv A r).flatten ↔ p ∈ A.flatten ∧ p ≠ r := by
  rw [rmv_fl, List.mem_filter, decide_eq_true_iff]
theorem rmv_nd {A : rn_L} {r : vT} (h : A.flatten.Nodup) : (rmv A r).flatten.Nodup := by
  rw [rmv_fl]
  exact h.filter _
theorem fil_1 {F : List vT} {r : vT} (hn : F.Nodup) (hr : r ∈ F) : (F.filter (fun p => decide (p ≠ r))).length + 1 = F.length := by
  have h1 := filt_sum (fun p : vT => decide (p ≠ r)) F
  have h2 : (F.filter (fun p => !decide (p ≠ r))).length = 1 := by
    refine nodup_eq (l2 := [r]) (hn.filter _) (List.pairwise_singleton _ _) (fun a => ?_)
    rw [List.mem_filter, List.mem_singleton]
    constructor
    · rintro ⟨-, h⟩
      simpa using h
    · rintro rfl
      exact ⟨hr, by simp⟩
  omega
theorem fil_n {L : List vT} {r : vT} (h : r ∉ L) : L.filter (fun p => decide (p ≠ r)) = L := by
  rw [List.filter_eq_self]
  intro a ha
  exact decide_eq_true (fun e => h (by rw [← e]; exact ha))
theorem fil_m {X Y : List vT} {r : vT} (h : (X ++ r :: Y).Nodup) : (X ++ r :: Y).filter (fun p => decide (p ≠ r)) = X ++ Y := by
  obtain ⟨h1, h2⟩ := nd_mid h
  rw [List.filter_append, List.filter_cons_of_neg (by simp), fil_n h1, fil_n h2]
theorem L_nd {A : rn_L} (hn : A.flatten.Nodup) {L : List vT} (hL : L ∈ A) : L.Nodup := by
  induction A with
  | nil => cases hL
  | cons B A ih =>
    rw [List.flatten_cons] at hn
    have hd := List.nodup_append.mp hn
    rcases List.mem_cons.mp hL with e | h
    · rw [e]
      exact hd.1
    · exact ih hd.2.1 h
theorem gin_L {g : vT → Nat} {A : rn_L} (hg : gin g A.flatten) {L : List vT} (hL : L ∈ A) : gin g L := fun p q hp hq => hg p q (List.mem_flatten.mpr ⟨L, hL, hp⟩) (List.mem_flatten.mpr ⟨L, hL, hq⟩)
section OP
variable {S : ow_NP} {g : vT → Nat} {A : rn_L} {r : vT}
theorem cirs_rmv (hn : A.flatten.Nodup) {L : List vT} (hL : L ∈ A) (hr : r ∈ L) : cirs (rmv A r) = cirs A + if L = [r] then 1 else 0 := by
  induction A with
  | nil => cases hL
  | cons B A ih =>
    rw [List.flatten_cons] at hn
    have hd := List.nodup_append.mp hn
    show List.countP _ (_ :: _) = _
    unfold cirs
    rw [List.countP_cons, List.countP_cons]
    by_cases e : r ∈ B
    · have eL : L = B := one_L (A := B :: A) (by rw [List.flatten_cons]; exact hn) hL List.mem_cons_self hr e
      subst eL
      have rest : A.map (List.filter (fun p => decide (p ≠ r))) = A := by
        refine (List.map_congr_left (fun K hK => fil_n (fun h9 => ?_))).trans (List.map_id _)
        exact hd.2.2 r hr r (List.mem_flatten.mpr ⟨K, hK, h9⟩) rfl
      rw [rest]
      obtain ⟨X, Y, rfl⟩ := List.append_of_mem hr
      rw [fil_m hd.1]
      cases X with
      | nil =>
        cases Y with
        | nil => simp
        | cons b Y => simp
      | cons a X => simp
    · have eL : L ∈ A := (List.mem_cons.mp hL).resolve_left (fun h9 => e (by rw [← h9]; exact hr))
      have := ih hd.2.1 eL
      unfold cirs at this
      rw [fil_n e]
      show List.countP _ (rmv A r) + _ = _
      rw [this]
      omega
/-- a visit is cut out of a net -/
theorem shP_cut (hn : A.flatten.Nodup) (hg : gin g A.flatten) (h : shP S g A) (hr : r ∈ A.flatten) : shP (np_cut S (g r)) g (rmv A r) ∧ cirs (rmv A r) = np_cutN S (g r) (cirs A) := by
  obtain ⟨L, hL, hrL⟩ := List.mem_flatten.mp hr
  have nL := L_nd hn hL
  have gL := gin_L hg hL
  obtain ⟨q, hq, e⟩ := sc_pre nL hrL
  obtain ⟨r1, r2⟩ := h L hL r hrL
  obtain ⟨q1, q2⟩ := h L hL q hq
  rw [e] at q1 q2
  have hs := sc_in hrL nL
  constructor
  · intro K hK
    obtain ⟨M, hM, rfl⟩ := List.mem_map.mp hK
    by_cases c : r ∈ M
    · have eM := one_L hn hM hL c hrL
      subst eM
      obtain ⟨X, Y, rfl⟩ := List.append_of_mem hrL
      rw [fil_m nL]
      exact shL_cut nL gL (h _ hL)
    · rw [fil_n c]
      have far : ∀ p a, p ∈ M → a ∈ L → g p ≠ g a := fun p a hp ha e9 => by
        have := hg p a (List.mem_flatten.mpr ⟨M, hM, hp⟩) (List.mem_flatten.mpr ⟨L, hL, ha⟩) e9
        rw [this] at hp
        exact c (by rw [one_L hn hM hL hp ha]; exact hrL)
      refine shL_k (L_nd hn hM) (fun p _ => rfl) (fun p hp => ?_) (h M hM)
      by_cases hself : S.1 (g r) = g r
      · rw [show np_cut S (g r) = S from if_pos hself]
        exact ⟨rfl, rfl⟩
      · rw [show np_cut S (g r) = nl S (S.2 (g r)) (S.1 (g r)) from if_neg hself, nl_1, nl_2, q2, r1, if_neg (far p q hp hq), if_neg (far p _ hp hs)]
        exact ⟨rfl, rfl⟩
  · rw [cirs_rmv hn hL hrL]
    unfold np_cutN
    by_cases c : L = [r]
    · subst c
      rw [if_pos rfl, if_pos (by rw [r1]; rfl)]
    · rw [if_neg c, if_neg (fun h9 => c (sc_self nL hrL (gL _ _ hs hrL (by rw [← r1]; exact h9))))]
      rfl
/-- a visit gets another name -/
theorem shP_ren {n : Nat} (hn : A.flatten.Nodup) (hg : gin g A.flatten) (hf : ∀ p, p ∈ A.flatten → g p ≠ n) (h : shP S g A) (hr : r ∈ A.flatten) : shP (np_rename S (g r) n) (fun p => if p = r then n else g p) A := by
  obtain ⟨L, hL, hrL⟩ := List.mem_flatten.mp hr
  have nL := L_nd hn hL
  have gL := gin_L hg hL
  obtain ⟨q, hq, e⟩ := sc_pre nL hrL
  obtain ⟨r1, r2⟩ := h L hL r hrL
  obtain ⟨q1, q2⟩ := h L hL q hq
  rw [e] at q1 q2
  have hs := sc_in hrL nL
  intro M hM
  by_cases c : r ∈ M
  · have eM := one_L hn hM hL c hrL
    subst eM
    exact shL_ren nL hrL gL (fun p hp => hf p (List.mem_flatten.mpr ⟨M, hM, hp⟩)) (h M hM)
  · have far : ∀ p a, p ∈ M → a ∈ L → g p ≠ g a := fun p a hp ha e9 => by
      have := hg p a (List.mem_flatten.mpr ⟨M, hM, hp⟩) (List.mem_flatten.mpr ⟨L, hL, ha⟩) e9
      rw [this] at hp
      exact c (by rw [one_L hn hM hL hp ha]; exact hrL)
    refine shL_k (L_nd hn hM) (fun p hp => if_neg (fun e9 => c (by rw [← e9]; exact hp))) (fun p hp => ?_) (h M hM)
    have fp := hf p (List.mem_flatten.mpr ⟨M, hM, hp⟩)
    by_cases hself : S.1 (g r) = g r
    · rw [show np_rename S (g r) n = nl S n n from if_pos hself, nl_1, nl_2, if_neg fp, if_neg fp]
      exact ⟨rfl, rfl⟩
    · have hk : (nl S (S.2 (g r)) n).1 (g r) = g (sc L r) := by
        have hqr : q ≠ r := fun h9 => hself (by rw [← h9, q1, h9])
        rw [nl_1, q2, if_neg (fun h9 => hqr (gL _ _ hq hrL h9.symm))]
        exact r1
      rw [show np_rename S (g r) n = nl (nl S (S.2 (g r)) n) n ((nl S (S.2 (g r)) n).1 (g r)) from if_neg hself, hk, q2, nl_1, nl_2, if_neg fp, if_neg (far p _ hp hs), nl_1, nl_2, if_neg (far p q hp hq), if_neg fp]
      exact ⟨rfl, rfl⟩
end OP
/-- a net and the components that it shows, with both links -/
def isoV (A : rn_L) (sg : Nat → Bool) (f : Nat → Nat) (T : ow_NT) : Prop := isoS A sg f T ∧ shP T.2.2.1 (gl f) A
theorem gl_gin {A : rn_L} {sg : Nat → Bool} {f : Nat → Nat} {T : ow_NT} (h : isoS A sg f T) : gin (gl f) A.flatten := by
  intro p q hp hq e
  have h1 := (h.1.2 p hp).2.1
  have h2 := (h.1.2 q hq).2.1
  unfold gl at e
  have e1 : f p.1 = f q.1 := by omega
  exact Prod.ext (h.2.2.2.2.1 p q hp hq e1) (by omega)
theorem isoV_of {A : rn_L} {sg : Nat → Bool} {f : Nat → Nat} {T : ow_NT} (h : isoN A sg f T) (hv : vn T.1 T.2.2.1) : isoV A sg f T := by
  have hs := isoS_iff.mpr h
  refine ⟨hs, fun L hL p hp => ?_⟩
  have hpf : p ∈ A.flatten := List.mem_flatten.mpr ⟨L, hL, hp⟩
  have e := hs.2.2.2.2.2.1 L hL p hp
  refine ⟨e, ?_⟩
  rw [← e]
  have h1 := hs.2.2.2.1 p hpf
  have h2 := (hs.1.2 p hpf).2.1
  refine (hv (gl f p) ?_).2.2.1
  unfold gl
  omega
theorem isoV_vn {A : rn_L} {sg : Nat → Bool} {f : Nat → Nat} {T : ow_NT} (h : isoV A sg f T) : vn T.1 T.2.2.1 := by
  have hN := isoS_iff.mp h.1
  intro k hk
  obtain ⟨v, hv, e⟩ := lbv_sur hN hk
  have hm := vAt_mem hv
  obtain ⟨L, hL, hp⟩ := List.mem_flatten.mp hm
  have nL := L_nd h.1.1.1 hL
  have lt : ∀ p, p ∈ L → gl f p < 2 * T.1 := fun p hp => by
    have hpf : p ∈ A.flatten := List.mem_flatten.mpr ⟨L, hL, hp⟩
    have h1 := h.1.2.2.2.1 p hpf
    have h2 := (h.1.1.2 p hpf).2.1
    unfold gl
    omega
  have e' : gl f (vAt A v) = k := e
  obtain ⟨a1, a2⟩ := h.2 L hL _ hp
  obtain ⟨q, hq, e2⟩ := sc_pre nL hp
  obtain ⟨b1, b2⟩ := h.2 L hL q hq
  rw [e2] at b1 b2
  rw [← e']
  refine ⟨?_, ?_, ?_, ?_⟩
  · rw [a1]
    exact lt _ (sc_in hp nL)
  · rw [b2]
    exact lt _ hq
  · rw [a1, a2]
  · rw [b2, b1]
/-- a crossing goes out of the components -/
def wox (A : rn_L) (x : Nat) : rn_L := rmv (rmv A (x, 0)) (x, 1)
theorem wox_mem {A : rn_L} {x : Nat} {p : vT} (h : ∀ p, p ∈ A.flatten → p.2 < 2) : p ∈ (wox A x).flatten ↔ p ∈ A.flatten ∧ p.1 ≠ x := by
  unfold wox
  rw [rmv_mem, rmv_mem]
  constructor
  · rintro ⟨⟨h1, h2⟩, h3⟩
    refine ⟨h1, fun e => ?_⟩
    have := h p h1
    have : p.2 = 0 ∨ p.2 = 1 := by omega
    rcases this with h4 | h4
    · exact h2 (Prod.ext e h4)
    · exact h3 (Prod.ext e h4)
  · rintro ⟨h1, h2⟩
    exact ⟨⟨h1, fun e => h2 (by rw [e])⟩, fun e => h2 (by rw [e])⟩
theorem iso_rm {A : rn_L} {sg : Nat → Bool} {f : Nat → Nat} {T : ow_NT} {x0 : Nat} (h : isoV A sg f T) (hx : (x0, 0) ∈ A.flatten) : ∃ f', isoV (wox A x0) sg f' (nt_rm T (f x0)) ∧ ∀ y, f' y = if f y = T.1 - 1 then f x0 else f y := by
  obtain ⟨⟨h1, h2, h3, h4, h5, h6, h7, h8⟩, hP⟩ := id h
  have hg := gl_gin h.1
  have hx1 : (x0, 1) ∈ A.flatten := (h1.2 _ hx).2.2
  have hxc : f x0 < T.1 := h4 _ hx
  have hu : ∀ p, p ∈ A.flatten → p.2 < 2 := fun p hp => (h1.2 p hp).2.1
  obtain ⟨p1, c1⟩ := shP_cut h1.1 hg hP hx
  have n1 := rmv_nd (r := (x0, 0)) h1.1
  have g1 : gin (gl f) (rmv A (x0, 0)).flatten := fun p q hp hq => hg p q (rmv_mem.mp hp).1 (rmv_mem.mp hq).1
  have hx1' : (x0, 1) ∈ (rmv A (x0, 0)).flatten := rmv_mem.mpr ⟨hx1, fun e => by cases e⟩
  obtain ⟨p2, c2⟩ := shP_cut n1 g1 p1 hx1'
  have n2 : (wox A x0).flatten.Nodup := rmv_nd n1
  have g2 : gin (gl f) (wox A x0).flatten := fun p q hp hq => g1 p q (rmv_mem.mp hp).1 (rmv_mem.mp hq).1
  have e0 : gl f (x0, 0) = 2 * f x0 := rfl
  have e1 : gl f (x0, 1) = 2 * f x0 + 1 := rfl
  rw [e0] at p1 c1 p2 c2
  rw [e1] at p2 c2
  have hmem : ∀ p, p ∈ (wox A x0).flatten ↔ p ∈ A.flatten ∧ p.1 ≠ x0 := fun p => wox_mem hu
  have hci : cirs (wox A x0) = np_rmN T.2.2.1 (f x0) T.2.1 := by
    show cirs (rmv (rmv A (x0, 0)) (x0, 1)) = _
    rw [c2, c1, h8]
    rfl
  have hlen : (wox A x0).flatten.length + 2 = 2 * T.1 := by
    have l1 := fil_1 h1.1 hx
    have l2 := fil_1 n1 hx1'
    rw [← rmv_fl] at l1 l2
    have : (wox A x0).flatten.length = (rmv (rmv A (x0, 0)) (x0, 1)).flatten.length := rfl
    omega
  have hwk : wkF (wox A x0).flatten := by
    refine ⟨n2, fun p hp => ?_⟩
    obtain ⟨a, b⟩ := (hmem p).mp hp
    obtain ⟨k1, k2, k3⟩ := h1.2 p a
    exact ⟨k1, k2, (hmem _).mpr ⟨k3, b⟩⟩
  have hfx : ∀ p, p ∈ (wox A x0).flatten → f p.1 ≠ f x0 := fun p hp e => ((hmem p).mp hp).2 (h5 p (x0, 0) ((hmem p).mp hp).1 hx e)
  refine ⟨fun y => if f y = T.1 - 1 then f x0 else f y, ?_, fun y => rfl⟩
  have hf' : ∀ p, p ∈ (wox A x0).flatten → (if f p.1 = T.1 - 1 then f x0 else f p.1) < T.1 - 1 := by
    intro p hp
    have a := h4 p ((hmem p).mp hp).1
    have b := hfx p hp
    split <;> omega
  have hinj : ∀ p q, p ∈ (wox A x0).flatten → q ∈ (wox A x0).flatten → (if f p.1 = T.1 - 1 then f x0 else f p.1) = (if f q.1 = T.1 - 1 then f x0 else f q.1) → p.1 = q.1 := by
    intro p q hp hq e
    have a := hfx p hp
    have b := hfx q hq
    refine h5 p q ((hmem p).mp hp).1 ((hmem q).mp hq).1 ?_
    split at e <;> split at e <;> omega
  have hsg : ∀ p, p ∈ (wox A x0).flatten → (np_rmG T.2.2.2 (f x0) (T.1 - 1) (if f p.1 = T.1 - 1 then f x0 else f p.1) < 0 ↔ sg p.1 = true) := by
    intro p hp
    have a := hfx p hp
    rw [← h7 p ((hmem p).mp hp).1]
    unfold np_rmG
    by_cases cx : f x0 = T.1 - 1
    · rw [if_pos cx, if_neg (fun e => a (by rw [e, cx]))]
    · rw [if_neg cx]
      by_cases cp : f p.1 = T.1 - 1
      · rw [if_pos cp, cp, show su T.2.2.2 (f x0) (T.2.2.2 (T.1 - 1)) (f x0) = T.2.2.2 (T.1 - 1) from if_pos rfl]
      · rw [if_neg cp, show su T.2.2.2 (f x0) (T.2.2.2 (T.1 - 1)) (f p.1) = T.2.2.2 (f p.1) from if_neg a]
  have main : shP (np_rmS T.2.2.1 (f x0) (T.1 - 1)) (gl (fun y => if f y = T.1 - 1 then f x0 else f y)) (wox A x0) := by
    unfold np_rmS
    by_cases cx : f x0 = T.1 - 1
    · rw [if_pos cx]
      intro L hL
      refine shL_k (g := gl f) (L_nd n2 hL) (fun p hp => ?_) (fun p hp => ⟨rfl, rfl⟩) (p2 L hL)
      have := hfx p (List.mem_flatten.mpr ⟨L, hL, hp⟩)
      unfold gl
      dsimp only
      rw [if_neg (fun e => this (by rw [e, cx]))]
    · rw [if_neg cx]
      have hN := isoS_iff.mp h.1
      obtain ⟨v, hv, ev⟩ := lbv_sur hN (k := 2 * (T.1 - 1)) (by omega)
      have hm := vAt_mem hv
      have hu0 := hu _ hm
      have ev' : 2 * f (vAt A v).1 + (vAt A v).2 = 2 * (T.1 - 1) := ev
      generalize hy : vAt A v = y at *
      obtain ⟨y0, yu⟩ := y
      dsimp only at hu0 ev'
      have hyu : yu = 0 := by omega
      subst hyu
      have hfy : f y0 = T.1 - 1 := by omega
      have hyx : y0 ≠ x0 := fun e => cx (by rw [← e]; exact hfy)
      have m0 : (y0, 0) ∈ (wox A x0).flatten := (hmem _).mpr ⟨hm, hyx⟩
      have m1 : (y0, 1) ∈ (wox A x0).flatten := (hmem _).mpr ⟨(h1.2 _ hm).2.2, hyx⟩
      have k0 : gl f (y0, 0) = 2 * (T.1 - 1) := by
        unfold gl
        dsimp only
        omega
      have r1 := shP_ren (n := 2 * f x0) n2 g2 (fun p hp e => hfx p hp (by
        have := hu p ((hmem p).mp hp).1
        unfold gl at e
        omega)) p2 m0
      rw [k0] at r1
      have g3 : gin (fun p => if p = (y0, 0) then 2 * f x0 else gl f p) (wox A x0).flatten := by
        intro p q hp hq e
        dsimp only at e
        have ap := hfx p hp
        have aq := hfx q hq
        have up := hu p ((hmem p).mp hp).1
        have uq := hu q ((hmem q).mp hq).1
        by_cases cp : p = (y0, 0)
        · by_cases cq : q = (y0, 0)
          · rw [cp, cq]
          · rw [if_pos cp, if_neg cq] at e
            unfold gl at e
            omega
        · by_cases cq : q = (y0, 0)
          · rw [if_neg cp, if_pos cq] at e
            unfold gl at e
            omega
          · rw [if_neg cp, if_neg cq] at e
            exact g2 p q hp hq e
      have k1 : (if ((y0, 1) : vT) = (y0, 0) then 2 * f x0 else gl f (y0, 1)) = 2 * (T.1 - 1) + 1 := by
        rw [if_neg (fun e => by cases e)]
        unfold gl
        dsimp only
        omega
      have r2 := shP_ren (n := 2 * f x0 + 1) n2 g3 (fun p hp e => by
        have ap := hfx p hp
        have up := hu p ((hmem p).mp hp).1
        by_cases cp : p = (y0, 0)
        · rw [if_pos cp] at e
          omega
        · rw [if_neg cp] at e
          unfold gl at e
          omega) r1 m1
      rw [k1] at r2
      intro L hL
      refine shL_k (L_nd n2 hL) (fun p hp => ?_) (fun p hp => ⟨rfl, rfl⟩) (r2 L hL)
      have hpf : p ∈ (wox A x0).flatten := List.mem_flatten.mpr ⟨L, hL, hp⟩
      have up := hu p ((hmem p).mp hpf).1
      by_cases cy : p.1 = y0
      · have c01 : p.2 = 0 ∨ p.2 = 1 := by omega
        rcases c01 with c0 | c0
        · have ep : p = (y0, 0) := Prod.ext cy c0
          rw [ep]
          unfold gl
          dsimp only
          rw [if_pos hfy, if_neg (fun e => by cases e), if_pos rfl]
          rfl
        · have ep : p = (y0, 1) := Prod.ext cy c0
          rw [ep]
          unfold gl
          dsimp only
          rw [if_pos hfy, if_pos rfl]
      · rw [if_neg (fun e => cy (by rw [e])), if_neg (fun e => cy (by rw [e]))]
        unfold gl
        dsimp only
        rw [if_neg (fun e => cy (h5 p (y0, 0) ((hmem p).mp hpf).1 hm (by rw [e]; exact hfy.symm)))]
  exact ⟨⟨hwk, by show _ = 2 * (T.1 - 1); omega, by show T.1 - 1 ≤ 12; omega, hf', hinj, fun L hL p hp => (main L hL p hp).1, hsg, hci⟩, main⟩
