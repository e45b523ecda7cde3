/-! visits that come into a list, by name; what net shows it -/
def insL (p : vT) (P : List vT) (L : List vT) : List vT := L.flatMap (fun q => if q = p then q :: P else [q])
def insV (A : rn_L) (p : vT) (P : List vT) : rn_L := A.map (insL p P)
section XINS
variable {A Pre Post : rn_L} {p r r' : vT} {P X Y C L : List vT} {g : vT → Nat} {S : ow_NP}
theorem insL_no : ∀ {L : List vT}, p ∉ L → insL p P L = L
  | [], _ => rfl
  | q :: L, h => by
    have h1 : q ≠ p := fun e => h (by rw [e]; exact List.mem_cons_self)
    have ih := insL_no (L := L) (fun h9 => h (List.mem_cons_of_mem _ h9))
    unfold insL at ih ⊢
    rw [List.flatMap_cons, if_neg h1, ih]
    rfl
theorem insL_mid (h : (X ++ p :: Y).Nodup) : insL p P (X ++ p :: Y) = X ++ p :: (P ++ Y) := by
  obtain ⟨h1, h2⟩ := nd_mid h
  have e1 := insL_no (P := P) h1
  have e2 := insL_no (P := P) h2
  unfold insL at e1 e2 ⊢
  rw [List.flatMap_append, List.flatMap_cons, if_pos rfl, e1, e2]
  rfl
theorem dj_L (hn : (Pre ++ C :: Post).flatten.Nodup) (hL : L ∈ Pre ∨ L ∈ Post) {q s : vT} (hq : q ∈ L) (hs : s ∈ C) : q ≠ s := by
  rw [List.flatten_append, List.flatten_cons] at hn
  have h1 := List.nodup_append.mp hn
  have h2 := List.nodup_append.mp h1.2.1
  rcases hL with hL | hL
  · exact h1.2.2 q (List.mem_flatten.mpr ⟨L, hL, hq⟩) s (List.mem_append_left _ hs)
  · exact fun e => h2.2.2 s hs q (List.mem_flatten.mpr ⟨L, hL, hq⟩) e.symm
theorem insV_at (hn : A.flatten.Nodup) (hp : p ∈ A.flatten) : ∃ Pre X Y Post, A = Pre ++ (X ++ p :: Y) :: Post ∧ ∀ P, insV A p P = Pre ++ (X ++ p :: (P ++ Y)) :: Post := by
  obtain ⟨L, hL, hpL⟩ := List.mem_flatten.mp hp
  have nL := L_nd hn hL
  obtain ⟨Pre, Post, rfl⟩ := List.append_of_mem hL
  obtain ⟨X, Y, rfl⟩ := List.append_of_mem hpL
  refine ⟨Pre, X, Y, Post, rfl, fun P => ?_⟩
  unfold insV
  have rest : ∀ B : rn_L, (∀ K, K ∈ B → K ∈ Pre ∨ K ∈ Post) → B.map (insL p P) = B := fun B hB => (List.map_congr_left (fun K hK => insL_no (fun h9 => dj_L hn (hB K hK) h9 (by simp) rfl))).trans (List.map_id _)
  rw [List.map_append, List.map_cons, insL_mid nL, rest Pre (fun K h => Or.inl h), rest Post (fun K h => Or.inr h)]
theorem set_at {i : Nat} (h : A[i]? = some C) : ∃ Pre Post, A = Pre ++ C :: Post ∧ ∀ P, A.set i P = Pre ++ P :: Post := by
  obtain ⟨h1, h2⟩ := List.getElem?_eq_some_iff.mp h
  have e1 : ∀ P, A.set i P = A.take i ++ P :: A.drop (i + 1) := fun P => List.set_eq_take_append_cons_drop ..  |>.trans (if_pos h1)
  refine ⟨A.take i, A.drop (i + 1), ?_, e1⟩
  rw [← e1 C, ← h2]
  exact (List.set_getElem_self h1).symm
theorem pm_mid : (Pre ++ (X ++ p :: (P ++ Y)) :: Post).flatten.Perm ((Pre ++ (X ++ p :: Y) :: Post).flatten ++ P) := by
  rw [List.flatten_append, List.flatten_cons, List.flatten_append, List.flatten_cons, List.append_assoc Pre.flatten]
  refine List.Perm.append_left _ ?_
  have e1 : (X ++ p :: (P ++ Y)) ++ Post.flatten = (X ++ [p]) ++ (P ++ (Y ++ Post.flatten)) := by simp
  have e2 : ((X ++ p :: Y) ++ Post.flatten) ++ P = (X ++ [p]) ++ ((Y ++ Post.flatten) ++ P) := by simp
  rw [e1, e2]
  exact List.Perm.append_left _ List.perm_append_comm
theorem pm_set : (Pre ++ P :: Post).flatten.Perm ((Pre ++ [] :: Post).flatten ++ P) := by
  rw [List.flatten_append, List.flatten_cons, List.flatten_append, List.flatten_cons, List.append_assoc, List.nil_append]
  exact List.Perm.append_left _ List.perm_append_comm
theorem insV_pm (hn : A.flatten.Nodup) (hp : p ∈ A.flatten) : (insV A p P).flatten.Perm (A.flatten ++ P) := by
  obtain ⟨Pre, X, Y, Post, rfl, e⟩ := insV_at hn hp
  rw [e]
  exact pm_mid
theorem setE_pm {i : Nat} (h : A[i]? = some []) : (A.set i P).flatten.Perm (A.flatten ++ P) := by
  obtain ⟨Pre, Post, rfl, e⟩ := set_at h
  rw [e]
  exact pm_set
theorem insV_cirs (hn : A.flatten.Nodup) (hp : p ∈ A.flatten) : cirs (insV A p P) = cirs A := by
  obtain ⟨Pre, X, Y, Post, rfl, e⟩ := insV_at hn hp
  rw [e, cirs_app2, cirs_app2, cirs_ne (by simp), cirs_ne (by simp)]
theorem setE_cirs {i : Nat} (h : A[i]? = some []) (hP : P ≠ []) : cirs (A.set i P) + 1 = cirs A := by
  obtain ⟨Pre, Post, rfl, e⟩ := set_at h
  rw [e, cirs_app2, cirs_app2, cirs_ne hP, cirs_cons, if_pos rfl]
  omega
/-- the lists that a change does not meet -/
theorem shP_chg {S' : ow_NP} {C' : List vT} (hn : (Pre ++ C' :: Post).flatten.Nodup) (h : shP S g (Pre ++ C :: Post)) (hC : shL S' g C') (ho : ∀ L, (L ∈ Pre ∨ L ∈ Post) → ∀ q, q ∈ L → S'.1 (g q) = S.1 (g q) ∧ S'.2 (g q) = S.2 (g q)) : shP S' g (Pre ++ C' :: Post) := by
  intro L hL
  have hL9 : L = C' ∨ (L ∈ Pre ∨ L ∈ Post) := by
    rcases List.mem_append.mp hL with h9 | h9
    · exact Or.inr (Or.inl h9)
    · rcases List.mem_cons.mp h9 with h9 | h9
      · exact Or.inl h9
      · exact Or.inr (Or.inr h9)
  rcases hL9 with rfl | hL9
  · exact hC
  · refine shL_k (L_nd hn hL) (fun _ _ => rfl) (ho L hL9) (h L ?_)
    rcases hL9 with h9 | h9
    · exact List.mem_append_left _ h9
    · exact List.mem_append_right _ (List.mem_cons_of_mem _ h9)
theorem shP_put1 (hn : (Pre ++ (X ++ p :: r :: Y) :: Post).flatten.Nodup) (hg : gin g (Pre ++ (X ++ p :: r :: Y) :: Post).flatten) (h : shP S g (Pre ++ (X ++ p :: Y) :: Post)) : shP (np_putBehind S (g p) (g r)) g (Pre ++ (X ++ p :: r :: Y) :: Post) := by
  have hmem : (X ++ p :: r :: Y) ∈ Pre ++ (X ++ p :: r :: Y) :: Post := by simp
  have nC := L_nd hn hmem
  have hC0 := h (X ++ p :: Y) (by simp)
  have nC0 : (X ++ p :: Y).Nodup := by
    refine List.Sublist.nodup ?_ nC
    exact List.Sublist.append (List.Sublist.refl _) (List.Sublist.cons₂ _ (List.sublist_cons_self _ _))
  have hs := sc_in (p := p) (L := X ++ p :: Y) (by simp) nC0
  have sub : ∀ a, a ∈ X ++ p :: Y → a ∈ X ++ p :: r :: Y := fun a ha => by
    simp at ha ⊢
    grind
  refine shP_chg hn h (shL_put nC (gin_L hg hmem) hC0) (fun L hL q hq => ?_)
  have hqA : q ∈ (Pre ++ (X ++ p :: r :: Y) :: Post).flatten := by
    refine List.mem_flatten.mpr ⟨L, ?_, hq⟩
    rcases hL with h9 | h9
    · exact List.mem_append_left _ h9
    · exact List.mem_append_right _ (List.mem_cons_of_mem _ h9)
  have far : ∀ s, s ∈ X ++ p :: r :: Y → g q ≠ g s := fun s hs9 e => dj_L hn hL hq hs9 (hg q s hqA (List.mem_flatten.mpr ⟨_, hmem, hs9⟩) e)
  have hS : S.1 (g p) = g (sc (X ++ p :: Y) p) := (hC0 p (by simp)).1
  unfold np_putBehind
  rw [nl_1, nl_2, nl_1, nl_2, hS, if_neg (far r (by simp)), if_neg (far p (by simp)), if_neg (far _ (sub _ hs)), if_neg (far r (by simp))]
  exact ⟨rfl, rfl⟩
theorem shP_nil (hn : (Pre ++ [r] :: Post).flatten.Nodup) (hg : gin g (Pre ++ [r] :: Post).flatten) (h : shP S g (Pre ++ [] :: Post)) : shP (nl S (g r) (g r)) g (Pre ++ [r] :: Post) := by
  refine shP_chg hn h ?_ (fun L hL q hq => ?_)
  · intro q hq
    rw [List.mem_singleton.mp hq, sc_one, nl_1, nl_2, if_pos rfl, if_pos rfl]
    exact ⟨rfl, rfl⟩
  · have hqA : q ∈ (Pre ++ [r] :: Post).flatten := by
      refine List.mem_flatten.mpr ⟨L, ?_, hq⟩
      rcases hL with h9 | h9
      · exact List.mem_append_left _ h9
      · exact List.mem_append_right _ (List.mem_cons_of_mem _ h9)
    have far : g q ≠ g r := fun e => dj_L hn hL hq (show r ∈ [r] by simp) (hg q r hqA (List.mem_flatten.mpr ⟨[r], by simp, by simp⟩) e)
    rw [nl_1, nl_2, if_neg far, if_neg far]
    exact ⟨rfl, rfl⟩
theorem gin_sub {F G : List vT} (h : gin g G) (hs : ∀ a, a ∈ F → a ∈ G) : gin g F := fun p q hp hq => h p q (hs p hp) (hs q hq)
/-- two visits come behind one -/
theorem shP_V (hn : A.flatten.Nodup) (hp : p ∈ A.flatten) (hn1 : (insV A p [r, r']).flatten.Nodup) (hg : gin g (insV A p [r, r']).flatten) (h : shP S g A) : shP (np_putBehind (np_putBehind S (g p) (g r)) (g r) (g r')) g (insV A p [r, r']) := by
  obtain ⟨Pre, X, Y, Post, rfl, e⟩ := insV_at hn hp
  rw [e] at hn1 hg ⊢
  have sl : (Pre ++ (X ++ p :: r :: Y) :: Post).flatten.Sublist (Pre ++ (X ++ p :: ([r, r'] ++ Y)) :: Post).flatten := by
    rw [List.flatten_append, List.flatten_cons, List.flatten_append, List.flatten_cons]
    refine List.Sublist.append (List.Sublist.refl _) (List.Sublist.append (List.Sublist.append (List.Sublist.refl _) ?_) (List.Sublist.refl _))
    exact List.Sublist.cons₂ _ (List.Sublist.cons₂ _ (List.sublist_cons_self _ _))
  have h1 := shP_put1 (List.Sublist.nodup sl hn1) (gin_sub hg (fun a ha => sl.subset ha)) h
  have e1 : X ++ p :: r :: Y = (X ++ [p]) ++ r :: Y := by simp
  have e2 : X ++ p :: ([r, r'] ++ Y) = (X ++ [p]) ++ r :: r' :: Y := by simp
  rw [e1] at h1
  rw [e2] at hn1 hg ⊢
  exact shP_put1 hn1 hg h1
/-- two visits come into a circle -/
theorem shP_E {i : Nat} (hi : A[i]? = some []) (hn1 : (A.set i [r, r']).flatten.Nodup) (hg : gin g (A.set i [r, r']).flatten) (h : shP S g A) : shP (np_putBehind (nl S (g r) (g r)) (g r) (g r')) g (A.set i [r, r']) := by
  obtain ⟨Pre, Post, rfl, e⟩ := set_at hi
  rw [e] at hn1 hg ⊢
  have sl : (Pre ++ [r] :: Post).flatten.Sublist (Pre ++ [r, r'] :: Post).flatten := by
    rw [List.flatten_append, List.flatten_cons, List.flatten_append, List.flatten_cons]
    refine List.Sublist.append (List.Sublist.refl _) (List.Sublist.append ?_ (List.Sublist.refl _))
    exact List.Sublist.cons₂ _ (List.sublist_cons_self _ _)
  have h1 := shP_nil (List.Sublist.nodup sl hn1) (gin_sub hg (fun a ha => sl.subset ha)) h
  exact shP_put1 (X := []) (Y := []) hn1 hg h1
/-- a net of a list -/
theorem iso_mk {sg : Nat → Bool} {f : Nat → Nat} {T : ow_NT} {c : Nat} (ho : okF A.flatten c) (hc : c ≤ 12) (h1 : T.1 = c) (hf : ∀ x, x < c → f x < c) (hi : ∀ x y, x < c → y < c → f x = f y → x = y) (hS : shP T.2.2.1 (gl f) A) (hG : ∀ x, x < c → (T.2.2.2 (f x) < 0 ↔ sg x = true)) (hC : cirs A = T.2.1) : isoV A sg f T := ⟨⟨okF_wk (by omega) ho, by rw [okF_len ho, h1], by omega, fun p hp => by rw [h1]; exact hf _ ((ho.2 p).mp hp).1, fun p q hp hq e => hi _ _ ((ho.2 p).mp hp).1 ((ho.2 q).mp hq).1 e, fun L hL p hp => (hS L hL p hp).1, fun p hp => hG _ ((ho.2 p).mp hp).1, hC⟩, hS⟩
end XINS
/-! building by names -/
section XINB
variable {A : rn_L} {f : Nat → List vT} {g h : Nat} {P P0 P1 : List vT}
theorem bldC_nm {F : vT → List vT} {i : Nat} (hi : i < A.length) (hF : ∀ v, v < A.flatten.length → f v = F (vAt A v)) : bldC A f i = if A.getD i [] = [] then f (A.flatten.length + i) else (A.getD i []).flatMap (fun q => q :: F q) := by
  have e0 := cmp_seg (A := A) hi
  have hl := gD_len (A := A) hi
  have h1 := rn_b_mono A i
  have h2 := rnb_mono2 (A := A) (a := i + 1) (b := A.length) (by omega)
  rw [rn_b_len] at h2
  have e1 : List.range' (rn_b A i) (rn_b A (i + 1) - rn_b A i) = seg (rn_b A i) (rn_b A (i + 1)) := by
    unfold seg
    exact List.range'_eq_map_range ..
  have e2 : (List.range' (rn_b A i) (rn_b A (i + 1) - rn_b A i)).flatMap (fun v => vAt A v :: f v) = (A.getD i []).flatMap (fun q => q :: F q) := by
    rw [← e0, ← e1, List.flatMap_map]
    rw [List.flatMap_def, List.flatMap_def]
    refine congrArg List.flatten (List.map_congr_left (fun v hv => ?_))
    rw [List.mem_range'_1] at hv
    rw [hF v (by omega)]
  unfold bldC
  rw [e2]
  by_cases e : A.getD i [] = []
  · rw [if_pos e, e]
    have : rn_b A i = rn_b A (i + 1) := by
      rw [e] at hl
      have hl : 0 = _ := hl
      omega
    rw [if_pos this]
    exact List.append_nil _
  · rw [if_neg e]
    have : rn_b A i ≠ rn_b A (i + 1) := fun h9 => e (List.eq_nil_of_length_eq_zero (by omega))
    rw [if_neg this]
    rfl
theorem bldA_at {i : Nat} : (bldA A f)[i]? = if i < A.length then some (bldC A f i) else none := by
  unfold bldA
  rw [List.getElem?_map]
  by_cases h : i < A.length
  · rw [if_pos h, List.getElem?_range h]
    rfl
  · rw [if_neg h, List.getElem?_eq_none (by rw [List.length_range]; omega)]
    rfl
/-- a list that is built so -/
theorem bldA_is {B : rn_L} {F : vT → List vT} (hF : ∀ v, v < A.flatten.length → f v = F (vAt A v)) (hB : B.length = A.length) (hE : ∀ i : Nat, A[i]? = some [] → B[i]? = some (f (A.flatten.length + i))) (hN : ∀ (i : Nat) (L : List vT), A[i]? = some L → L ≠ [] → B[i]? = some (L.flatMap (fun q => q :: F q))) : bldA A f = B := by
  refine List.ext_getElem? (fun i => ?_)
  rw [bldA_at]
  by_cases hi : i < A.length
  · rw [if_pos hi, bldC_nm hi hF]
    have e := List.getElem?_eq_getElem hi
    rw [List.getD_eq_getElem?_getD, e]
    by_cases h0 : A[i] = []
    · rw [h0] at e
      rw [hE i e, h0]
      rfl
    · rw [hN i _ e h0]
      show some (if A[i] = [] then _ else _) = _
      rw [if_neg h0]
      rfl
  · rw [if_neg hi, List.getElem?_eq_none (by omega)]
end XINB
