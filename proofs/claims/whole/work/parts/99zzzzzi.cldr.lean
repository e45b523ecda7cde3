/-! a code read: the net shows the list of components that the code is written from -/
/-- how many crossings have been named -/
def nm (F : List (Nat × Nat)) : Nat := F.foldl (fun m p => if p.1 < m then m else p.1 + 1) 0
theorem nm_app {F : List (Nat × Nat)} {p : Nat × Nat} : nm (F ++ [p]) = if p.1 < nm F then nm F else p.1 + 1 := by
  unfold nm
  rw [List.foldl_append]
  rfl
/-- crossings are numbered as they are met -/
def fo (F : List (Nat × Nat)) : Prop := ∀ G p H, F = G ++ p :: H → p.1 ≤ nm G
theorem snoc_ind {P : List (Nat × Nat) → Prop} (h0 : P []) (h1 : ∀ F p, P F → P (F ++ [p])) : ∀ F, P F := by
  intro F
  have : ∀ n, ∀ F : List (Nat × Nat), F.length = n → P F := by
    intro n
    induction n with
    | zero => intro F h; rw [List.length_eq_zero_iff.mp h]; exact h0
    | succ n ih =>
      intro F h
      rcases List.eq_nil_or_concat F with e | ⟨L, b, e⟩
      · rw [e] at h; cases h
      · rw [e, List.concat_eq_append]
        refine h1 L b (ih L ?_)
        rw [e, List.concat_eq_append, List.length_append] at h
        have h' : L.length + 1 = n + 1 := h
        omega
  exact this _ F rfl
theorem nm_lt : ∀ F : List (Nat × Nat), ∀ p, p ∈ F → p.1 < nm F := by
  refine snoc_ind (fun p hp => by cases hp) (fun F q ih p hp => ?_)
  rw [nm_app]
  rcases List.mem_append.mp hp with h | h
  · have := ih p h
    split <;> omega
  · rw [List.mem_singleton.mp h]
    split <;> omega
theorem nm_mono {F : List (Nat × Nat)} {p : Nat × Nat} : nm F ≤ nm (F ++ [p]) := by
  rw [nm_app]
  split <;> omega
theorem fo_pre {F G : List (Nat × Nat)} (h : fo (F ++ G)) : fo F := fun A p H e => h A p (H ++ G) (by rw [e, List.append_assoc]; rfl)
theorem fo_at {F : List (Nat × Nat)} {p : Nat × Nat} (h : fo (F ++ [p])) : p.1 ≤ nm F := h F p [] rfl
theorem nm_all : ∀ F : List (Nat × Nat), fo F → ∀ x, x < nm F → ∃ u, (x, u) ∈ F := by
  refine snoc_ind (fun _ x hx => absurd hx (Nat.not_lt_zero _)) (fun F p ih h x hx => ?_)
  have h1 := fo_at h
  rw [nm_app] at hx
  by_cases e : x < nm F
  · obtain ⟨u, hu⟩ := ih (fo_pre h) x e
    exact ⟨u, List.mem_append_left _ hu⟩
  · have e2 : x = p.1 := by
      split at hx <;> omega
    exact ⟨p.2, List.mem_append_right _ (by rw [e2]; exact List.mem_singleton.mpr rfl)⟩
def lb (p : Nat × Nat) : Nat := 2 * p.1 + p.2
theorem lb_inj {p q : Nat × Nat} (hp : p.2 < 2) (hq : q.2 < 2) (e : lb p = lb q) : p = q := by
  unfold lb at e
  exact Prod.ext (by omega) (by omega)
/-- visits of a list: each once, over or under -/
def vOK (F : List (Nat × Nat)) : Prop := F.Nodup ∧ ∀ p, p ∈ F → p.2 < 2
theorem vOK_len {F : List (Nat × Nat)} (h : vOK F) : F.length ≤ 2 * nm F := by
  have h1 : (F.map lb).Nodup := nodup_map h.1 (fun a b ha hb e => lb_inj (h.2 a ha) (h.2 b hb) e)
  have h2 := nodup_le _ (List.range (2 * nm F)) h1 (fun a ha => by
    obtain ⟨p, hp, e⟩ := List.mem_map.mp ha
    have := nm_lt F p hp
    have := h.2 p hp
    rw [List.mem_range, ← e]
    unfold lb
    omega)
  rw [List.length_map, List.length_range] at h2
  exact h2
theorem vOK_pre {F G : List (Nat × Nat)} (h : vOK (F ++ G)) : vOK F := ⟨(List.nodup_append.mp h.1).1, fun p hp => h.2 p (List.mem_append_left _ hp)⟩
theorem vOK_new {F : List (Nat × Nat)} {p q : Nat × Nat} (h : vOK (F ++ [p])) (hq : q ∈ F) : lb q ≠ lb p := by
  intro e
  have h1 := lb_inj (h.2 q (List.mem_append_left _ hq)) (h.2 p (List.mem_append_right _ (List.mem_singleton.mpr rfl))) e
  have h2 := (List.nodup_append.mp h.1).2.2
  exact h2 q hq p (List.mem_singleton.mpr rfl) h1
theorem vOK_ne {F : List (Nat × Nat)} (h : vOK F) {i j : Nat} {p q : Nat × Nat} (e1 : F[i]? = some p) (e2 : F[j]? = some q) (hij : i ≠ j) : lb p ≠ lb q := by
  intro e
  have h1 := lb_inj (h.2 p (List.mem_of_getElem? e1)) (h.2 q (List.mem_of_getElem? e2)) e
  rw [← h1] at e2
  exact hij (nodup_at h.1 e1 e2)
-- lists of components with one more
section AP
variable {A : rn_L} {L : List (Nat × Nat)}
theorem fl_app : (A ++ [L]).flatten = A.flatten ++ L := by
  rw [List.flatten_append, List.flatten_cons, List.flatten_nil, List.append_nil]
theorem rnb_app {c : Nat} (hc : c ≤ A.length) : rn_b (A ++ [L]) c = rn_b A c := by
  unfold rn_b
  rw [List.take_append_of_le_length hc]
theorem rnb_end : rn_b (A ++ [L]) (A.length + 1) = A.flatten.length + L.length := by
  have h : (A ++ [L]).take (A.length + 1) = A ++ [L] := List.take_of_length_le (by rw [List.length_append]; exact Nat.le_refl _)
  unfold rn_b
  rw [h, fl_app, List.length_append]
theorem rnb_fl : rn_b (A ++ [L]) A.length = A.flatten.length := by
  rw [rnb_app (Nat.le_refl _)]
  exact rn_b_len A
theorem rnc_app {v : Nat} (hv : v < A.flatten.length) : rn_c (A ++ [L]) v = rn_c A v := by
  obtain ⟨h1, h2, h3⟩ := rn_c_in A v hv
  refine rn_c_of _ _ _ ?_ ?_
  · rw [rnb_app (by omega)]
    exact h2
  · rw [rnb_app (by omega)]
    exact h3
theorem rnc_new {i : Nat} (hi : i < L.length) : rn_c (A ++ [L]) (A.flatten.length + i) = A.length := by
  refine rn_c_of _ _ _ ?_ ?_
  · rw [rnb_fl]
    omega
  · rw [rnb_end]
    omega
theorem rnx_app {v : Nat} (hv : v < A.flatten.length) : rn_nx (A ++ [L]) v = rn_nx A v := by
  obtain ⟨h1, h2, h3⟩ := rn_c_in A v hv
  unfold rn_nx
  rw [rnc_app hv, rnb_app (by omega), rnb_app (by omega)]
theorem rnx_new {i : Nat} (hi : i < L.length) : rn_nx (A ++ [L]) (A.flatten.length + i) = if i + 1 < L.length then A.flatten.length + (i + 1) else A.flatten.length := by
  unfold rn_nx
  rw [rnc_new hi, rnb_end, rnb_fl]
  by_cases h : i + 1 < L.length
  · rw [if_pos (by omega), if_pos h]
    omega
  · rw [if_neg (by omega), if_neg h]
theorem vAt_ap {v : Nat} (hv : v < A.flatten.length) : vAt (A ++ [L]) v = vAt A v := by
  refine vAt_eq ?_
  rw [fl_app, List.getElem?_append_left hv]
  exact vAt_of hv
theorem vAt_nw {i : Nat} {p : Nat × Nat} (e : L[i]? = some p) : vAt (A ++ [L]) (A.flatten.length + i) = p := by
  refine vAt_eq ?_
  rw [fl_app, List.getElem?_append_right (by omega), show A.flatten.length + i - A.flatten.length = i by omega]
  exact e
theorem rnx_lt {v : Nat} (hv : v < A.flatten.length) : rn_nx A v < A.flatten.length := by
  obtain ⟨h1, h2, h3⟩ := rn_c_in A v hv
  have h4 := rn_b_le A (rn_c A v + 1)
  unfold rn_nx
  split <;> omega
end AP
/-- the cell of a visit in a part that begins at crossing b -/
def clc (sg : Nat → Bool) (b : Nat) (p : Nat × Nat) : Nat := 4 * (p.1 - b + 1) + 2 * p.2 + if sg p.1 then 1 else 0
/-- where the next component's numbers begin -/
def nxb (b : Nat) (D : rn_L) : Nat := if 2 * nm D.flatten - D.flatten.length = 0 then nm D.flatten else b
/-- the class's row of a list of components: behind D, with the numbers from b on -/
def ucd (sg : Nat → Bool) : Nat → rn_L → rn_L → List Nat
  | _, _, [] => []
  | b, D, L :: R => L.map (clc sg b) ++ 0 :: ucd sg (nxb b (D ++ [L])) (D ++ [L]) R
/-- what has been read: components A, an open one L -/
def ldS (sg : Nat → Bool) (A : rn_L) (L : List (Nat × Nat)) (b : Nat) (t : ow_LD) : Prop := t.2.1 = (cirs A, A.length, b, nm (A.flatten ++ L), 2 * nm (A.flatten ++ L) - (A.flatten ++ L).length, (A.flatten ++ L).length) ∧ t.2.2.1 = L.head?.map lb ∧ (L ≠ [] → t.2.2.2 = L.getLast?.map lb) ∧ (∀ v, v < A.flatten.length → t.1.1.1 (lb (vAt A v)) = lb (vAt A (rn_nx A v)) ∧ t.1.1.2 (lb (vAt A (rn_nx A v))) = lb (vAt A v)) ∧ (∀ i p q, L[i]? = some p → L[i + 1]? = some q → t.1.1.1 (lb p) = lb q ∧ t.1.1.2 (lb q) = lb p) ∧ (∀ p, p ∈ A.flatten ++ L → t.1.2.1 p.1 = if sg p.1 then -1 else 1) ∧ (∀ i p, (A.flatten ++ L)[i]? = some p → t.1.2.2.1 i = nI (lb p)) ∧ (∀ v, v < A.flatten.length → t.1.2.2.2 (lb (vAt A v)) = nI (rn_c A v)) ∧ ∀ p, p ∈ L → t.1.2.2.2 (lb p) = nI A.length
theorem vAt_mem {A : rn_L} {v : Nat} (h : v < A.flatten.length) : vAt A v ∈ A.flatten := List.mem_of_getElem? (vAt_of h)
theorem cirs_app {A : rn_L} {L : List (Nat × Nat)} : cirs (A ++ [L]) = cirs A + if L = [] then 1 else 0 := by
  unfold cirs
  rw [List.countP_append, List.countP_singleton]
  cases L with
  | nil => rfl
  | cons a L => rfl
theorem ldS_zero {sg : Nat → Bool} {A : rn_L} {L : List (Nat × Nat)} {b : Nat} {t : ow_LD} (hv : vOK (A.flatten ++ L)) (h : ldS sg A L b t) : ∃ t1, ld_cell t 0 = some t1 ∧ ldS sg (A ++ [L]) [] (nxb b (A ++ [L])) t1 := by
  obtain ⟨⟨S, G, Fo, Fc⟩, ⟨ci, co, ba, na, lo, cn⟩, fi, la⟩ := t
  obtain ⟨h1, h2, h3, h4, h5, h6, h7, h8, h9⟩ := h
  dsimp only at h1 h2 h3 h4 h5 h6 h7 h8 h9
  injection h1 with e1 h1
  injection h1 with e2 h1
  injection h1 with e3 h1
  injection h1 with e4 h1
  injection h1 with e5 e6
  refine ⟨ld_zero S G Fo Fc ci co ba na lo cn fi la, by rw [ld_cell_eq, if_pos rfl], ?_⟩
  have hnum : (ld_zero S G Fo Fc ci co ba na lo cn fi la).2.1 = (cirs (A ++ [L]), (A ++ [L]).length, nxb b (A ++ [L]), nm ((A ++ [L]).flatten ++ []), 2 * nm ((A ++ [L]).flatten ++ []) - ((A ++ [L]).flatten ++ []).length, ((A ++ [L]).flatten ++ []).length) := by
    rw [List.append_nil, fl_app, ← e4, ← e6, cirs_app, List.length_append, ← e1, ← e2]
    unfold nxb
    rw [fl_app, ← e4, ← e6]
    show ((match fi with | none => ci + 1 | some _ => ci), co + 1, (if lo = 0 then na else ba), na, lo, cn) = _
    have e5' : lo = 2 * na - cn := by rw [e5, e4, e6]
    rw [← e5', e3]
    cases L with
    | nil =>
      rw [h2, if_pos rfl]
      rfl
    | cons p L =>
      rw [h2, if_neg (List.cons_ne_nil p L)]
      rfl
  have hG : ∀ p, p ∈ (A ++ [L]).flatten ++ [] → G p.1 = if sg p.1 then -1 else 1 := by
    rw [List.append_nil, fl_app]
    exact h6
  have hF : ∀ i p, ((A ++ [L]).flatten ++ [])[i]? = some p → Fo i = nI (lb p) := by
    rw [List.append_nil, fl_app]
    exact h7
  have hc : ∀ v, v < (A ++ [L]).flatten.length → Fc (lb (vAt (A ++ [L]) v)) = nI (rn_c (A ++ [L]) v) := by
    intro v hv1
    rw [fl_app, List.length_append] at hv1
    by_cases e : v < A.flatten.length
    · rw [vAt_ap e, rnc_app e]
      exact h8 v e
    · obtain ⟨i, rfl⟩ : ∃ i, v = A.flatten.length + i := ⟨v - A.flatten.length, by omega⟩
      have hi : i < L.length := by omega
      rw [vAt_nw (List.getElem?_eq_getElem hi), rnc_new hi]
      exact h9 _ (List.getElem_mem hi)
  refine ⟨hnum, rfl, fun h => absurd rfl h, ?_, (fun i p q e => by rw [List.getElem?_nil] at e; cases e), hG, hF, hc, fun p hp => by cases hp⟩
  intro v hv1
  rw [fl_app, List.length_append] at hv1
  cases L with
  | nil =>
    rw [h2]
    show S.1 _ = _ ∧ S.2 _ = _
    have e : v < A.flatten.length := hv1
    rw [vAt_ap e, rnx_app e, vAt_ap (rnx_lt e)]
    exact h4 v e
  | cons p L =>
    have hla : la = ((p :: L).getLast?).map lb := h3 (by intro h; cases h)
    have hlen : (p :: L).length = L.length + 1 := rfl
    obtain ⟨q, hq⟩ : ∃ q, (p :: L)[L.length]? = some q := ⟨_, List.getElem?_eq_getElem (Nat.lt_succ_self _)⟩
    have hq2 : (p :: L).getLast? = some q := by
      rw [List.getLast?_eq_getElem?]
      exact hq
    rw [hq2] at hla
    rw [h2, hla]
    show (nl S (lb q) (lb p)).1 _ = _ ∧ (nl S (lb q) (lb p)).2 _ = _
    have n1 : ∀ k, k ≠ lb q → (nl S (lb q) (lb p)).1 k = S.1 k := fun k hk => if_neg hk
    have n2 : ∀ k, k ≠ lb p → (nl S (lb q) (lb p)).2 k = S.2 k := fun k hk => if_neg hk
    have n3 : (nl S (lb q) (lb p)).1 (lb q) = lb p := if_pos rfl
    have n4 : (nl S (lb q) (lb p)).2 (lb p) = lb q := if_pos rfl
    have hqF : (A.flatten ++ p :: L)[A.flatten.length + L.length]? = some q := by
      rw [List.getElem?_append_right (by omega), show A.flatten.length + L.length - A.flatten.length = L.length by omega]
      exact hq
    have hpF : (A.flatten ++ p :: L)[A.flatten.length]? = some p := by
      rw [List.getElem?_append_right (Nat.le_refl _), Nat.sub_self]
      rfl
    by_cases e : v < A.flatten.length
    · have hx := rnx_lt e
      rw [vAt_ap e, rnx_app e, vAt_ap hx]
      have g1 : (A.flatten ++ p :: L)[v]? = some (vAt A v) := by
        rw [List.getElem?_append_left e]
        exact vAt_of e
      have g2 : (A.flatten ++ p :: L)[rn_nx A v]? = some (vAt A (rn_nx A v)) := by
        rw [List.getElem?_append_left hx]
        exact vAt_of hx
      rw [n1 _ (vOK_ne hv g1 hqF (by omega)), n2 _ (vOK_ne hv g2 hpF (by omega))]
      exact h4 v e
    · obtain ⟨i, rfl⟩ : ∃ i, v = A.flatten.length + i := ⟨v - A.flatten.length, by omega⟩
      have hi : i < (p :: L).length := by omega
      rw [rnx_new hi]
      by_cases hi2 : i + 1 < (p :: L).length
      · rw [if_pos hi2, vAt_nw (List.getElem?_eq_getElem hi), vAt_nw (List.getElem?_eq_getElem hi2)]
        have g1 : (A.flatten ++ p :: L)[A.flatten.length + i]? = some (p :: L)[i] := by
          rw [List.getElem?_append_right (by omega), show A.flatten.length + i - A.flatten.length = i by omega]
          exact List.getElem?_eq_getElem hi
        have g2 : (A.flatten ++ p :: L)[A.flatten.length + (i + 1)]? = some (p :: L)[i + 1] := by
          rw [List.getElem?_append_right (by omega), show A.flatten.length + (i + 1) - A.flatten.length = i + 1 by omega]
          exact List.getElem?_eq_getElem hi2
        rw [n1 _ (vOK_ne hv g1 hqF (by omega)), n2 _ (vOK_ne hv g2 hpF (by omega))]
        exact h5 i _ _ (List.getElem?_eq_getElem hi) (List.getElem?_eq_getElem hi2)
      · have ei : i = L.length := by omega
        rw [if_neg hi2, ei, vAt_nw hq, show A.flatten.length = A.flatten.length + 0 from rfl, vAt_nw (A := A) (L := p :: L) (i := 0) (p := p) rfl]
        exact ⟨n3, n4⟩
theorem ldS_visit {sg : Nat → Bool} {A : rn_L} {L : List (Nat × Nat)} {b : Nat} {t : ow_LD} {p : Nat × Nat} (hv : vOK (A.flatten ++ (L ++ [p]))) (hfo : fo (A.flatten ++ (L ++ [p]))) (hb : b ≤ p.1) (h12 : p.1 < 12) (h24 : (A.flatten ++ L).length < 24) (h : ldS sg A L b t) : ∃ t1, ld_cell t (clc sg b p) = some t1 ∧ ldS sg A (L ++ [p]) b t1 := by
  obtain ⟨⟨S, G, Fo, Fc⟩, ⟨ci, co, ba, na, lo, cn⟩, fi, la⟩ := t
  obtain ⟨h1, h2, h3, h4, h5, h6, h7, h8, h9⟩ := h
  dsimp only at h1 h2 h3 h4 h5 h6 h7 h8 h9
  injection h1 with e1 h1
  injection h1 with e2 h1
  injection h1 with e3 h1
  injection h1 with e4 h1
  injection h1 with e5 e6
  rw [← List.append_assoc] at hv hfo
  have hp2 : p.2 < 2 := hv.2 p (List.mem_append_right _ (List.mem_singleton.mpr rfl))
  have hfa := fo_at hfo
  have hlen := vOK_len hv
  have hlen0 := vOK_len (vOK_pre hv)
  rw [nm_app, List.length_append] at hlen
  have hlen' : (A.flatten ++ L).length + 1 ≤ 2 * (if p.1 < nm (A.flatten ++ L) then nm (A.flatten ++ L) else p.1 + 1) := hlen
  have hs2 : (if sg p.1 = true then 1 else 0) < 2 := by split <;> omega
  have c1 : clc sg b p / 4 = p.1 - b + 1 := by
    unfold clc
    omega
  have c2 : clc sg b p / 2 % 2 = p.2 := by
    unfold clc
    omega
  have c3 : clc sg b p % 2 = if sg p.1 = true then 1 else 0 := by
    unfold clc
    omega
  have cx : ba + clc sg b p / 4 - 1 = p.1 := by
    rw [c1, e3]
    omega
  refine ⟨ld_visit S G Fo Fc ci co ba na lo cn fi la p.1 (lb p) (if sg p.1 then -1 else 1), ?_, ?_⟩
  · have hcd : 4 ≤ clc sg b p ∧ p.1 < 12 ∧ cn < 24 ∧ (p.1 < na → 0 < lo) := by
      refine ⟨by unfold clc; omega, h12, by omega, fun hx => ?_⟩
      rw [e4] at hx
      rw [if_pos hx] at hlen'
      omega
    rw [ld_cell_eq, if_neg (by unfold clc; omega), cx, if_pos hcd, c2, c3]
    show some (ld_visit S G Fo Fc ci co ba na lo cn fi la p.1 (2 * p.1 + p.2) _) = some (ld_visit S G Fo Fc ci co ba na lo cn fi la p.1 (2 * p.1 + p.2) _)
    cases sg p.1 <;> rfl
  · have hloc : ∀ q, q ∈ A.flatten ++ L → lb q ≠ lb p := fun q hq => vOK_new hv hq
    have hnum : (ld_visit S G Fo Fc ci co ba na lo cn fi la p.1 (lb p) (if sg p.1 then -1 else 1)).2.1 = (cirs A, A.length, b, nm (A.flatten ++ (L ++ [p])), 2 * nm (A.flatten ++ (L ++ [p])) - (A.flatten ++ (L ++ [p])).length, (A.flatten ++ (L ++ [p])).length) := by
      rw [← List.append_assoc, nm_app, List.length_append, ← e4, ← e6]
      show (ci, co, ba, (if p.1 < na then na else p.1 + 1), (if p.1 < na then lo - 1 else lo + 1), cn + 1) = (cirs A, A.length, b, (if p.1 < na then na else p.1 + 1), 2 * (if p.1 < na then na else p.1 + 1) - (cn + 1), cn + 1)
      have e5' : lo = 2 * na - cn := by rw [e5, e4, e6]
      have hl0 : cn ≤ 2 * na := by rw [e4, e6]; exact hlen0
      rw [← e1, ← e2, e3]
      congr 4
      by_cases hx : p.1 < na
      · rw [if_pos hx, if_pos hx]
        congr 1
        omega
      · rw [if_neg hx, if_neg hx]
        congr 1
        have : p.1 = na := by
          rw [← e4] at hfa
          omega
        omega
    refine ⟨hnum, ?_, fun _ => ?_, fun v hv1 => ?_, fun i q r eq er => ?_, fun q hq => ?_, fun i q eq => ?_, fun v hv1 => ?_, fun q hq => ?_⟩
    · show some (fi.getD (lb p)) = _
      rw [h2]
      cases L with
      | nil => rfl
      | cons q L => rfl
    · show some (lb p) = _
      rw [List.getLast?_append]
      rfl
    · -- the closed components stay
      show (match fi with | none => S | some _ => nl S (la.getD 0) (lb p)).1 _ = _ ∧ (match fi with | none => S | some _ => nl S (la.getD 0) (lb p)).2 _ = _
      cases L with
      | nil =>
        rw [h2]
        exact h4 v hv1
      | cons q0 L =>
        have hla : la = ((q0 :: L).getLast?).map lb := h3 (by intro h; cases h)
        obtain ⟨q, hq⟩ : ∃ q, (q0 :: L)[L.length]? = some q := ⟨_, List.getElem?_eq_getElem (Nat.lt_succ_self _)⟩
        have hq2 : (q0 :: L).getLast? = some q := by
          rw [List.getLast?_eq_getElem?]
          exact hq
        rw [hq2] at hla
        rw [h2, hla]
        have hx := rnx_lt hv1
        have g1 : (A.flatten ++ q0 :: L)[v]? = some (vAt A v) := by
          rw [List.getElem?_append_left hv1]
          exact vAt_of hv1
        have hqF : (A.flatten ++ q0 :: L)[A.flatten.length + L.length]? = some q := by
          rw [List.getElem?_append_right (by omega), show A.flatten.length + L.length - A.flatten.length = L.length by omega]
          exact hq
        have m1 : lb (vAt A v) ≠ lb q := vOK_ne (vOK_pre hv) g1 hqF (by omega)
        have m2 : lb (vAt A (rn_nx A v)) ≠ lb p := hloc _ (List.mem_append_left _ (vAt_mem hx))
        show (if lb (vAt A v) = lb q then lb p else S.1 (lb (vAt A v))) = _ ∧ (if lb (vAt A (rn_nx A v)) = lb p then lb q else S.2 (lb (vAt A (rn_nx A v)))) = _
        rw [if_neg m1, if_neg m2]
        exact h4 v hv1
    · -- the last one grows
      show (match fi with | none => S | some _ => nl S (la.getD 0) (lb p)).1 _ = _ ∧ (match fi with | none => S | some _ => nl S (la.getD 0) (lb p)).2 _ = _
      cases L with
      | nil =>
        rw [List.nil_append] at er
        rw [List.getElem?_cons_succ, List.getElem?_nil] at er
        cases er
      | cons q0 L =>
        have hla : la = ((q0 :: L).getLast?).map lb := h3 (by intro h; cases h)
        obtain ⟨z, hz⟩ : ∃ z, (q0 :: L)[L.length]? = some z := ⟨_, List.getElem?_eq_getElem (Nat.lt_succ_self _)⟩
        have hz2 : (q0 :: L).getLast? = some z := by
          rw [List.getLast?_eq_getElem?]
          exact hz
        rw [hz2] at hla
        rw [h2, hla]
        show (if lb q = lb z then lb p else S.1 (lb q)) = lb r ∧ (if lb r = lb p then lb z else S.2 (lb r)) = lb q
        have hi := (List.getElem?_eq_some_iff.mp er).1
        rw [List.length_append] at hi
        have hi' : i + 1 < L.length + 1 + 1 := hi
        have hzF : (A.flatten ++ q0 :: L)[A.flatten.length + L.length]? = some z := by
          rw [List.getElem?_append_right (by omega), show A.flatten.length + L.length - A.flatten.length = L.length by omega]
          exact hz
        by_cases ei : i = L.length
        · have er' : r = p := by
            rw [ei, List.getElem?_append_right (show (q0 :: L).length ≤ L.length + 1 from Nat.le_refl _)] at er
            rw [show L.length + 1 - (q0 :: L).length = 0 from Nat.sub_self _] at er
            cases er
            rfl
          have eq' : q = z := by
            rw [ei, List.getElem?_append_left (Nat.lt_succ_self _)] at eq
            rw [hz] at eq
            cases eq
            rfl
          rw [er', eq', if_pos rfl, if_pos rfl]
          exact ⟨rfl, rfl⟩
        · rw [List.getElem?_append_left (show i < L.length + 1 by omega)] at eq
          rw [List.getElem?_append_left (show i + 1 < L.length + 1 by omega)] at er
          have g1 : (A.flatten ++ q0 :: L)[A.flatten.length + i]? = some q := by
            rw [List.getElem?_append_right (by omega), show A.flatten.length + i - A.flatten.length = i by omega]
            exact eq
          rw [if_neg (vOK_ne (vOK_pre hv) g1 hzF (by omega)), if_neg (hloc r (List.mem_append_right _ (List.mem_of_getElem? er)))]
          exact h5 i q r eq er
    · show (if p.1 < na then G else su G p.1 (if sg p.1 then -1 else 1)) q.1 = _
      rw [← List.append_assoc] at hq
      rcases List.mem_append.mp hq with hq1 | hq1
      · have hlt := nm_lt _ q hq1
        by_cases hx : p.1 < na
        · rw [if_pos hx]
          exact h6 q hq1
        · rw [if_neg hx]
          show (if q.1 = p.1 then _ else G q.1) = _
          rw [if_neg (by rw [e4] at hx; omega)]
          exact h6 q hq1
      · rw [List.mem_singleton.mp hq1]
        by_cases hx : p.1 < na
        · rw [if_pos hx]
          obtain ⟨u, hu⟩ := nm_all _ (fo_pre hfo) p.1 (by rw [← e4]; exact hx)
          exact h6 (p.1, u) hu
        · rw [if_neg hx]
          exact if_pos rfl
    · show su Fo cn (nI (lb p)) i = _
      rw [← List.append_assoc] at eq
      by_cases ei : i = cn
      · rw [ei]
        rw [ei, e6, List.getElem?_append_right (Nat.le_refl _), Nat.sub_self] at eq
        cases eq
        exact if_pos rfl
      · have hi := (List.getElem?_eq_some_iff.mp eq).1
        rw [List.length_append] at hi
        have hi' : i < (A.flatten ++ L).length + 1 := hi
        rw [List.getElem?_append_left (by omega)] at eq
        rw [show su Fo cn (nI (lb p)) i = Fo i from if_neg ei]
        exact h7 i q eq
    · show su Fc (lb p) (nI co) (lb (vAt A v)) = _
      rw [show su Fc (lb p) (nI co) (lb (vAt A v)) = Fc (lb (vAt A v)) from if_neg (hloc _ (List.mem_append_left _ (vAt_mem hv1)))]
      exact h8 v hv1
    · show su Fc (lb p) (nI co) (lb q) = _
      rcases List.mem_append.mp hq with hq1 | hq1
      · rw [show su Fc (lb p) (nI co) (lb q) = Fc (lb q) from if_neg (hloc _ (List.mem_append_right _ hq1))]
        exact h9 q hq1
      · rw [List.mem_singleton.mp hq1, show su Fc (lb p) (nI co) (lb p) = nI co from if_pos rfl, e2]
theorem ldR_app : ∀ (X Y : List Nat) (t : ow_LD), ldR (X ++ Y) t = (ldR X t).bind (ldR Y)
  | [], Y, t => rfl
  | c :: X, Y, t => by
    show (ld_cell t c).bind (ldR (X ++ Y)) = ((ld_cell t c).bind (ldR X)).bind (ldR Y)
    cases ld_cell t c with
    | none => rfl
    | some u => exact ldR_app X Y u
theorem ldS_comp {sg : Nat → Bool} {A : rn_L} {b : Nat} : ∀ (R L : List (Nat × Nat)) (t : ow_LD), vOK (A.flatten ++ (L ++ R)) → fo (A.flatten ++ (L ++ R)) → (∀ p, p ∈ R → b ≤ p.1 ∧ p.1 < 12) → (A.flatten ++ (L ++ R)).length ≤ 24 → ldS sg A L b t → ∃ t1, ldR (R.map (clc sg b)) t = some t1 ∧ ldS sg A (L ++ R) b t1
  | [], L, t => fun _ _ _ _ h => ⟨t, rfl, by rw [List.append_nil]; exact h⟩
  | p :: R, L, t => fun hv hf hb hl h => by
    have e : L ++ p :: R = L ++ [p] ++ R := by rw [List.append_assoc]; rfl
    rw [e] at hv hf hl ⊢
    have hv1 : vOK (A.flatten ++ (L ++ [p])) := vOK_pre (G := R) (by rw [List.append_assoc]; exact hv)
    have hf1 : fo (A.flatten ++ (L ++ [p])) := fo_pre (G := R) (by rw [List.append_assoc]; exact hf)
    have hl1 : (A.flatten ++ L).length < 24 := by
      rw [List.length_append, List.length_append, List.length_append] at hl
      rw [List.length_append]
      have : [p].length = 1 := rfl
      omega
    obtain ⟨t1, h1, h2⟩ := ldS_visit hv1 hf1 (hb p (List.mem_cons_self ..)).1 (hb p (List.mem_cons_self ..)).2 hl1 h
    obtain ⟨t2, h3, h4⟩ := ldS_comp R (L ++ [p]) t1 hv hf (fun q hq => hb q (List.mem_cons_of_mem _ hq)) hl h2
    refine ⟨t2, ?_, h4⟩
    show (ld_cell t (clc sg b p)).bind (ldR (R.map (clc sg b))) = some t2
    rw [h1]
    exact h3
/-- the numbers of each component begin at its base or behind -/
def bsO : Nat → rn_L → rn_L → Prop
  | _, _, [] => True
  | b, D, L :: R => (∀ p, p ∈ L → b ≤ p.1) ∧ bsO (nxb b (D ++ [L])) (D ++ [L]) R
theorem ldS_all {sg : Nat → Bool} : ∀ (R A : rn_L) (b : Nat) (t : ow_LD), vOK (A ++ R).flatten → fo (A ++ R).flatten → (∀ p, p ∈ (A ++ R).flatten → p.1 < 12) → (A ++ R).flatten.length ≤ 24 → bsO b A R → ldS sg A [] b t → ∃ t1 b1, ldR (ucd sg b A R) t = some t1 ∧ ldS sg (A ++ R) [] b1 t1
  | [], A, b, t => fun _ _ _ _ _ h => ⟨t, b, rfl, by rw [List.append_nil]; exact h⟩
  | L :: R, A, b, t => fun hv hf h12 hl hb h => by
    have e : A ++ L :: R = A ++ [L] ++ R := by rw [List.append_assoc]; rfl
    rw [e] at hv hf h12 hl ⊢
    have e2 : (A ++ [L] ++ R).flatten = A.flatten ++ L ++ R.flatten := by rw [List.flatten_append, fl_app]
    have hv1 : vOK (A.flatten ++ L) := vOK_pre (G := R.flatten) (by rw [← e2]; exact hv)
    have hf1 : fo (A.flatten ++ L) := fo_pre (G := R.flatten) (by rw [← e2]; exact hf)
    have hl1 : (A.flatten ++ L).length ≤ 24 := by
      rw [e2, List.length_append] at hl
      omega
    obtain ⟨t1, h1, h2⟩ := ldS_comp (sg := sg) (b := b) L [] t hv1 hf1 (fun p hp => ⟨hb.1 p hp, h12 p (by rw [e2]; exact List.mem_append_left _ (List.mem_append_right _ hp))⟩) hl1 h
    obtain ⟨t2, h3, h4⟩ := ldS_zero (A := A) (L := L) hv1 h2
    obtain ⟨t3, b3, h5, h6⟩ := ldS_all R (A ++ [L]) _ t2 hv hf h12 hl hb.2 h4
    refine ⟨t3, b3, ?_, h6⟩
    show ldR (L.map (clc sg b) ++ 0 :: ucd sg (nxb b (A ++ [L])) (A ++ [L]) R) t = some t3
    rw [ldR_app, h1]
    show (ld_cell t1 0).bind (ldR (ucd sg (nxb b (A ++ [L])) (A ++ [L]) R)) = some t3
    rw [h3]
    exact h5
/-- a list of components that codes are written from -/
def okL (A : rn_L) (c : Nat) : Prop := okF A.flatten c ∧ fo A.flatten ∧ bsO 0 [] A ∧ c ≤ 12 ∧ A.length ≤ 6
theorem ldS_net {sg : Nat → Bool} {A : rn_L} {c b : Nat} {t : ow_LD} (hA : okL A c) (h : ldS sg A [] b t) : isoN A sg (fun x => x) (c, t.2.1.1, t.1.1, t.1.2.1) ∧ vn c t.1.1 := by
  obtain ⟨h1, h2, h3, h4, h5, h6, h7, h8, h9⟩ := h
  obtain ⟨o1, o2, o3, o4, o5⟩ := hA
  have hw : wkF A.flatten := okF_wk (by omega) o1
  have hlen : A.flatten.length = 2 * c := okF_len o1
  have hlb : ∀ v, lbv A (fun x => x) v = lb (vAt A v) := fun v => rfl
  have hin : ∀ v, v < A.flatten.length → crs A v < c ∧ uns A v < 2 := fun v hv => (o1.2 _).mp (vAt_mem hv)
  have hiso : isoN A sg (fun x => x) (c, t.2.1.1, t.1.1, t.1.2.1) := by
    refine ⟨hw, hlen, o4, fun v hv => (hin v hv).1, fun v w _ _ e => e, fun v hv => (h4 v hv).1, fun v hv => ?_, by rw [h1]⟩
    show t.1.2.1 (crs A v) < 0 ↔ _
    rw [show t.1.2.1 (crs A v) = if sg (crs A v) then -1 else 1 from h6 (vAt A v) (List.mem_append_left _ (vAt_mem hv))]
    cases sg (crs A v)
    · exact ⟨fun h => absurd h (by decide), fun h => by cases h⟩
    · exact ⟨fun _ => rfl, fun _ => by decide⟩
  refine ⟨hiso, fun k hk => ?_⟩
  obtain ⟨v, hv, e⟩ := lbv_sur hiso hk
  have hx := rnx_lt hv
  have hlx : lb (vAt A (rn_nx A v)) < 2 * c := lbv_lt hiso hx
  have e' : lb (vAt A v) = k := e
  obtain ⟨w, hw1, hw2⟩ : ∃ w, w < A.flatten.length ∧ rn_nx A w = v := by
    exact ⟨rn_pv A v, rn_pv_lt hv, nx_pv hv⟩
  have hlw : lb (vAt A w) < 2 * c := lbv_lt hiso hw1
  have q1 := h4 v hv
  have q2 := h4 w hw1
  rw [hw2] at q2
  rw [← e']
  refine ⟨?_, ?_, ?_, ?_⟩
  · rw [q1.1]
    exact hlx
  · rw [q2.2]
    exact hlw
  · rw [q1.1]
    exact q1.2
  · rw [q2.2]
    exact q2.1
