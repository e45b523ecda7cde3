section
/-! 99zzzzzi.cldr -/
/-! a code read: the net shows the list of components that the code is written from -/
/-- how many crossings have been named -/
def nm (F : List (Nat × Nat)) : Nat := F.foldl (fun m p => if p.1 < m then m else p.1 + 1) 0
theorem nm_app {F : List (Nat × Nat)} {p : Nat × Nat} : nm (F ++ [p]) = if p.1 < nm F then nm F else p.1 + 1 := by
  unfold nm
  rw [List.foldl_append]
  rfl
/-- crossings are numbered as they are met -/
def fo (F : List (Nat × Nat)) : Prop := ∀ G p H, F = G ++ p :: H → p.1 ≤ nm G
theorem snoc_ind {P : List (Nat × Nat) → Prop} (h0 : P []) (h1 : ∀ F p, P F → P (F ++ [p])) : ∀ F, P F := by
  intro F
  have : ∀ n, ∀ F : List (Nat × Nat), F.length = n → P F := by
    intro n
    induction n with
    | zero => intro F h; rw [List.length_eq_zero_iff.mp h]; exact h0
    | succ n ih =>
      intro F h
      rcases List.eq_nil_or_concat F with e | ⟨L, b, e⟩
      · rw [e] at h; cases h
      · rw [e, List.concat_eq_append]
        refine h1 L b (ih L ?_)
        rw [e, List.concat_eq_append, List.length_append] at h
        have h' : L.length + 1 = n + 1 := h
        omega
  exact this _ F rfl
theorem nm_lt : ∀ F : List (Nat × Nat), ∀ p, p ∈ F → p.1 < nm F := by
  refine snoc_ind (fun p hp => by cases hp) (fun F q ih p hp => ?_)
  rw [nm_app]
  rcases List.mem_append.mp hp with h | h
  · have := ih p h
    split <;> omega
  · rw [List.mem_singleton.mp h]
    split <;> omega
theorem fo_pre {F G : List (Nat × Nat)} (h : fo (F ++ G)) : fo F := fun A p H e => h A p (H ++ G) (by rw [e, List.append_assoc]; rfl)
theorem fo_at {F : List (Nat × Nat)} {p : Nat × Nat} (h : fo (F ++ [p])) : p.1 ≤ nm F := h F p [] rfl
theorem nm_all : ∀ F : List (Nat × Nat), fo F → ∀ x, x < nm F → ∃ u, (x, u) ∈ F := by
  refine snoc_ind (fun _ x hx => absurd hx (Nat.not_lt_zero _)) (fun F p ih h x hx => ?_)
  have h1 := fo_at h
  rw [nm_app] at hx
  by_cases e : x < nm F
  · obtain ⟨u, hu⟩ := ih (fo_pre h) x e
    exact ⟨u, List.mem_append_left _ hu⟩
  · have e2 : x = p.1 := by
      split at hx <;> omega
    exact ⟨p.2, List.mem_append_right _ (by rw [e2]; exact List.mem_singleton.mpr rfl)⟩
def lb (p : Nat × Nat) : Nat := 2 * p.1 + p.2
theorem lb_inj {p q : Nat × Nat} (hp : p.2 < 2) (hq : q.2 < 2) (e : lb p = lb q) : p = q := by
  unfold lb at e
  exact Prod.ext (by omega) (by omega)
/-- visits of a list: each once, over or under -/
def vOK (F : List (Nat × Nat)) : Prop := F.Nodup ∧ ∀ p, p ∈ F → p.2 < 2
theorem vOK_len {F : List (Nat × Nat)} (h : vOK F) : F.length ≤ 2 * nm F := by
  have h1 : (F.map lb).Nodup := nodup_map h.1 (fun a b ha hb e => lb_inj (h.2 a ha) (h.2 b hb) e)
  have h2 := nodup_le _ (List.range (2 * nm F)) h1 (fun a ha => by
    obtain ⟨p, hp, e⟩ := List.mem_map.mp ha
    have := nm_lt F p hp
    have := h.2 p hp
    rw [List.mem_range, ← e]
    unfold lb
    omega)
  rw [List.length_map, List.length_range] at h2
  exact h2
theorem vOK_pre {F G : List (Nat × Nat)} (h : vOK (F ++ G)) : vOK F := ⟨(List.nodup_append.mp h.1).1, fun p hp => h.2 p (List.mem_append_left _ hp)⟩
theorem vOK_new {F : List (Nat × Nat)} {p q : Nat × Nat} (h : vOK (F ++ [p])) (hq : q ∈ F) : lb q ≠ lb p := by
  intro e
  have h1 := lb_inj (h.2 q (List.mem_append_left _ hq)) (h.2 p (List.mem_append_right _ (List.mem_singleton.mpr rfl))) e
  have h2 := (List.nodup_append.mp h.1).2.2
  exact h2 q hq p (List.mem_singleton.mpr rfl) h1
theorem vOK_ne {F : List (Nat × Nat)} (h : vOK F) {i j : Nat} {p q : Nat × Nat} (e1 : F[i]? = some p) (e2 : F[j]? = some q) (hij : i ≠ j) : lb p ≠ lb q := by
  intro e
  have h1 := lb_inj (h.2 p (List.mem_of_getElem? e1)) (h.2 q (List.mem_of_getElem? e2)) e
  rw [← h1] at e2
  exact hij (nodup_at h.1 e1 e2)
-- lists of components with one more
section AP
variable {A : rn_L} {L : List (Nat × Nat)}
theorem fl_app : (A ++ [L]).flatten = A.flatten ++ L := by
  rw [List.flatten_append, List.flatten_cons, List.flatten_nil, List.append_nil]
theorem rnb_app {c : Nat} (hc : c ≤ A.length) : rn_b (A ++ [L]) c = rn_b A c := by
  unfold rn_b
  rw [List.take_append_of_le_length hc]
theorem rnb_end : rn_b (A ++ [L]) (A.length + 1) = A.flatten.length + L.length := by
  have h : (A ++ [L]).take (A.length + 1) = A ++ [L] := List.take_of_length_le (by rw [List.length_append]; exact Nat.le_refl _)
  unfold rn_b
  rw [h, fl_app, List.length_append]
theorem rnb_fl : rn_b (A ++ [L]) A.length = A.flatten.length := by
  rw [rnb_app (Nat.le_refl _)]
  exact rn_b_len A
theorem rnc_app {v : Nat} (hv : v < A.flatten.length) : rn_c (A ++ [L]) v = rn_c A v := by
  obtain ⟨h1, h2, h3⟩ := rn_c_in A v hv
  refine rn_c_of _ _ _ ?_ ?_
  · rw [rnb_app (by omega)]
    exact h2
  · rw [rnb_app (by omega)]
    exact h3
theorem rnc_new {i : Nat} (hi : i < L.length) : rn_c (A ++ [L]) (A.flatten.length + i) = A.length := by
  refine rn_c_of _ _ _ ?_ ?_
  · rw [rnb_fl]
    omega
  · rw [rnb_end]
    omega
theorem rnx_app {v : Nat} (hv : v < A.flatten.length) : rn_nx (A ++ [L]) v = rn_nx A v := by
  obtain ⟨h1, h2, h3⟩ := rn_c_in A v hv
  unfold rn_nx
  rw [rnc_app hv, rnb_app (by omega), rnb_app (by omega)]
theorem rnx_new {i : Nat} (hi : i < L.length) : rn_nx (A ++ [L]) (A.flatten.length + i) = if i + 1 < L.length then A.flatten.length + (i + 1) else A.flatten.length := by
  unfold rn_nx
  rw [rnc_new hi, rnb_end, rnb_fl]
  by_cases h : i + 1 < L.length
  · rw [if_pos (by omega), if_pos h]
    omega
  · rw [if_neg (by omega), if_neg h]
theorem vAt_ap {v : Nat} (hv : v < A.flatten.length) : vAt (A ++ [L]) v = vAt A v := by
  refine vAt_eq ?_
  rw [fl_app, List.getElem?_append_left hv]
  exact vAt_of hv
theorem vAt_nw {i : Nat} {p : Nat × Nat} (e : L[i]? = some p) : vAt (A ++ [L]) (A.flatten.length + i) = p := by
  refine vAt_eq ?_
  rw [fl_app, List.getElem?_append_right (by omega), show A.flatten.length + i - A.flatten.length = i by omega]
  exact e
theorem rnx_lt {v : Nat} (hv : v < A.flatten.length) : rn_nx A v < A.flatten.length := by
  obtain ⟨h1, h2, h3⟩ := rn_c_in A v hv
  have h4 := rn_b_le A (rn_c A v + 1)
  unfold rn_nx
  split <;> omega
end AP
/-- the cell of a visit in a part that begins at crossing b -/
def clc (sg : Nat → Bool) (b : Nat) (p : Nat × Nat) : Nat := 4 * (p.1 - b + 1) + 2 * p.2 + if sg p.1 then 1 else 0
/-- where the next component's numbers begin -/
def nxb (b : Nat) (D : rn_L) : Nat := if 2 * nm D.flatten - D.flatten.length = 0 then nm D.flatten else b
/-- the class's row of a list of components: behind D, with the numbers from b on -/
def ucd (sg : Nat → Bool) : Nat → rn_L → rn_L → List Nat
  | _, _, [] => []
  | b, D, L :: R => L.map (clc sg b) ++ 0 :: ucd sg (nxb b (D ++ [L])) (D ++ [L]) R
/-- what has been read: components A, an open one L -/
def ldS (sg : Nat → Bool) (A : rn_L) (L : List (Nat × Nat)) (b : Nat) (t : ow_LD) : Prop := t.2.1 = (cirs A, A.length, b, nm (A.flatten ++ L), 2 * nm (A.flatten ++ L) - (A.flatten ++ L).length, (A.flatten ++ L).length) ∧ t.2.2.1 = L.head?.map lb ∧ (L ≠ [] → t.2.2.2 = L.getLast?.map lb) ∧ (∀ v, v < A.flatten.length → t.1.1.1 (lb (vAt A v)) = lb (vAt A (rn_nx A v)) ∧ t.1.1.2 (lb (vAt A (rn_nx A v))) = lb (vAt A v)) ∧ (∀ i p q, L[i]? = some p → L[i + 1]? = some q → t.1.1.1 (lb p) = lb q ∧ t.1.1.2 (lb q) = lb p) ∧ (∀ p, p ∈ A.flatten ++ L → t.1.2.1 p.1 = if sg p.1 then -1 else 1) ∧ (∀ i p, (A.flatten ++ L)[i]? = some p → t.1.2.2.1 i = nI (lb p)) ∧ (∀ v, v < A.flatten.length → t.1.2.2.2 (lb (vAt A v)) = nI (rn_c A v)) ∧ ∀ p, p ∈ L → t.1.2.2.2 (lb p) = nI A.length
theorem vAt_mem {A : rn_L} {v : Nat} (h : v < A.flatten.length) : vAt A v ∈ A.flatten := List.mem_of_getElem? (vAt_of h)
theorem cirs_app {A : rn_L} {L : List (Nat × Nat)} : cirs (A ++ [L]) = cirs A + if L = [] then 1 else 0 := by
  unfold cirs
  rw [List.countP_append, List.countP_singleton]
  cases L with
  | nil => rfl
  | cons a L => rfl
theorem ldS_zero {sg : Nat → Bool} {A : rn_L} {L : List (Nat × Nat)} {b : Nat} {t : ow_LD} (hv : vOK (A.flatten ++ L)) (h : ldS sg A L b t) : ∃ t1, ld_cell t 0 = some t1 ∧ ldS sg (A ++ [L]) [] (nxb b (A ++ [L])) t1 := by
  obtain ⟨⟨S, G, Fo, Fc⟩, ⟨ci, co, ba, na, lo, cn⟩, fi, la⟩ := t
  obtain ⟨h1, h2, h3, h4, h5, h6, h7, h8, h9⟩ := h
  dsimp only at h1 h2 h3 h4 h5 h6 h7 h8 h9
  injection h1 with e1 h1
  injection h1 with e2 h1
  injection h1 with e3 h1
  injection h1 with e4 h1
  injection h1 with e5 e6
  refine ⟨ld_zero S G Fo Fc ci co ba na lo cn fi la, by rw [ld_cell_eq, if_pos rfl], ?_⟩
  have hnum : (ld_zero S G Fo Fc ci co ba na lo cn fi la).2.1 = (cirs (A ++ [L]), (A ++ [L]).length, nxb b (A ++ [L]), nm ((A ++ [L]).flatten ++ []), 2 * nm ((A ++ [L]).flatten ++ []) - ((A ++ [L]).flatten ++ []).length, ((A ++ [L]).flatten ++ []).length) := by
    rw [List.append_nil, fl_app, ← e4, ← e6, cirs_app, List.length_append, ← e1, ← e2]
    unfold nxb
    rw [fl_app, ← e4, ← e6]
    show ((match fi with | none => ci + 1 | some _ => ci), co + 1, (if lo = 0 then na else ba), na, lo, cn) = _
    have e5' : lo = 2 * na - cn := by rw [e5, e4, e6]
    rw [← e5', e3]
    cases L with
    | nil =>
      rw [h2, if_pos rfl]
      rfl
    | cons p L =>
      rw [h2, if_neg (List.cons_ne_nil p L)]
      rfl
  have hG : ∀ p, p ∈ (A ++ [L]).flatten ++ [] → G p.1 = if sg p.1 then -1 else 1 := by
    rw [List.append_nil, fl_app]
    exact h6
  have hF : ∀ i p, ((A ++ [L]).flatten ++ [])[i]? = some p → Fo i = nI (lb p) := by
    rw [List.append_nil, fl_app]
    exact h7
  have hc : ∀ v, v < (A ++ [L]).flatten.length → Fc (lb (vAt (A ++ [L]) v)) = nI (rn_c (A ++ [L]) v) := by
    intro v hv1
    rw [fl_app, List.length_append] at hv1
    by_cases e : v < A.flatten.length
    · rw [vAt_ap e, rnc_app e]
      exact h8 v e
    · obtain ⟨i, rfl⟩ : ∃ i, v = A.flatten.length + i := ⟨v - A.flatten.length, by omega⟩
      have hi : i < L.length := by omega
      rw [vAt_nw (List.getElem?_eq_getElem hi), rnc_new hi]
      exact h9 _ (List.getElem_mem hi)
  refine ⟨hnum, rfl, fun h => absurd rfl h, ?_, (fun i p q e => by rw [List.getElem?_nil] at e; cases e), hG, hF, hc, fun p hp => by cases hp⟩
  intro v hv1
  rw [fl_app, List.length_append] at hv1
  cases L with
  | nil =>
    rw [h2]
    show S.1 _ = _ ∧ S.2 _ = _
    have e : v < A.flatten.length := hv1
    rw [vAt_ap e, rnx_app e, vAt_ap (rnx_lt e)]
    exact h4 v e
  | cons p L =>
    have hla : la = ((p :: L).getLast?).map lb := h3 (by intro h; cases h)
    have hlen : (p :: L).length = L.length + 1 := rfl
    obtain ⟨q, hq⟩ : ∃ q, (p :: L)[L.length]? = some q := ⟨_, List.getElem?_eq_getElem (Nat.lt_succ_self _)⟩
    have hq2 : (p :: L).getLast? = some q := by
      rw [List.getLast?_eq_getElem?]
      exact hq
    rw [hq2] at hla
    rw [h2, hla]
    show (nl S (lb q) (lb p)).1 _ = _ ∧ (nl S (lb q) (lb p)).2 _ = _
    have n1 : ∀ k, k ≠ lb q → (nl S (lb q) (lb p)).1 k = S.1 k := fun k hk => if_neg hk
    have n2 : ∀ k, k ≠ lb p → (nl S (lb q) (lb p)).2 k = S.2 k := fun k hk => if_neg hk
    have n3 : (nl S (lb q) (lb p)).1 (lb q) = lb p := if_pos rfl
    have n4 : (nl S (lb q) (lb p)).2 (lb p) = lb q := if_pos rfl
    have hqF : (A.flatten ++ p :: L)[A.flatten.length + L.length]? = some q := by
      rw [List.getElem?_append_right (by omega), show A.flatten.length + L.length - A.flatten.length = L.length by omega]
      exact hq
    have hpF : (A.flatten ++ p :: L)[A.flatten.length]? = some p := by
      rw [List.getElem?_append_right (Nat.le_refl _), Nat.sub_self]
      rfl
    by_cases e : v < A.flatten.length
    · have hx := rnx_lt e
      rw [vAt_ap e, rnx_app e, vAt_ap hx]
      have g1 : (A.flatten ++ p :: L)[v]? = some (vAt A v) := by
        rw [List.getElem?_append_left e]
        exact vAt_of e
      have g2 : (A.flatten ++ p :: L)[rn_nx A v]? = some (vAt A (rn_nx A v)) := by
        rw [List.getElem?_append_left hx]
        exact vAt_of hx
      rw [n1 _ (vOK_ne hv g1 hqF (by omega)), n2 _ (vOK_ne hv g2 hpF (by omega))]
      exact h4 v e
    · obtain ⟨i, rfl⟩ : ∃ i, v = A.flatten.length + i := ⟨v - A.flatten.length, by omega⟩
      have hi : i < (p :: L).length := by omega
      rw [rnx_new hi]
      by_cases hi2 : i + 1 < (p :: L).length
      · rw [if_pos hi2, vAt_nw (List.getElem?_eq_getElem hi), vAt_nw (List.getElem?_eq_getElem hi2)]
        have g1 : (A.flatten ++ p :: L)[A.flatten.length + i]? = some (p :: L)[i] := by
          rw [List.getElem?_append_right (by omega), show A.flatten.length + i - A.flatten.length = i by omega]
          exact List.getElem?_eq_getElem hi
        have g2 : (A.flatten ++ p :: L)[A.flatten.length + (i + 1)]? = some (p :: L)[i + 1] := by
          rw [List.getElem?_append_right (by omega), show A.flatten.length + (i + 1) - A.flatten.length = i + 1 by omega]
          exact List.getElem?_eq_getElem hi2
        rw [n1 _ (vOK_ne hv g1 hqF (by omega)), n2 _ (vOK_ne hv g2 hpF (by omega))]
        exact h5 i _ _ (List.getElem?_eq_getElem hi) (List.getElem?_eq_getElem hi2)
      · have ei : i = L.length := by omega
        rw [if_neg hi2, ei, vAt_nw hq, show A.flatten.length = A.flatten.length + 0 from rfl, vAt_nw (A := A) (L := p :: L) (i := 0) (p := p) rfl]
        exact ⟨n3, n4⟩
theorem ldS_visit {sg : Nat → Bool} {A : rn_L} {L : List (Nat × Nat)} {b : Nat} {t : ow_LD} {p : Nat × Nat} (hv : vOK (A.flatten ++ (L ++ [p]))) (hfo : fo (A.flatten ++ (L ++ [p]))) (hb : b ≤ p.1) (h12 : p.1 < 12) (h24 : (A.flatten ++ L).length < 24) (h : ldS sg A L b t) : ∃ t1, ld_cell t (clc sg b p) = some t1 ∧ ldS sg A (L ++ [p]) b t1 := by
  obtain ⟨⟨S, G, Fo, Fc⟩, ⟨ci, co, ba, na, lo, cn⟩, fi, la⟩ := t
  obtain ⟨h1, h2, h3, h4, h5, h6, h7, h8, h9⟩ := h
  dsimp only at h1 h2 h3 h4 h5 h6 h7 h8 h9
  injection h1 with e1 h1
  injection h1 with e2 h1
  injection h1 with e3 h1
  injection h1 with e4 h1
  injection h1 with e5 e6
  rw [← List.append_assoc] at hv hfo
  have hp2 : p.2 < 2 := hv.2 p (List.mem_append_right _ (List.mem_singleton.mpr rfl))
  have hfa := fo_at hfo
  have hlen := vOK_len hv
  have hlen0 := vOK_len (vOK_pre hv)
  rw [nm_app, List.length_append] at hlen
  have hlen' : (A.flatten ++ L).length + 1 ≤ 2 * (if p.1 < nm (A.flatten ++ L) then nm (A.flatten ++ L) else p.1 + 1) := hlen
  have hs2 : (if sg p.1 = true then 1 else 0) < 2 := by split <;> omega
  have c1 : clc sg b p / 4 = p.1 - b + 1 := by
    unfold clc
    omega
  have c2 : clc sg b p / 2 % 2 = p.2 := by
    unfold clc
    omega
  have c3 : clc sg b p % 2 = if sg p.1 = true then 1 else 0 := by
    unfold clc
    omega
  have cx : ba + clc sg b p / 4 - 1 = p.1 := by
    rw [c1, e3]
    omega
  refine ⟨ld_visit S G Fo Fc ci co ba na lo cn fi la p.1 (lb p) (if sg p.1 then -1 else 1), ?_, ?_⟩
  · have hcd : 4 ≤ clc sg b p ∧ p.1 < 12 ∧ cn < 24 ∧ (p.1 < na → 0 < lo) := by
      refine ⟨by unfold clc; omega, h12, by omega, fun hx => ?_⟩
      rw [e4] at hx
      rw [if_pos hx] at hlen'
      omega
    rw [ld_cell_eq, if_neg (by unfold clc; omega), cx, if_pos hcd, c2, c3]
    show some (ld_visit S G Fo Fc ci co ba na lo cn fi la p.1 (2 * p.1 + p.2) _) = some (ld_visit S G Fo Fc ci co ba na lo cn fi la p.1 (2 * p.1 + p.2) _)
    cases sg p.1 <;> rfl
  · have hloc : ∀ q, q ∈ A.flatten ++ L → lb q ≠ lb p := fun q hq => vOK_new hv hq
    have hnum : (ld_visit S G Fo Fc ci co ba na lo cn fi la p.1 (lb p) (if sg p.1 then -1 else 1)).2.1 = (cirs A, A.length, b, nm (A.flatten ++ (L ++ [p])), 2 * nm (A.flatten ++ (L ++ [p])) - (A.flatten ++ (L ++ [p])).length, (A.flatten ++ (L ++ [p])).length) := by
      rw [← List.append_assoc, nm_app, List.length_append, ← e4, ← e6]
      show (ci, co, ba, (if p.1 < na then na else p.1 + 1), (if p.1 < na then lo - 1 else lo + 1), cn + 1) = (cirs A, A.length, b, (if p.1 < na then na else p.1 + 1), 2 * (if p.1 < na then na else p.1 + 1) - (cn + 1), cn + 1)
      have e5' : lo = 2 * na - cn := by rw [e5, e4, e6]
      have hl0 : cn ≤ 2 * na := by rw [e4, e6]; exact hlen0
      rw [← e1, ← e2, e3]
      congr 4
      by_cases hx : p.1 < na
      · rw [if_pos hx, if_pos hx]
        congr 1
        omega
      · rw [if_neg hx, if_neg hx]
        congr 1
        have : p.1 = na := by
          rw [← e4] at hfa
          omega
        omega
    refine ⟨hnum, ?_, fun _ => ?_, fun v hv1 => ?_, fun i q r eq er => ?_, fun q hq => ?_, fun i q eq => ?_, fun v hv1 => ?_, fun q hq => ?_⟩
    · show some (fi.getD (lb p)) = _
      rw [h2]
      cases L with
      | nil => rfl
      | cons q L => rfl
    · show some (lb p) = _
      rw [List.getLast?_append]
      rfl
    · -- the closed components stay
      show (match fi with | none => S | some _ => nl S (la.getD 0) (lb p)).1 _ = _ ∧ (match fi with | none => S | some _ => nl S (la.getD 0) (lb p)).2 _ = _
      cases L with
      | nil =>
        rw [h2]
        exact h4 v hv1
      | cons q0 L =>
        have hla : la = ((q0 :: L).getLast?).map lb := h3 (by intro h; cases h)
        obtain ⟨q, hq⟩ : ∃ q, (q0 :: L)[L.length]? = some q := ⟨_, List.getElem?_eq_getElem (Nat.lt_succ_self _)⟩
        have hq2 : (q0 :: L).getLast? = some q := by
          rw [List.getLast?_eq_getElem?]
          exact hq
        rw [hq2] at hla
        rw [h2, hla]
        have hx := rnx_lt hv1
        have g1 : (A.flatten ++ q0 :: L)[v]? = some (vAt A v) := by
          rw [List.getElem?_append_left hv1]
          exact vAt_of hv1
        have hqF : (A.flatten ++ q0 :: L)[A.flatten.length + L.length]? = some q := by
          rw [List.getElem?_append_right (by omega), show A.flatten.length + L.length - A.flatten.length = L.length by omega]
          exact hq
        have m1 : lb (vAt A v) ≠ lb q := vOK_ne (vOK_pre hv) g1 hqF (by omega)
        have m2 : lb (vAt A (rn_nx A v)) ≠ lb p := hloc _ (List.mem_append_left _ (vAt_mem hx))
        show (if lb (vAt A v) = lb q then lb p else S.1 (lb (vAt A v))) = _ ∧ (if lb (vAt A (rn_nx A v)) = lb p then lb q else S.2 (lb (vAt A (rn_nx A v)))) = _
        rw [if_neg m1, if_neg m2]
        exact h4 v hv1
    · -- the last one grows
      show (match fi with | none => S | some _ => nl S (la.getD 0) (lb p)).1 _ = _ ∧ (match fi with | none => S | some _ => nl S (la.getD 0) (lb p)).2 _ = _
      cases L with
      | nil =>
        rw [List.nil_append] at er
        rw [List.getElem?_cons_succ, List.getElem?_nil] at er
        cases er
      | cons q0 L =>
        have hla : la = ((q0 :: L).getLast?).map lb := h3 (by intro h; cases h)
        obtain ⟨z, hz⟩ : ∃ z, (q0 :: L)[L.length]? = some z := ⟨_, List.getElem?_eq_getElem (Nat.lt_succ_self _)⟩
        have hz2 : (q0 :: L).getLast? = some z := by
          rw [List.getLast?_eq_getElem?]
          exact hz
        rw [hz2] at hla
        rw [h2, hla]
        show (if lb q = lb z then lb p else S.1 (lb q)) = lb r ∧ (if lb r = lb p then lb z else S.2 (lb r)) = lb q
        have hi := (List.getElem?_eq_some_iff.mp er).1
        rw [List.length_append] at hi
        have hi' : i + 1 < L.length + 1 + 1 := hi
        have hzF : (A.flatten ++ q0 :: L)[A.flatten.length + L.length]? = some z := by
          rw [List.getElem?_append_right (by omega), show A.flatten.length + L.length - A.flatten.length = L.length by omega]
          exact hz
        by_cases ei : i = L.length
        · have er' : r = p := by
            rw [ei, List.getElem?_append_right (show (q0 :: L).length ≤ L.length + 1 from Nat.le_refl _)] at er
            rw [show L.length + 1 - (q0 :: L).length = 0 from Nat.sub_self _] at er
            cases er
            rfl
          have eq' : q = z := by
            rw [ei, List.getElem?_append_left (Nat.lt_succ_self _)] at eq
            rw [hz] at eq
            cases eq
            rfl
          rw [er', eq', if_pos rfl, if_pos rfl]
          exact ⟨rfl, rfl⟩
        · rw [List.getElem?_append_left (show i < L.length + 1 by omega)] at eq
          rw [List.getElem?_append_left (show i + 1 < L.length + 1 by omega)] at er
          have g1 : (A.flatten ++ q0 :: L)[A.flatten.length + i]? = some q := by
            rw [List.getElem?_append_right (by omega), show A.flatten.length + i - A.flatten.length = i by omega]
            exact eq
          rw [if_neg (vOK_ne (vOK_pre hv) g1 hzF (by omega)), if_neg (hloc r (List.mem_append_right _ (List.mem_of_getElem? er)))]
          exact h5 i q r eq er
    · show (if p.1 < na then G else su G p.1 (if sg p.1 then -1 else 1)) q.1 = _
      rw [← List.append_assoc] at hq
      rcases List.mem_append.mp hq with hq1 | hq1
      · have hlt := nm_lt _ q hq1
        by_cases hx : p.1 < na
        · rw [if_pos hx]
          exact h6 q hq1
        · rw [if_neg hx]
          show (if q.1 = p.1 then _ else G q.1) = _
          rw [if_neg (by rw [e4] at hx; omega)]
          exact h6 q hq1
      · rw [List.mem_singleton.mp hq1]
        by_cases hx : p.1 < na
        · rw [if_pos hx]
          obtain ⟨u, hu⟩ := nm_all _ (fo_pre hfo) p.1 (by rw [← e4]; exact hx)
          exact h6 (p.1, u) hu
        · rw [if_neg hx]
          exact if_pos rfl
    · show su Fo cn (nI (lb p)) i = _
      rw [← List.append_assoc] at eq
      by_cases ei : i = cn
      · rw [ei]
        rw [ei, e6, List.getElem?_append_right (Nat.le_refl _), Nat.sub_self] at eq
        cases eq
        exact if_pos rfl
      · have hi := (List.getElem?_eq_some_iff.mp eq).1
        rw [List.length_append] at hi
        have hi' : i < (A.flatten ++ L).length + 1 := hi
        rw [List.getElem?_append_left (by omega)] at eq
        rw [show su Fo cn (nI (lb p)) i = Fo i from if_neg ei]
        exact h7 i q eq
    · show su Fc (lb p) (nI co) (lb (vAt A v)) = _
      rw [show su Fc (lb p) (nI co) (lb (vAt A v)) = Fc (lb (vAt A v)) from if_neg (hloc _ (List.mem_append_left _ (vAt_mem hv1)))]
      exact h8 v hv1
    · show su Fc (lb p) (nI co) (lb q) = _
      rcases List.mem_append.mp hq with hq1 | hq1
      · rw [show su Fc (lb p) (nI co) (lb q) = Fc (lb q) from if_neg (hloc _ (List.mem_append_right _ hq1))]
        exact h9 q hq1
      · rw [List.mem_singleton.mp hq1, show su Fc (lb p) (nI co) (lb p) = nI co from if_pos rfl, e2]
theorem ldR_app : ∀ (X Y : List Nat) (t : ow_LD), ldR (X ++ Y) t = (ldR X t).bind (ldR Y)
  | [], Y, t => rfl
  | c :: X, Y, t => by
    show (ld_cell t c).bind (ldR (X ++ Y)) = ((ld_cell t c).bind (ldR X)).bind (ldR Y)
    cases ld_cell t c with
    | none => rfl
    | some u => exact ldR_app X Y u
theorem ldS_comp {sg : Nat → Bool} {A : rn_L} {b : Nat} : ∀ (R L : List (Nat × Nat)) (t : ow_LD), vOK (A.flatten ++ (L ++ R)) → fo (A.flatten ++ (L ++ R)) → (∀ p, p ∈ R → b ≤ p.1 ∧ p.1 < 12) → (A.flatten ++ (L ++ R)).length ≤ 24 → ldS sg A L b t → ∃ t1, ldR (R.map (clc sg b)) t = some t1 ∧ ldS sg A (L ++ R) b t1
  | [], L, t => fun _ _ _ _ h => ⟨t, rfl, by rw [List.append_nil]; exact h⟩
  | p :: R, L, t => fun hv hf hb hl h => by
    have e : L ++ p :: R = L ++ [p] ++ R := by rw [List.append_assoc]; rfl
    rw [e] at hv hf hl ⊢
    have hv1 : vOK (A.flatten ++ (L ++ [p])) := vOK_pre (G := R) (by rw [List.append_assoc]; exact hv)
    have hf1 : fo (A.flatten ++ (L ++ [p])) := fo_pre (G := R) (by rw [List.append_assoc]; exact hf)
    have hl1 : (A.flatten ++ L).length < 24 := by
      rw [List.length_append, List.length_append, List.length_append] at hl
      rw [List.length_append]
      have : [p].length = 1 := rfl
      omega
    obtain ⟨t1, h1, h2⟩ := ldS_visit hv1 hf1 (hb p (List.mem_cons_self ..)).1 (hb p (List.mem_cons_self ..)).2 hl1 h
    obtain ⟨t2, h3, h4⟩ := ldS_comp R (L ++ [p]) t1 hv hf (fun q hq => hb q (List.mem_cons_of_mem _ hq)) hl h2
    refine ⟨t2, ?_, h4⟩
    show (ld_cell t (clc sg b p)).bind (ldR (R.map (clc sg b))) = some t2
    rw [h1]
    exact h3
/-- the numbers of each component begin at its base or behind -/
def bsO : Nat → rn_L → rn_L → Prop
  | _, _, [] => True
  | b, D, L :: R => (∀ p, p ∈ L → b ≤ p.1) ∧ bsO (nxb b (D ++ [L])) (D ++ [L]) R
theorem ldS_all {sg : Nat → Bool} : ∀ (R A : rn_L) (b : Nat) (t : ow_LD), vOK (A ++ R).flatten → fo (A ++ R).flatten → (∀ p, p ∈ (A ++ R).flatten → p.1 < 12) → (A ++ R).flatten.length ≤ 24 → bsO b A R → ldS sg A [] b t → ∃ t1 b1, ldR (ucd sg b A R) t = some t1 ∧ ldS sg (A ++ R) [] b1 t1
  | [], A, b, t => fun _ _ _ _ _ h => ⟨t, b, rfl, by rw [List.append_nil]; exact h⟩
  | L :: R, A, b, t => fun hv hf h12 hl hb h => by
    have e : A ++ L :: R = A ++ [L] ++ R := by rw [List.append_assoc]; rfl
    rw [e] at hv hf h12 hl ⊢
    have e2 : (A ++ [L] ++ R).flatten = A.flatten ++ L ++ R.flatten := by rw [List.flatten_append, fl_app]
    have hv1 : vOK (A.flatten ++ L) := vOK_pre (G := R.flatten) (by rw [← e2]; exact hv)
    have hf1 : fo (A.flatten ++ L) := fo_pre (G := R.flatten) (by rw [← e2]; exact hf)
    have hl1 : (A.flatten ++ L).length ≤ 24 := by
      rw [e2, List.length_append] at hl
      omega
    obtain ⟨t1, h1, h2⟩ := ldS_comp (sg := sg) (b := b) L [] t hv1 hf1 (fun p hp => ⟨hb.1 p hp, h12 p (by rw [e2]; exact List.mem_append_left _ (List.mem_append_right _ hp))⟩) hl1 h
    obtain ⟨t2, h3, h4⟩ := ldS_zero (A := A) (L := L) hv1 h2
    obtain ⟨t3, b3, h5, h6⟩ := ldS_all R (A ++ [L]) _ t2 hv hf h12 hl hb.2 h4
    refine ⟨t3, b3, ?_, h6⟩
    show ldR (L.map (clc sg b) ++ 0 :: ucd sg (nxb b (A ++ [L])) (A ++ [L]) R) t = some t3
    rw [ldR_app, h1]
    show (ld_cell t1 0).bind (ldR (ucd sg (nxb b (A ++ [L])) (A ++ [L]) R)) = some t3
    rw [h3]
    exact h5
/-- a list of components that codes are written from -/
def okL (A : rn_L) (c : Nat) : Prop := okF A.flatten c ∧ fo A.flatten ∧ bsO 0 [] A ∧ c ≤ 12 ∧ A.length ≤ 6
theorem ldS_net {sg : Nat → Bool} {A : rn_L} {c b : Nat} {t : ow_LD} (hA : okL A c) (h : ldS sg A [] b t) : isoN A sg (fun x => x) (c, t.2.1.1, t.1.1, t.1.2.1) ∧ vn c t.1.1 := by
  obtain ⟨h1, h2, h3, h4, h5, h6, h7, h8, h9⟩ := h
  obtain ⟨o1, o2, o3, o4, o5⟩ := hA
  have hw : wkF A.flatten := okF_wk (by omega) o1
  have hlen : A.flatten.length = 2 * c := okF_len o1
  have hlb : ∀ v, lbv A (fun x => x) v = lb (vAt A v) := fun v => rfl
  have hin : ∀ v, v < A.flatten.length → crs A v < c ∧ uns A v < 2 := fun v hv => (o1.2 _).mp (vAt_mem hv)
  have hiso : isoN A sg (fun x => x) (c, t.2.1.1, t.1.1, t.1.2.1) := by
    refine ⟨hw, hlen, o4, fun v hv => (hin v hv).1, fun v w _ _ e => e, fun v hv => (h4 v hv).1, fun v hv => ?_, by rw [h1]⟩
    show t.1.2.1 (crs A v) < 0 ↔ _
    rw [show t.1.2.1 (crs A v) = if sg (crs A v) then -1 else 1 from h6 (vAt A v) (List.mem_append_left _ (vAt_mem hv))]
    cases sg (crs A v)
    · exact ⟨fun h => absurd h (by decide), fun h => by cases h⟩
    · exact ⟨fun _ => rfl, fun _ => by decide⟩
  refine ⟨hiso, fun k hk => ?_⟩
  obtain ⟨v, hv, e⟩ := lbv_sur hiso hk
  have hx := rnx_lt hv
  have hlx : lb (vAt A (rn_nx A v)) < 2 * c := lbv_lt hiso hx
  have e' : lb (vAt A v) = k := e
  obtain ⟨w, hw1, hw2⟩ : ∃ w, w < A.flatten.length ∧ rn_nx A w = v := by
    exact ⟨rn_pv A v, rn_pv_lt hv, nx_pv hv⟩
  have hlw : lb (vAt A w) < 2 * c := lbv_lt hiso hw1
  have q1 := h4 v hv
  have q2 := h4 w hw1
  rw [hw2] at q2
  rw [← e']
  refine ⟨?_, ?_, ?_, ?_⟩
  · rw [q1.1]
    exact hlx
  · rw [q2.2]
    exact hlw
  · rw [q1.1]
    exact q1.2
  · rw [q2.2]
    exact q2.1
end
section
/-! 99zzzzzj.cldn -/
/-! a code loaded: the net is valid -/
theorem snocI {α : Type} {P : List α → Prop} (h0 : P []) (h1 : ∀ F p, P F → P (F ++ [p])) : ∀ F, P F := by
  intro F
  have : ∀ n, ∀ F : List α, F.length = n → P F := by
    intro n
    induction n with
    | zero => intro F h; rw [List.length_eq_zero_iff.mp h]; exact h0
    | succ n ih =>
      intro F h
      rcases List.eq_nil_or_concat F with e | ⟨L, b, e⟩
      · rw [e] at h; cases h
      · rw [e, List.concat_eq_append]
        refine h1 L b (ih L ?_)
        rw [e, List.concat_eq_append, List.length_append] at h
        have h' : L.length + 1 = n + 1 := h
        omega
  exact this _ F rfl
def neB (A : rn_L) (c : Nat) : Bool := !((A[c]?).getD []).isEmpty
theorem ne_cnt : ∀ A : rn_L, cntB (neB A) A.length + cirs A = A.length := by
  refine snocI rfl (fun A L ih => ?_)
  rw [cirs_app, List.length_append]
  show cntB (neB (A ++ [L])) A.length + (if neB (A ++ [L]) A.length = true then 1 else 0) + _ = A.length + 1
  have e1 : cntB (neB (A ++ [L])) A.length = cntB (neB A) A.length := by
    refine cntB_cg _ (fun k hk => ?_)
    unfold neB
    rw [List.getElem?_append_left hk]
  have e2 : neB (A ++ [L]) A.length = !L.isEmpty := by
    unfold neB
    rw [List.getElem?_append_right (Nat.le_refl _), Nat.sub_self]
    rfl
  rw [e1, e2]
  cases L with
  | nil =>
    rw [if_neg (by decide), if_pos rfl]
    omega
  | cons p L =>
    rw [if_neg (List.cons_ne_nil p L)]
    show cntB (neB A) A.length + 1 + (cirs A + 0) = A.length + 1
    omega
theorem rnb_s {A : rn_L} {c : Nat} (hc : c < A.length) : rn_b A (c + 1) = rn_b A c + (A[c]).length := by
  unfold rn_b
  rw [List.take_add_one, List.getElem?_eq_getElem hc, List.flatten_append, List.length_append]
  show _ + ([A[c]].flatten).length = _
  rw [List.flatten_cons, List.flatten_nil, List.append_nil]
theorem neB_in {A : rn_L} {v : Nat} (hv : v < A.flatten.length) : neB A (rn_c A v) = true := by
  obtain ⟨h1, h2, h3⟩ := rn_c_in A v hv
  have h4 := rnb_s h1
  unfold neB
  rw [List.getElem?_eq_getElem h1]
  show (!(A[rn_c A v]).isEmpty) = true
  cases e : A[rn_c A v] with
  | nil =>
    rw [e] at h4
    have h4' : rn_b A (rn_c A v + 1) = rn_b A (rn_c A v) := h4
    omega
  | cons p L => rfl
section CJ
variable {A : rn_L} {sg : Nat → Bool} {f : Nat → Nat} {T : ow_NT}
theorem iso_it (hi : isoN A sg f T) {s : Nat} (hs : s < A.flatten.length) : ∀ j, j < rlen A (rn_c A s) → it T.2.2.1.1 j (lbv A f s) = lbv A f (rv A s j) := by
  intro j
  induction j with
  | zero =>
    intro _
    rw [rv_0 hs]
    rfl
  | succ j ih =>
    intro hj
    have h1 := ih (by omega)
    have h2 := hi.2.2.2.2.2.1 _ (rv_lt hs (show j < rlen A (rn_c A s) by omega))
    rw [rv_nx hs (by omega), if_neg (by omega)] at h2
    show T.2.2.1.1 (it T.2.2.1.1 j (lbv A f s)) = _
    rw [h1]
    exact h2
theorem iso_same (hi : isoN A sg f T) {v w : Nat} (hv : v < A.flatten.length) (hw : w < A.flatten.length) (hc : rn_c A w = rn_c A v) : ∃ i, i < 24 ∧ it T.2.2.1.1 i (lbv A f v) = lbv A f w := by
  obtain ⟨i, h1, h2⟩ := rgl_mem (rgl_all hv hw hc)
  have h3 := rlen_le hv
  have h4 := hi.2.1
  have h5 := hi.2.2.1
  refine ⟨i, by omega, ?_⟩
  rw [iso_it hi hv i h1, h2]
theorem iso_rg (hi : isoN A sg f T) : np_rg T.1 T.2.2.1 + T.2.1 ≤ A.length := by
  have hex : ∀ k, k < 2 * T.1 → ∃ v, v < A.flatten.length ∧ lbv A f v = k := fun k hk => lbv_sur hi hk
  let inv : Nat → Nat := fun k => if h : ∃ v, v < A.flatten.length ∧ lbv A f v = k then Classical.choose h else 0
  have hinv : ∀ k, k < 2 * T.1 → inv k < A.flatten.length ∧ lbv A f (inv k) = k := by
    intro k hk
    have h := hex k hk
    have e : inv k = Classical.choose h := dif_pos h
    rw [e]
    exact Classical.choose_spec h
  have h1 : np_rg T.1 T.2.2.1 ≤ cntB (neB A) A.length := by
    refine cntB_inj (2 * T.1) (fun k => lst T.2.2.1.1 k 24) (neB A) (fun k => rn_c A (inv k)) (fun k hk _ => ⟨(rn_c_in A _ (hinv k hk).1).1, neB_in (hinv k hk).1⟩) (fun k j hk hj qk qj e => ?_)
    have a1 := hinv k hk
    have a2 := hinv j hj
    obtain ⟨i1, i2, i3⟩ := iso_same hi a1.1 a2.1 e.symm
    obtain ⟨j1, j2, j3⟩ := iso_same hi a2.1 a1.1 e
    rw [a1.2, a2.2] at i3 j3
    have b1 := (lst_t 24).mp qk i1 i2
    have b2 := (lst_t 24).mp qj j1 j2
    omega
  have h2 := ne_cnt A
  have h3 : cirs A = T.2.1 := hi.2.2.2.2.2.2.2
  omega
end CJ
/-- reading keeps a net's numbers below 24 -/
theorem ld_b24 : ∀ (L : List Nat) (t t1 : ow_LD), ldR L t = some t1 → ow_b24 t.1.1 → (∀ a, t.2.2.1 = some a → a < 24) → (∀ a, t.2.2.2 = some a → a < 24) → ow_b24 t1.1.1
  | [], t, t1, h, hb, _, _ => by
    cases h
    exact hb
  | c :: L, t, t1, h, hb, hf, hl => by
    have h : (ld_cell t c).bind (ldR L) = some t1 := h
    obtain ⟨⟨S, G, Fo, Fc⟩, ⟨ci, co, ba, na, lo, cn⟩, fi, la⟩ := t
    dsimp only at hb hf hl
    have hla : la.getD 0 < 24 := by
      cases la with
      | none => exact Nat.succ_pos 23
      | some a => exact hl a rfl
    have hnl : ∀ a b, a < 24 → b < 24 → ow_b24 (nl S a b) := by
      intro a b ha hb2
      refine ⟨fun k => ?_, fun k => ?_⟩
      · show (if k = a then b else S.1 k) < 24
        split
        · exact hb2
        · exact hb.1 k
      · show (if k = b then a else S.2 k) < 24
        split
        · exact ha
        · exact hb.2 k
    rw [ld_cell_eq] at h
    by_cases e0 : c = 0
    · rw [if_pos e0] at h
      refine ld_b24 L (ld_zero S G Fo Fc ci co ba na lo cn fi la) t1 h ?_ (fun a e => by cases e) hl
      cases fi with
      | none => exact hb
      | some a => exact hnl _ _ hla (hf a rfl)
    · rw [if_neg e0] at h
      by_cases e1 : 4 ≤ c ∧ ba + c / 4 - 1 < 12 ∧ cn < 24 ∧ (ba + c / 4 - 1 < na → 0 < lo)
      · rw [if_pos e1] at h
        have hv : 2 * (ba + c / 4 - 1) + c / 2 % 2 < 24 := by omega
        refine ld_b24 L _ t1 h ?_ (fun a e => ?_) (fun a e => ?_)
        · cases fi with
          | none => exact hb
          | some a => exact hnl _ _ hla hv
        · have e : some (fi.getD (2 * (ba + c / 4 - 1) + c / 2 % 2)) = some a := e
          cases fi with
          | none =>
            cases e
            exact hv
          | some b =>
            cases e
            exact hf _ rfl
        · have e : some (2 * (ba + c / 4 - 1) + c / 2 % 2) = some a := e
          cases e
          exact hv
      · rw [if_neg e1] at h
        cases h
theorem ucd_len {sg : Nat → Bool} : ∀ (R D : rn_L) (b : Nat), (ucd sg b D R).length = R.flatten.length + R.length
  | [], _, _ => rfl
  | L :: R, D, b => by
    show (L.map (clc sg b) ++ 0 :: ucd sg (nxb b (D ++ [L])) (D ++ [L]) R).length = _
    rw [List.length_append, List.length_cons, ucd_len R, List.length_map, List.flatten_cons, List.length_append, List.length_cons]
    omega
theorem ucd_64 {sg : Nat → Bool} : ∀ (R D : rn_L) (b : Nat), (∀ p, p ∈ R.flatten → p.1 < 12 ∧ p.2 < 2) → ∀ a, a ∈ ucd sg b D R → a < 64
  | [], _, _ => fun _ a ha => by cases ha
  | L :: R, D, b => fun h a ha => by
    have ha : a ∈ L.map (clc sg b) ++ 0 :: ucd sg (nxb b (D ++ [L])) (D ++ [L]) R := ha
    rcases List.mem_append.mp ha with h1 | h1
    · obtain ⟨p, hp, e⟩ := List.mem_map.mp h1
      have := h p (by rw [List.flatten_cons]; exact List.mem_append_left _ hp)
      rw [← e]
      unfold clc
      split <;> omega
    · rcases List.mem_cons.mp h1 with h2 | h2
      · omega
      · exact ucd_64 R _ _ (fun p hp => h p (by rw [List.flatten_cons]; exact List.mem_append_right _ hp)) a h2
/-- the class's code of a list of components -/
def clC (sg : Nat → Bool) (A : rn_L) : cdT := (A.flatten.length / 2, ucd sg 0 [] A)
theorem okL_c {A : rn_L} {c : Nat} {sg : Nat → Bool} (h : okL A c) : (clC sg A).1 = c ∧ cOK (clC sg A) := by
  have h1 := okF_len h.1
  have h2 := h.2.2.2.1
  have h3 := h.2.2.2.2
  have e : (clC sg A).1 = c := by
    show A.flatten.length / 2 = c
    omega
  refine ⟨e, by rw [e]; exact h2, ?_, ?_⟩
  · show (ucd sg 0 [] A).length ≤ 30
    rw [ucd_len]
    omega
  · exact ucd_64 A [] 0 (fun p hp => by have := (h.1.2 p).mp hp; omega)
section CK2
variable {vl : Nat → Nat} {y : ow_MS} {h g p s : Nat} {A : rn_L} {sg : Nat → Bool} {c : Nat} {T : ow_NT}
/-- the net at h shows A, as it is loaded: the visits' order and components lie beside -/
def shA (y : ow_MS) (h : Nat) (A : rn_L) (sg : Nat → Bool) (T : ow_NT) : Prop := cAt y h T ∧ isoN A sg (fun x => x) T ∧ nv T ∧ (∀ i q, A.flatten[i]? = some q → y.2.1 (h + 4) i = nI (lb q)) ∧ (∀ v, v < A.flatten.length → y.2.1 (h + 5) (lb (vAt A v)) = nI (rn_c A v)) ∧ y.1 (h + 10) = nI A.length
theorem tc_load2 (hh : nH h) (hg : tH g p) (hd : h + 12 ≤ g ∨ g + 6 ≤ h) (hs : s < p) (hA : okL A c) (hC : slC y g s (clC sg A)) (hy : cAt y h T) (hb : ow_b24 T.2.2.1) : Te (fun K => ce_X7_load vl K h g (nI s) y) (fun y1 => (∃ T1, shA y1 h A sg T1 ∧ T1.1 = c ∧ T1.2.1 = cirs A) ∧ fr (cL h) y y1) := by
  obtain ⟨ec, oC⟩ := okL_c (sg := sg) hA
  obtain ⟨o1, o2, o3, o4, o5⟩ := id hA
  have hv : vOK A.flatten := ⟨o1.1, fun p hp => ((o1.2 p).mp hp).2⟩
  have hl := okF_len o1
  have hinit : ldS sg [] [] 0 (ld_init T.2.2.1 T.2.2.2 (y.2.1 (h + 4)) (y.2.1 (h + 5))) := by
    refine ⟨rfl, rfl, fun h => absurd rfl h, fun v hv => absurd hv (Nat.not_lt_zero _), fun i p q e => ?_, fun p hp => (by cases hp), fun i p e => ?_, fun v hv => absurd hv (Nat.not_lt_zero _), fun p hp => (by cases hp)⟩
    · rw [List.getElem?_nil] at e
      cases e
    · have e : ([] : List (Nat × Nat))[i]? = some p := e
      rw [List.getElem?_nil] at e
      cases e
  obtain ⟨t, b1, h1, h2⟩ := ldS_all (sg := sg) A [] 0 (ld_init T.2.2.1 T.2.2.2 (y.2.1 (h + 4)) (y.2.1 (h + 5))) hv o2 (fun p hp => by have := ((o1.2 p).mp hp).1; omega) (by rw [List.nil_append]; omega) o3 hinit
  rw [List.nil_append] at h2
  refine w_monoE (tc_load hh hg hd hs hC oC hy (fun _ => rfl) (fun _ => rfl) h1) ?_
  rintro y1 ⟨l1, l2⟩
  obtain ⟨n1, n2⟩ := ldS_net hA h2
  have hb1 := ld_b24 _ _ _ h1 hb (fun a e => by cases e) (fun a e => by cases e)
  have hr := iso_rg n1
  obtain ⟨g1, g2, g3, g4⟩ := l1
  rw [ec] at g1
  have hci : t.2.1.1 = cirs A := by rw [h2.1]
  have hco : t.2.1.2.1 = A.length := by rw [h2.1]
  refine ⟨⟨(c, t.2.1.1, t.1.1, t.1.2.1), ⟨g1, n1, ⟨n2, o4, hb1, by omega⟩, fun i q e => ?_, fun v hv1 => ?_, ?_⟩, rfl, hci⟩, l2⟩
  · rw [g2 i]
    exact h2.2.2.2.2.2.2.1 i q (by rw [List.append_nil]; exact e)
  · rw [g3]
    exact h2.2.2.2.2.2.2.2.1 v hv1
  · rw [g4, hco]
end CK2
end
section
/-! 99zzzzzk.cgp -/
/-! the row of a part: numbered as it is met, and not closed before its end -/
theorem fo_snoc {F : List (Nat × Nat)} {p : Nat × Nat} (h : fo F) (hp : p.1 ≤ nm F) : fo (F ++ [p]) := by
  intro G q H e
  rcases List.eq_nil_or_concat H with e1 | ⟨H1, z, e1⟩
  · rw [e1] at e
    have := List.append_inj' e rfl
    rw [← this.1, ← (List.cons.inj this.2).1]
    exact hp
  · rw [e1, List.concat_eq_append] at e
    have e2 : F ++ [p] = (G ++ q :: H1) ++ [z] := by
      rw [e, List.append_assoc]
      rfl
    exact h G q H1 (List.append_inj' e2 rfl).1
theorem vOK_full {F : List (Nat × Nat)} (h : vOK F) (hl : 2 * nm F ≤ F.length) {q : Nat × Nat} (h1 : q.1 < nm F) (h2 : q.2 < 2) : q ∈ F := by
  apply Classical.byContradiction
  intro hn
  have hF : (F.map lb).Nodup := nodup_map h.1 (fun a b ha hb e => lb_inj (h.2 a ha) (h.2 b hb) e)
  have h3 : (lb q :: F.map lb).Nodup := by
    refine List.nodup_cons.mpr ⟨fun hm => ?_, hF⟩
    obtain ⟨p, hp, e⟩ := List.mem_map.mp hm
    rw [lb_inj (h.2 p hp) h2 e] at hp
    exact hn hp
  have h4 := nodup_le _ (List.range (2 * nm F)) h3 (fun a ha => by
    rw [List.mem_range]
    rcases List.mem_cons.mp ha with e | e
    · rw [e]
      unfold lb
      omega
    · obtain ⟨p, hp, e9⟩ := List.mem_map.mp e
      have := nm_lt F p hp
      have := h.2 p hp
      rw [← e9]
      unfold lb
      omega)
  rw [List.length_cons, List.length_map, List.length_range] at h4
  omega
/-- a part's own list of components -/
def gp (B : rn_L) (c : Nat) : Prop := okF B.flatten c ∧ fo B.flatten ∧ nm B.flatten = c ∧ B ≠ [] ∧ ∀ k, 0 < k → k < B.length → (B.take k).flatten.length < 2 * nm (B.take k).flatten
section CP
variable {A : rn_L}
theorem nm_rn : ∀ (ws xs : List Nat), nm (ws.map (rnv A (ws ++ xs))) = (fm A ws).length ∧ fo (ws.map (rnv A (ws ++ xs))) := by
  refine snocI (fun xs => ⟨rfl, fun G p H e => ?_⟩) (fun ws v ih xs => ?_)
  · cases G <;> cases e
  · have e0 : ws ++ [v] ++ xs = ws ++ (v :: xs) := by rw [List.append_assoc]; rfl
    obtain ⟨i1, i2⟩ := ih (v :: xs)
    rw [← e0] at i1 i2
    rw [List.map_append, List.map_cons, List.map_nil, fm_app]
    have hin : crs A v ∈ (ws ++ [v]).map (crs A) := by
      rw [List.map_append]
      exact List.mem_append_right _ (List.mem_singleton.mpr rfl)
    have hp : (rnv A (ws ++ [v] ++ xs) v).1 = num A (ws ++ [v]) (crs A v) - 1 := by
      show num A (ws ++ [v] ++ xs) (crs A v) - 1 = _
      rw [num_st hin]
    by_cases hc : crs A v ∈ (fm A ws).map (crs A)
    · have hc2 := (fm_cr ws).mp hc
      have h1 := num_le hc2
      have h0 : 1 ≤ num A ws (crs A v) := by unfold num; omega
      rw [num_st hc2] at hp
      rw [show fmA A (fm A ws) v = fm A ws from if_pos hc]
      refine ⟨?_, fo_snoc i2 (by omega)⟩
      rw [nm_app, if_pos (by omega), i1]
    · have e1 : fm A (ws ++ [v]) = fm A ws ++ [v] := by
        rw [fm_app]
        exact if_neg hc
      have h1 : num A (ws ++ [v]) (crs A v) = (fm A ws).length + 1 := by
        refine num_of ?_
        rw [e1, List.getElem?_append_right (Nat.le_refl _), Nat.sub_self]
        rfl
      rw [show fmA A (fm A ws) v = fm A ws ++ [v] from if_neg hc]
      refine ⟨?_, fo_snoc i2 (by omega)⟩
      rw [nm_app, if_neg (by omega), List.length_append, hp, h1]
      rfl
theorem tr_ext : ∀ (fu : Nat) (S : List Nat), ∃ X, trF A fu S = S ++ X
  | 0, S => ⟨[], (List.append_nil S).symm⟩
  | fu + 1, S => by
    cases h : nxS A S with
    | none => exact ⟨[], by rw [trF_none h, List.append_nil]⟩
    | some w =>
      obtain ⟨X, e⟩ := tr_ext fu (S ++ [w])
      exact ⟨[w] ++ X, by rw [trF_some h, e, List.append_assoc]⟩
theorem tr_pre : ∀ (fu : Nat) (S : List Nat) (k : Nat), S.length ≤ k → k < (trF A fu S).length → ∃ w, (trF A fu S)[k]? = some w ∧ nxS A ((trF A fu S).take k) = some w
  | 0, S, k => fun h1 h2 => by
    have h2 : k < S.length := h2
    omega
  | fu + 1, S, k => fun h1 h2 => by
    cases h : nxS A S with
    | none =>
      rw [trF_none h] at h2
      omega
    | some w =>
      rw [trF_some h] at h2 ⊢
      by_cases e : k = S.length
      · obtain ⟨X, eX⟩ := tr_ext (A := A) fu (S ++ [w])
        rw [eX, e]
        refine ⟨w, ?_, ?_⟩
        · rw [List.append_assoc, List.getElem?_append_right (Nat.le_refl _), Nat.sub_self]
          rfl
        · rw [List.append_assoc, List.take_left]
          exact h
      · refine tr_pre fu (S ++ [w]) k ?_ h2
        rw [List.length_append]
        show S.length + 1 ≤ k
        omega
theorem vsO_pre {X Y : List Nat} : vsO A (X ++ Y) = vsO A X ++ vsO A Y := by
  unfold vsO
  rw [List.map_append, List.flatten_append]
theorem tS_pre {X Y : List Nat} (h : tS A (X ++ Y)) : tS A X := by
  refine ⟨?_, fun s hs => h.2 s (List.mem_append_left _ hs)⟩
  have h1 := h.1
  rw [List.map_append] at h1
  exact (List.nodup_append.mp h1).1
theorem num_inj {vs : List Nat} {v w : Nat} (hv : v ∈ vs) (hw : w ∈ vs) (e : num A vs (crs A v) - 1 = num A vs (crs A w) - 1) : crs A v = crs A w := by
  obtain ⟨a, a1, a2⟩ := num_at (A := A) (List.mem_map.mpr ⟨v, hv, rfl⟩)
  obtain ⟨b, b1, b2⟩ := num_at (A := A) (List.mem_map.mpr ⟨w, hw, rfl⟩)
  rw [e, b1] at a1
  cases a1
  rw [← a2, ← b2]
theorem cdv_gp {sg : Nat → Bool} {s : Nat} (hF : wkF A.flatten) (hs : s < A.flatten.length) : ∃ B sgB, gp B (fm A (vsO A (trS A s))).length ∧ cdv A sg s = tk sgB B ∧ B.flatten.length = (vsO A (trS A s)).length ∧ B.length = (trS A s).length := by
  have hd := wkF_ok hF
  obtain ⟨t1, t2, t3, t4⟩ := trS_all hd hs
  have hok := rnN_ok hF t1 t2
  have hlen1 : 1 ≤ (trS A s).length := by
    cases e : trS A s with
    | nil => rw [e] at t3; cases t3
    | cons a L => exact Nat.succ_pos _
  refine ⟨rnN A (vsO A (trS A s)) (trS A s), rnG A sg (vsO A (trS A s)), ⟨hok, ?_, ?_, ?_, fun k hk1 hk2 => ?_⟩, tks_tk _ (fun v hv => hv), ?_, rnN_len⟩
  · rw [rnN_fl]
    have := (nm_rn (A := A) (vsO A (trS A s)) []).2
    rw [List.append_nil] at this
    exact this
  · rw [rnN_fl]
    have := (nm_rn (A := A) (vsO A (trS A s)) []).1
    rw [List.append_nil] at this
    exact this
  · intro e
    have := rnN_len (A := A) (vs := vsO A (trS A s)) (S := trS A s)
    rw [e] at this
    have h0 : 0 = (trS A s).length := this
    omega
  · rw [rnN_len] at hk2
    obtain ⟨w, w1, w2⟩ := tr_pre (A := A) A.length [s] k hk1 hk2
    have w1 : (trS A s)[k]? = some w := w1
    have w2 : nxS A ((trS A s).take k) = some w := w2
    have ett : (trS A s).take k ++ (trS A s).drop k = trS A s := List.take_append_drop _ _
    have htS : tS A ((trS A s).take k) := tS_pre (Y := (trS A s).drop k) (by rw [ett]; exact t1)
    have evs : vsO A (trS A s) = vsO A ((trS A s).take k) ++ vsO A ((trS A s).drop k) := by
      rw [← vsO_pre, ett]
    have eB : (rnN A (vsO A (trS A s)) (trS A s)).take k = rnN A (vsO A (trS A s)) ((trS A s).take k) := by
      unfold rnN
      rw [List.map_take]
    have hnm := (nm_rn (A := A) (vsO A ((trS A s).take k)) (vsO A ((trS A s).drop k))).1
    rw [← evs] at hnm
    have hvk : vOK ((vsO A ((trS A s).take k)).map (rnv A (vsO A (trS A s)))) := by
      refine vOK_pre (G := (vsO A ((trS A s).drop k)).map (rnv A (vsO A (trS A s)))) ?_
      rw [← List.map_append, ← evs, ← rnN_fl]
      exact ⟨hok.1, fun p hp => ((hok.2 p).mp hp).2⟩
    rw [eB, rnN_fl, List.length_map]
    apply Nat.lt_of_not_le
    intro hle
    -- the mate that is not gone yet
    have hx := w2
    unfold nxS at hx
    rw [Option.map_eq_some_iff] at hx
    obtain ⟨v, h1, h2⟩ := hx
    have hvm := fm_mem _ (List.mem_of_find?_eq_some h1)
    have hv := (vsO_in htS hvm).1
    obtain ⟨h3, h4, -⟩ := nxS_step hd htS w2
    have hm := mtf_mt hd hv
    rw [h2] at hm
    have hw := (rn_mt_lt hm).2
    have hcr : crs A w = crs A v := by
      obtain ⟨-, p, q, e1, e2, e3⟩ := hm
      unfold crs
      rw [vAt_eq e1, vAt_eq e2]
      exact e3.symm
    have hwn : w ∉ vsO A ((trS A s).take k) := fun h9 => by
      rw [(gn_vs htS hw).mpr h9] at h4
      cases h4
    have hvin : v ∈ vsO A (trS A s) := by
      rw [evs]
      exact List.mem_append_left _ hvm
    have hcm : crs A v ∈ (vsO A ((trS A s).take k)).map (crs A) := List.mem_map.mpr ⟨v, hvm, rfl⟩
    have hq : (num A (vsO A (trS A s)) (crs A w) - 1, uns A w) ∈ (vsO A ((trS A s).take k)).map (rnv A (vsO A (trS A s))) := by
      refine vOK_full hvk (by rw [List.length_map]; exact hle) ?_ (uns_lt hF hw)
      show num A (vsO A (trS A s)) (crs A w) - 1 < nm _
      rw [hnm, hcr, evs, num_st hcm]
      have := num_le hcm
      have : 1 ≤ num A (vsO A ((trS A s).take k)) (crs A v) := by unfold num; omega
      omega
    obtain ⟨w', hw1, hw2⟩ := List.mem_map.mp hq
    have hw'in : w' ∈ vsO A (trS A s) := by
      rw [evs]
      exact List.mem_append_left _ hw1
    have hn1 : num A (vsO A (trS A s)) (crs A w') - 1 = num A (vsO A (trS A s)) (crs A v) - 1 := by
      rw [← hcr]
      exact congrArg Prod.fst hw2
    have hc1 := (num_inj hw'in hvin hn1).trans hcr.symm
    have hu2 := congrArg Prod.snd hw2
    have hu1 : uns A w' = uns A w := hu2
    have hw'l := (vsO_in htS hw1).1
    have e6 : vAt A w' = vAt A w := Prod.ext hc1 hu1
    have : w' = w := by
      refine nodup_at hF.1 (vAt_of hw'l) ?_
      rw [e6]
      exact vAt_of hw
    rw [this] at hw1
    exact hwn hw1
  · rw [rnN_fl, List.length_map]
end CP
end
section
/-! 99zzzzzl.ccat -/
/-! parts' rows one behind another: the class's row and the reference's row of one list of components -/
def shv (b : Nat) (p : Nat × Nat) : Nat × Nat := (p.1 + b, p.2)
theorem nm_sh {F : List (Nat × Nat)} {b : Nat} (hF : nm F = b) : ∀ G : List (Nat × Nat), nm (F ++ G.map (shv b)) = b + nm G := by
  refine snoc_ind ?_ (fun G p ih => ?_)
  · rw [List.map_nil, List.append_nil, hF]
    rfl
  · rw [List.map_append, ← List.append_assoc, List.map_cons, List.map_nil, nm_app, nm_app, ih]
    show (if p.1 + b < b + nm G then _ else p.1 + b + 1) = _
    by_cases h : p.1 < nm G
    · rw [if_pos (by omega), if_pos h]
    · rw [if_neg (by omega), if_neg h]
      omega
theorem fo_sh {F : List (Nat × Nat)} {b : Nat} (hF : nm F = b) (hf : fo F) : ∀ G : List (Nat × Nat), fo G → fo (F ++ G.map (shv b)) := by
  refine snoc_ind (fun _ => ?_) (fun G p ih h => ?_)
  · rw [List.map_nil, List.append_nil]
    exact hf
  · rw [List.map_append, ← List.append_assoc, List.map_cons, List.map_nil]
    refine fo_snoc (ih (fo_pre h)) ?_
    rw [nm_sh hF]
    have := fo_at h
    show p.1 + b ≤ _
    omega
/-- components in which each crossing has its two visits, named 0 .. b - 1 -/
def clD (D : rn_L) (b : Nat) : Prop := nm D.flatten = b ∧ D.flatten.length = 2 * b ∧ fo D.flatten
theorem shN_flv {b : Nat} (A : rn_L) : (shN b A).flatten = A.flatten.map (shv b) := shN_fl A
theorem clD_part {D B : rn_L} {b c : Nat} (hD : clD D b) (hB : gp B c) : clD (D ++ shN b B) (b + c) := by
  obtain ⟨h1, h2, h3⟩ := hD
  have hl := okF_len hB.1
  unfold clD
  rw [List.flatten_append, shN_flv]
  refine ⟨?_, ?_, fo_sh h1 h3 _ hB.2.1⟩
  · rw [nm_sh h1, hB.2.2.1]
  · rw [List.length_append, List.length_map]
    omega
theorem ucd_part {sg sgB : Nat → Bool} {D B R : rn_L} {b c : Nat} (hD : clD D b) (hB : gp B c) (hs : ∀ x, x < c → sg (x + b) = sgB x) : ∀ (d k : Nat), k + d = B.length → 0 < d → ucd sg b (D ++ shN b (B.take k)) (shN b (B.drop k) ++ R) = tk sgB (B.drop k) ++ ucd sg (b + c) (D ++ shN b B) R ∧ (bsO (b + c) (D ++ shN b B) R → bsO b (D ++ shN b (B.take k)) (shN b (B.drop k) ++ R)) := by
  intro d
  induction d with
  | zero => exact fun _ _ h => absurd h (Nat.lt_irrefl _)
  | succ d ih =>
    intro k hk _
    have hkl : k < B.length := by omega
    have hl := okF_len hB.1
    have e1 : B.drop k = B[k] :: B.drop (k + 1) := List.drop_eq_getElem_cons hkl
    have e2 : B.take (k + 1) = B.take k ++ [B[k]] := by
      rw [List.take_add_one, List.getElem?_eq_getElem hkl]
      rfl
    have e3 : shN b (B.drop k) = B[k].map (shv b) :: shN b (B.drop (k + 1)) := by
      rw [e1]
      rfl
    have e4 : D ++ shN b (B.take k) ++ [B[k].map (shv b)] = D ++ shN b (B.take (k + 1)) := by
      rw [e2, List.append_assoc]
      congr 1
      unfold shN
      rw [List.map_append]
      rfl
    have hmem : ∀ p, p ∈ B[k] → p ∈ B.flatten := fun p hp => List.mem_flatten.mpr ⟨B[k], List.getElem_mem hkl, hp⟩
    have e5 : (B[k].map (shv b)).map (clc sg b) = B[k].map (tkv sgB) := by
      rw [List.map_map]
      refine List.map_congr_left (fun p hp => ?_)
      have hp1 := (hB.1.2 p).mp (hmem p hp)
      show 4 * (p.1 + b - b + 1) + 2 * p.2 + (if sg (p.1 + b) = true then 1 else 0) = 4 * (p.1 + 1) + 2 * p.2 + if sgB p.1 = true then 1 else 0
      rw [hs p.1 hp1.1, Nat.add_sub_cancel]
    have hnm : nm (D ++ shN b (B.take (k + 1))).flatten = b + nm (B.take (k + 1)).flatten := by
      rw [List.flatten_append, shN_flv, nm_sh hD.1]
    have hln : (D ++ shN b (B.take (k + 1))).flatten.length = 2 * b + (B.take (k + 1)).flatten.length := by
      rw [List.flatten_append, shN_flv, List.length_append, List.length_map, hD.2.1]
    have hbs : ∀ p, p ∈ B[k].map (shv b) → b ≤ p.1 := by
      intro p hp
      obtain ⟨q, hq, e⟩ := List.mem_map.mp hp
      rw [← e]
      show b ≤ q.1 + b
      omega
    rw [e3, e1, tk_cons]
    show (B[k].map (shv b)).map (clc sg b) ++ 0 :: ucd sg (nxb b (D ++ shN b (B.take k) ++ [B[k].map (shv b)])) (D ++ shN b (B.take k) ++ [B[k].map (shv b)]) (shN b (B.drop (k + 1)) ++ R) = _ ∧ (_ → (∀ p, p ∈ B[k].map (shv b) → b ≤ p.1) ∧ bsO (nxb b (D ++ shN b (B.take k) ++ [B[k].map (shv b)])) (D ++ shN b (B.take k) ++ [B[k].map (shv b)]) (shN b (B.drop (k + 1)) ++ R))
    rw [e4, e5]
    by_cases hkd : k + 1 < B.length
    · have hnc := hB.2.2.2.2 (k + 1) (by omega) hkd
      have hx : nxb b (D ++ shN b (B.take (k + 1))) = b := by
        unfold nxb
        rw [hnm, hln, if_neg (by omega)]
      obtain ⟨i1, i2⟩ := ih (k + 1) (by omega) (by omega)
      rw [hx, i1]
      refine ⟨?_, fun h => ⟨hbs, i2 h⟩⟩
      rw [List.append_assoc]
      rfl
    · have etk : B.take (k + 1) = B := List.take_of_length_le (by omega)
      have edr : B.drop (k + 1) = [] := List.drop_of_length_le (by omega)
      have hx : nxb b (D ++ shN b (B.take (k + 1))) = b + c := by
        unfold nxb
        rw [hnm, hln, etk, hB.2.2.1, if_pos (by omega)]
      rw [hx, etk, edr]
      refine ⟨?_, fun h => ⟨hbs, h⟩⟩
      rw [List.append_assoc]
      rfl
/-- parts: components, signs, crossings -/
abbrev prt := rn_L × (Nat → Bool) × Nat
def catL : Nat → List prt → rn_L
  | _, [] => []
  | b, P :: Ps => shN b P.1 ++ catL (b + P.2.2) Ps
def catG : Nat → List prt → Nat → Bool
  | _, [] => fun _ => false
  | b, P :: Ps => fun x => if x < b + P.2.2 then P.2.1 (x - b) else catG (b + P.2.2) Ps x
def totC : List prt → Nat
  | [] => 0
  | P :: Ps => P.2.2 + totC Ps
def totL : List prt → Nat
  | [] => 0
  | P :: Ps => P.1.length + totL Ps
def rowP (Ps : List prt) : List (List Nat) := Ps.map (fun P => tk P.2.1 P.1)
theorem cat_len : ∀ (Ps : List prt) (b : Nat), (catL b Ps).length = totL Ps
  | [], _ => rfl
  | P :: Ps, b => by
    show (shN b P.1 ++ catL (b + P.2.2) Ps).length = P.1.length + totL Ps
    rw [List.length_append, cat_len Ps]
    unfold shN
    rw [List.length_map]
theorem cat_ok : ∀ (Ps : List prt) (b : Nat), (∀ P, P ∈ Ps → gp P.1 P.2.2) → okB (catL b Ps).flatten b (totC Ps)
  | [], b => fun _ => by
    refine ⟨List.nodup_nil, fun p => ⟨fun h => (by cases h), fun h => ?_⟩⟩
    have h3 : p.1 < b + 0 := h.2.1
    omega
  | P :: Ps, b => fun h => by
    have h1 := okF_sh (b := b) (h P List.mem_cons_self).1
    have h2 := cat_ok Ps (b + P.2.2) (fun Q hQ => h Q (List.mem_cons_of_mem _ hQ))
    show okB (shN b P.1 ++ catL (b + P.2.2) Ps).flatten b (P.2.2 + totC Ps)
    rw [List.flatten_append]
    exact okB_app h1 h2
theorem cat_all {sg : Nat → Bool} {R : rn_L} : ∀ (Ps : List prt) (D : rn_L) (b : Nat), (∀ P, P ∈ Ps → gp P.1 P.2.2) → clD D b → (∀ x, b ≤ x → x < b + totC Ps → sg x = catG b Ps x) → ucd sg b D (catL b Ps ++ R) = (rowP Ps).flatten ++ ucd sg (b + totC Ps) (D ++ catL b Ps) R ∧ (bsO (b + totC Ps) (D ++ catL b Ps) R → bsO b D (catL b Ps ++ R)) ∧ clD (D ++ catL b Ps) (b + totC Ps) ∧ tk sg (catL b Ps) = tk (catG b Ps) (catL b Ps)
  | [], D, b => fun _ hD _ => by
    show ucd sg b D ([] ++ R) = [] ++ ucd sg (b + 0) (D ++ []) R ∧ (bsO (b + 0) (D ++ []) R → bsO b D ([] ++ R)) ∧ clD (D ++ []) (b + 0) ∧ _
    rw [List.nil_append, List.nil_append, List.append_nil, Nat.add_zero]
    exact ⟨rfl, fun h => h, hD, rfl⟩
  | P :: Ps, D, b => fun h hD hs => by
    have hP := h P List.mem_cons_self
    have hs1 : ∀ x, x < P.2.2 → sg (x + b) = P.2.1 x := by
      intro x hx
      rw [hs (x + b) (by omega) (by show x + b < b + (P.2.2 + totC Ps); omega)]
      show (if x + b < b + P.2.2 then P.2.1 (x + b - b) else _) = _
      rw [if_pos (by omega), Nat.add_sub_cancel]
    have hs2 : ∀ x, b + P.2.2 ≤ x → x < b + P.2.2 + totC Ps → sg x = catG (b + P.2.2) Ps x := by
      intro x hx hx2
      rw [hs x (by omega) (by show x < b + (P.2.2 + totC Ps); omega)]
      show (if x < b + P.2.2 then P.2.1 (x - b) else _) = _
      rw [if_neg (by omega)]
    have hBl : 0 < P.1.length := List.length_pos_iff.mpr hP.2.2.2.1
    obtain ⟨u1, u2⟩ := ucd_part (R := catL (b + P.2.2) Ps ++ R) hD hP hs1 P.1.length 0 (by omega) hBl
    rw [show P.1.take 0 = [] from rfl, show shN b [] = [] from rfl, List.append_nil, List.drop_zero] at u1 u2
    have hD2 := clD_part hD hP
    obtain ⟨i1, i2, i3, i4⟩ := cat_all (sg := sg) (R := R) Ps (D ++ shN b P.1) (b + P.2.2) (fun Q hQ => h Q (List.mem_cons_of_mem _ hQ)) hD2 hs2
    have e1 : catL b (P :: Ps) ++ R = shN b P.1 ++ (catL (b + P.2.2) Ps ++ R) := by
      show shN b P.1 ++ catL (b + P.2.2) Ps ++ R = _
      rw [List.append_assoc]
    have e2 : D ++ catL b (P :: Ps) = D ++ shN b P.1 ++ catL (b + P.2.2) Ps := by
      show D ++ (shN b P.1 ++ catL (b + P.2.2) Ps) = _
      rw [List.append_assoc]
    have e3 : b + totC (P :: Ps) = b + P.2.2 + totC Ps := by
      show b + (P.2.2 + totC Ps) = _
      omega
    rw [e1, e2, e3]
    refine ⟨?_, fun h9 => u2 (i2 h9), i3, ?_⟩
    · rw [u1, i1, ← List.append_assoc]
      rfl
    · refine tk_congr _ (fun q hq => ?_)
      have := ((cat_ok (P :: Ps) b h).2 q).mp hq
      exact hs q.1 this.1 this.2.1
theorem ucd_cir {sg : Nat → Bool} : ∀ (q : Nat) (D : rn_L) (b : Nat), clD D b → ucd sg b D (List.replicate q []) = List.replicate q 0 ∧ bsO b D (List.replicate q [])
  | 0, _, _ => fun _ => ⟨rfl, trivial⟩
  | q + 1, D, b => fun hD => by
    have hD2 : clD (D ++ [[]]) b := by
      unfold clD
      rw [fl_app, List.append_nil]
      exact hD
    have hx : nxb b (D ++ [[]]) = b := by
      unfold nxb
      rw [hD2.1, ite_self]
    obtain ⟨i1, i2⟩ := ucd_cir (sg := sg) q (D ++ [[]]) b hD2
    rw [List.replicate_succ, List.replicate_succ]
    show [] ++ 0 :: ucd sg (nxb b (D ++ [[]])) (D ++ [[]]) (List.replicate q []) = _ ∧ (∀ p : Nat × Nat, p ∈ [] → b ≤ p.1) ∧ bsO (nxb b (D ++ [[]])) (D ++ [[]]) (List.replicate q [])
    rw [hx, i1]
    exact ⟨rfl, fun p hp => (by cases hp), i2⟩
theorem clD_nil : clD [] 0 := ⟨rfl, rfl, fun G p H e => by cases G <;> cases e⟩
/-- a net's list of components made of its parts' and circles -/
def catA (Ps : List prt) (q : Nat) : rn_L := catL 0 Ps ++ List.replicate q []
theorem catA_ok {Ps : List prt} {q : Nat} (h : ∀ P, P ∈ Ps → gp P.1 P.2.2) (h12 : totC Ps ≤ 12) (h6 : totL Ps + q ≤ 6) : okL (catA Ps q) (totC Ps) ∧ clC (catG 0 Ps) (catA Ps q) = (totC Ps, (rowP Ps).flatten ++ List.replicate q 0) ∧ tk (catG 0 Ps) (catA Ps q) = tk (catG 0 Ps) (catL 0 Ps) ++ List.replicate q 0 ∧ (catA Ps q).length = totL Ps + q := by
  obtain ⟨a1, a2, a3, a4⟩ := cat_all (sg := catG 0 Ps) (R := List.replicate q []) Ps [] 0 h clD_nil (fun _ _ _ => rfl)
  rw [List.nil_append, Nat.zero_add] at a1 a2 a3
  obtain ⟨c1, c2⟩ := ucd_cir (sg := catG 0 Ps) q (catL 0 Ps) (totC Ps) a3
  have hfl : (catA Ps q).flatten = (catL 0 Ps).flatten := by
    unfold catA
    rw [List.flatten_append, fl_nil, List.append_nil]
  have hob := cat_ok Ps 0 h
  rw [c1] at a1
  have hlen : (catA Ps q).length = totL Ps + q := by
    unfold catA
    rw [List.length_append, cat_len, List.length_replicate]
  refine ⟨⟨?_, ?_, a2 c2, h12, by omega⟩, ?_, ?_, hlen⟩
  · rw [hfl]
    refine ⟨hob.1, fun p => ?_⟩
    rw [hob.2 p]
    constructor
    · rintro ⟨h1, h2, h3⟩
      exact ⟨by omega, h3⟩
    · rintro ⟨h1, h2⟩
      exact ⟨Nat.zero_le _, by omega, h2⟩
  · rw [hfl]
    exact a3.2.2
  · unfold clC
    rw [hfl, a3.2.1]
    show (2 * totC Ps / 2, ucd (catG 0 Ps) 0 [] (catL 0 Ps ++ List.replicate q [])) = _
    rw [a1, show 2 * totC Ps / 2 = totC Ps by omega]
  · unfold catA
    rw [tk_app, tk_nil]
/-- what pack writes out of parts -/
theorem pkT_cat {R : List (Nat × List Nat)} : ∀ (ps : List Nat) (Ps : List prt) (b : Nat), ps.map (rAt R) = Ps.map (fun P => (2 * P.2.2, tk P.2.1 P.1)) → (∀ P, P ∈ Ps → gp P.1 P.2.2) → pkT R b ps = tk (catG b Ps) (catL b Ps)
  | [], [], _ => fun _ _ => rfl
  | [], P :: Ps, _ => fun e _ => by cases e
  | p :: ps, [], _ => fun e _ => by cases e
  | p :: ps, P :: Ps, b => fun e h => by
    rw [List.map_cons, List.map_cons] at e
    injection e with e1 e2
    have ih := pkT_cat (R := R) ps Ps (b + P.2.2) e2 (fun Q hQ => h Q (List.mem_cons_of_mem _ hQ))
    have hob := cat_ok Ps (b + P.2.2) (fun Q hQ => h Q (List.mem_cons_of_mem _ hQ))
    have hsh := okF_sh (b := b) (h P List.mem_cons_self).1
    show sft b (rAt R p).2 ++ pkT R (b + (rAt R p).1 / 2) ps = tk (catG b (P :: Ps)) (shN b P.1 ++ catL (b + P.2.2) Ps)
    rw [e1]
    show sft b (tk P.2.1 P.1) ++ pkT R (b + 2 * P.2.2 / 2) ps = _
    rw [show 2 * P.2.2 / 2 = P.2.2 by omega, ih, sft_tk, tk_app]
    congr 1
    · refine tk_congr _ (fun q hq => ?_)
      have := (hsh.2 q).mp hq
      show P.2.1 (q.1 - b) = if q.1 < b + P.2.2 then P.2.1 (q.1 - b) else _
      rw [if_pos this.2.1]
    · refine tk_congr _ (fun q hq => ?_)
      have := (hob.2 q).mp hq
      show catG (b + P.2.2) Ps q.1 = if q.1 < b + P.2.2 then P.2.1 (q.1 - b) else catG (b + P.2.2) Ps q.1
      rw [if_neg (by omega)]
end
section
/-! 99zzzzzm.csort -/
/-! rows in order: the reference's and the class's -/
theorem lxb_lex : ∀ (S T : List Nat), lxb S T = true ↔ lexD S T < 0
  | [], [] => ⟨fun h => (by cases h), fun h => absurd h (by decide)⟩
  | [], b :: B => by
    refine ⟨fun _ => ?_, fun _ => rfl⟩
    show - (((b :: B).length : Nat) : Int) < 0
    rw [List.length_cons]
    omega
  | a :: A, [] => by
    refine ⟨fun h => (by cases h), fun h => ?_⟩
    have h1 : (((a :: A).length : Nat) : Int) < 0 := h
    omega
  | a :: A, b :: B => by
    show (if a = b then lxb A B else decide (a < b)) = true ↔ (if a = b then lexD A B else (a : Int) - b) < 0
    by_cases e : a = b
    · rw [if_pos e, if_pos e]
      exact lxb_lex A B
    · rw [if_neg e, if_neg e, decide_eq_true_iff]
      omega
theorem rlt_cmp {a b : cdT} : rlt a b = true ↔ cmpC a b < 0 := by
  unfold rlt cmpC
  by_cases e : a.1 = b.1
  · rw [if_pos e, decide_eq_false (by omega : ¬ a.1 < b.1), decide_eq_true e, Bool.false_or, Bool.true_and]
    exact lxb_lex _ _
  · rw [if_neg e, decide_eq_false e, Bool.false_and, Bool.or_false, decide_eq_true_iff]
    omega
theorem rlt_f {a b : cdT} (h : rlt a b = false) : cmpC b a ≤ 0 := by
  have h1 : ¬ cmpC a b < 0 := fun h9 => by
    rw [rlt_cmp.mpr h9] at h
    cases h
  have := cmpC_sym (A := b) (B := a)
  omega
/-- the one picked is least -/
theorem pk1_le {R : List cdT} {w : Nat → Bool} : ∀ (k p : Nat), pk1 R w k = some p → ∀ q, q < k → w q = false → cmpC (rAt R p) (rAt R q) ≤ 0
  | 0, p, h => by cases h
  | k + 1, p, h => by
    intro q hq hw
    rw [pk1_s] at h
    by_cases e : w k = true
    · rw [pkA_w e] at h
      by_cases eq : q = k
      · rw [eq, e] at hw
        cases hw
      · exact pk1_le k p h q (by omega) hw
    · have e : w k = false := by
        cases h9 : w k
        · rfl
        · exact absurd h9 e
      cases hl : pk1 R w k with
      | none =>
        rw [hl, pkA_n e] at h
        cases h
        by_cases eq : q = k
        · rw [eq, cmpC_rf]
          exact Int.le_refl _
        · have := pk1_none k hl q (by omega)
          rw [this] at hw
          cases hw
      | some l =>
        rw [hl] at h
        cases hr : rlt (rAt R k) (rAt R l) with
        | true =>
          rw [pkA_t e hr] at h
          cases h
          by_cases eq : q = k
          · rw [eq, cmpC_rf]
            exact Int.le_refl _
          · exact cmpC_tr (Int.le_of_lt (rlt_cmp.mp hr)) (pk1_le k l hl q (by omega) hw)
        | false =>
          rw [pkA_f e hr] at h
          cases h
          by_cases eq : q = k
          · rw [eq]
            exact rlt_f hr
          · exact pk1_le k _ hl q (by omega) hw
theorem sel_spec {R : List cdT} : ∀ (k : Nat) (w : Nat → Bool), rem w (fun _ => 1) R.length = k → (sel R k w).Nodup ∧ (∀ p, p ∈ sel R k w ↔ p < R.length ∧ w p = false) ∧ ((sel R k w).map (rAt R)).Pairwise (fun a b => cmpC a b ≤ 0)
  | 0, w => fun h => by
    refine ⟨List.nodup_nil, fun p => ⟨fun h9 => (by cases h9), fun h9 => ?_⟩, List.Pairwise.nil⟩
    have := rem_zero R.length h p h9.1
    rw [this] at h9
    cases h9.2
  | k + 1, w => fun h => by
    cases hp : pk1 R w R.length with
    | none =>
      have h1 := pk1_none R.length hp
      have : rem w (fun _ => 1) R.length = rem (fun _ => true) (fun _ => 1) R.length := rem_congr _ (fun c hc => h1 c hc)
      have h0 : ∀ n, rem (fun _ => true) (fun _ => 1) n = 0 := by
        intro n
        induction n with
        | zero => rfl
        | succ n ih =>
          show rem (fun _ => true) (fun _ => 1) n + 0 = 0
          rw [ih]
      rw [h0] at this
      omega
    | some p =>
      obtain ⟨p1, p2⟩ := pk1_in R.length hp
      have hst := rem_st (g := w) (g' := fun i => w i || decide (i = p)) (f := fun _ => 1) (c := p) p2 (fun b => rfl) R.length p1
      obtain ⟨i1, i2, i3⟩ := sel_spec (R := R) k (fun i => w i || decide (i = p)) (by omega)
      rw [sel_some hp]
      refine ⟨List.nodup_cons.mpr ⟨fun hm => ?_, i1⟩, fun q => ?_, ?_⟩
      · have := ((i2 p).mp hm).2
        rw [decide_eq_true rfl, Bool.or_true] at this
        cases this
      · rw [List.mem_cons, i2 q]
        constructor
        · rintro (e | ⟨h1, h2⟩)
          · rw [e]
            exact ⟨p1, p2⟩
          · exact ⟨h1, (Bool.or_eq_false_iff.mp h2).1⟩
        · rintro ⟨h1, h2⟩
          by_cases e : q = p
          · exact Or.inl e
          · refine Or.inr ⟨h1, ?_⟩
            rw [h2, decide_eq_false e]
            rfl
      · rw [List.map_cons]
        refine List.Pairwise.cons (fun b hb => ?_) i3
        obtain ⟨q, hq, e⟩ := List.mem_map.mp hb
        have hq2 := (i2 q).mp hq
        rw [← e]
        exact pk1_le R.length p hp q hq2.1 (Bool.or_eq_false_iff.mp hq2.2).1
theorem rAt_range {R : List cdT} : (List.range R.length).map (rAt R) = R := by
  apply List.ext_getElem?
  intro i
  rw [List.getElem?_map]
  by_cases h : i < R.length
  · rw [List.getElem?_range h, rAt_of h]
    rfl
  · rw [List.getElem?_eq_none (by rw [List.length_range]; omega), List.getElem?_eq_none (by omega)]
    rfl
theorem sel_perm {R : List cdT} : ((sel R R.length (fun _ => false)).map (rAt R)).Perm R ∧ ((sel R R.length (fun _ => false)).map (rAt R)).Pairwise (fun a b => cmpC a b ≤ 0) := by
  obtain ⟨h1, h2, h3⟩ := sel_spec (R := R) R.length (fun _ => false) (rem_1 R.length)
  refine ⟨?_, h3⟩
  have hp : (sel R R.length (fun _ => false)).Perm (List.range R.length) := by
    refine (List.perm_ext_iff_of_nodup h1 List.nodup_range).mpr (fun p => ?_)
    rw [h2 p, List.mem_range]
    exact ⟨fun h => h.1, fun h => ⟨h, rfl⟩⟩
  have := hp.map (rAt R)
  rw [rAt_range] at this
  exact this
theorem srt_pw {Cs : List cdT} {os : List Nat} (h : srt Cs os) : (os.map (fun s => Cs.getD s (0, []))).Pairwise (fun a b => cmpC a b ≤ 0) := by
  rw [List.pairwise_iff_getElem]
  intro i j hi hj hij
  rw [List.length_map] at hi hj
  have h1 := h i j hij hj
  unfold atC at h1
  rw [List.getD_eq_getElem?_getD (l := os), List.getD_eq_getElem?_getD (l := os), List.getElem?_eq_getElem hi, List.getElem?_eq_getElem hj] at h1
  rw [List.getElem_map, List.getElem_map]
  exact h1
theorem cmpC_anti {a b : cdT} (h1 : cmpC a b ≤ 0) (h2 : cmpC b a ≤ 0) : a = b := by
  have := cmpC_sym (A := a) (B := b)
  exact cmpC_0 (by omega)
theorem pw_eq {X Y : List cdT} (h1 : X.Pairwise (fun a b => cmpC a b ≤ 0)) (h2 : Y.Pairwise (fun a b => cmpC a b ≤ 0)) (hp : X.Perm Y) : X = Y := hp.eq_of_pairwise (fun _ _ _ _ => cmpC_anti) h1 h2
/-- the least of the reference's rows -/
theorem lsC_le {A : rn_L} {sg : Nat → Bool} : ∀ (vs : List Nat) (T : List Nat), lsC A sg vs = some T → ∀ v, v ∈ vs → lexD T (cdv A sg v) ≤ 0 := by
  refine snocI (fun T h => by cases h) (fun vs v ih T h w hw => ?_)
  rw [lsC_app] at h
  cases hl : lsC A sg vs with
  | none =>
    have e := lsC_none hl
    rw [hl] at h
    have h : some (cdv A sg v) = some T := h
    cases h
    rw [e, List.nil_append] at hw
    rw [List.mem_singleton.mp hw, lexD_rf]
    exact Int.le_refl _
  | some U =>
    rw [hl] at h
    have h0 := ih U hl
    cases hb : lxb (cdv A sg v) U with
    | true =>
      rw [lsA_t hb] at h
      cases h
      rcases List.mem_append.mp hw with h9 | h9
      · exact lexD_tr _ _ _ (Int.le_of_lt ((lxb_lex _ _).mp hb)) (h0 w h9)
      · rw [List.mem_singleton.mp h9, lexD_rf]
        exact Int.le_refl _
    | false =>
      rw [lsA_f hb] at h
      cases h
      rcases List.mem_append.mp hw with h9 | h9
      · exact h0 w h9
      · rw [List.mem_singleton.mp h9]
        have h1 : ¬ lexD (cdv A sg v) T < 0 := fun h8 => by
          rw [(lxb_lex _ _).mpr h8] at hb
          cases hb
        have := lexD_sym T (cdv A sg v)
        omega
theorem lex_cd : ∀ (n : Nat) (X Y : Nat → Nat), lexD ((List.range n).map X) ((List.range n).map Y) < 0 → cd_lt X Y n
  | 0, X, Y => fun h => absurd (show (0 : Int) < 0 from h) (by decide)
  | n + 1, X, Y => fun h => by
    rw [List.range_succ_eq_map, List.map_cons, List.map_cons, List.map_map, List.map_map] at h
    have h : (if X 0 = Y 0 then lexD ((List.range n).map (X ∘ Nat.succ)) ((List.range n).map (Y ∘ Nat.succ)) else (X 0 : Int) - Y 0) < 0 := h
    by_cases e : X 0 = Y 0
    · rw [if_pos e] at h
      obtain ⟨j, hj, h1, h2⟩ := lex_cd n _ _ h
      refine ⟨j + 1, by omega, h1, fun i hi => ?_⟩
      cases i with
      | zero => exact e
      | succ i => exact h2 i (by omega)
    · rw [if_neg e] at h
      exact ⟨0, by omega, by omega, fun i hi => absurd hi (Nat.not_lt_zero _)⟩
theorem tf_T0 {G : Nat → Int32} {N : Nat → Nat} {v : Nat} : (tf_code G N v).T 0 = cd_first G v ∧ 0 < (tf_code G N v).len := by
  have h1 : tf_ext (tf_vis G tf_0 v) (tf_code G N v) := by
    show tf_ext (tf_vis G tf_0 v) (tf_rest G N 23 0 (tf_ring G N v 24 v tf_0))
    refine tf_ext_tr ?_ (tf_ext_tr (tf_sep_ext _) (tf_rest_ext G N 23 0 _))
    rw [tf_ring]
    split
    · exact tf_ext_rf _
    · exact tf_ring_ext G N v 23 _ _
  refine ⟨?_, Nat.lt_of_lt_of_le (Nat.succ_pos _) h1.1⟩
  rw [h1.2 0 (Nat.succ_pos _)]
  show nu tf_0.T 0 (tf_cell G tf_0 v) 0 = _
  rw [nu_same]
  unfold tf_cell tf_name
  rw [if_pos (show tf_0.num (v / 2) = 0 from rfl)]
  show 4 * (nu tf_0.num (v / 2) 1 (v / 2) - 1) + cd_first G v = _
  rw [nu_same]
  omega
theorem lfc_le {G F : Nat → Int32} {p : Int32} {w : Nat} : ∀ n, w < n → F w = p → lfc G F p n ≤ cd_first G w
  | 0, h, _ => absurd h (Nat.not_lt_zero _)
  | n + 1, h, e => by
    show (if F n = p then (if cd_first G n < lfc G F p n then cd_first G n else lfc G F p n) else lfc G F p n) ≤ _
    by_cases e1 : w = n
    · rw [← e1, if_pos e]
      split <;> omega
    · have ih := lfc_le (G := G) n (by omega) e
      split
      · split <;> omega
      · exact ih
/-- a part's code of the class is the least of all its rows -/
theorem epC_le {T : ow_NT} {F : Nat → Int32} {p : Int32} {C : cdT} {n0 : Nat} (hln : ∀ v, v < 2 * T.1 → F v = p → (tf_code T.2.2.2 T.2.2.1.1 v).len = n0) (hex : ∃ v, v < 2 * T.1 ∧ F v = p) (h : epC T F p C) : ∃ v, v < 2 * T.1 ∧ F v = p ∧ C.2 = tfL (tf_code T.2.2.2 T.2.2.1.1 v) ∧ ∀ w, w < 2 * T.1 → F w = p → lexD C.2 (tfL (tf_code T.2.2.2 T.2.2.1.1 w)) ≤ 0 := by
  obtain ⟨w0, hw0, e1, e2⟩ := lfc_ex (G := T.2.2.2) (F := F) (p := p) (2 * T.1) hex
  rcases h.2 with ⟨a1, a2⟩ | ⟨v, ⟨a1, a2, a3⟩, a4⟩
  · exact absurd ⟨e1, e2⟩ (a1 w0 hw0)
  · refine ⟨v, a1, a2.1, a4, fun w hw ew => ?_⟩
    have l1 := hln v a1 a2.1
    have l2 := hln w hw ew
    rw [a4]
    by_cases hs : epS T F p w
    · have h1 := a3 w hw hs
      have h2 : ¬ lexD (tfL (tf_code T.2.2.2 T.2.2.1.1 w)) (tfL (tf_code T.2.2.2 T.2.2.1.1 v)) < 0 := by
        intro h9
        unfold tfL at h9
        rw [l2, l1] at h9
        rw [l1] at h1
        exact h1 (lex_cd n0 _ _ h9)
      have := lexD_sym (tfL (tf_code T.2.2.2 T.2.2.1.1 v)) (tfL (tf_code T.2.2.2 T.2.2.1.1 w))
      omega
    · have hlt : cd_first T.2.2.2 v < cd_first T.2.2.2 w := by
        have h1 := lfc_le (G := T.2.2.2) (F := F) (p := p) (w := w) (2 * T.1) hw ew
        have h2 := a2.2
        have h3 : cd_first T.2.2.2 w ≠ lfc T.2.2.2 F p (2 * T.1) := fun h9 => hs ⟨ew, h9⟩
        omega
      have t1 := tf_T0 (G := T.2.2.2) (N := T.2.2.1.1) (v := v)
      have t2 := tf_T0 (G := T.2.2.2) (N := T.2.2.1.1) (v := w)
      have key : ∀ P : tf_P, 0 < P.len → ∃ L, tfL P = P.T 0 :: L := by
        intro P hP
        obtain ⟨n, hn⟩ : ∃ n, P.len = n + 1 := ⟨P.len - 1, by omega⟩
        unfold tfL
        rw [hn, List.range_succ_eq_map, List.map_cons]
        exact ⟨_, rfl⟩
      obtain ⟨L1, q1⟩ := key _ t1.2
      obtain ⟨L2, q2⟩ := key _ t2.2
      rw [q1, q2, t1.1, t2.1]
      show (if cd_first T.2.2.2 v = cd_first T.2.2.2 w then lexD L1 L2 else (cd_first T.2.2.2 v : Int) - cd_first T.2.2.2 w) ≤ 0
      rw [if_neg (by omega)]
      omega
end
