/-! signed numbers -/
abbrev iI (i : Int) : Int32 := Int32.ofInt i
theorem nI_iI (a : Nat) : nI a = iI (a : Int) := (Int32.ofInt_eq_ofNat).symm
theorem iI_add (a b : Int) : iI a + iI b = iI (a + b) := (Int32.ofInt_add a b).symm
theorem iI_sub (a b : Int) : iI a - iI b = iI (a - b) := (Int32.ofInt_sub a b).symm
theorem iI_mul (a b : Int) : iI a * iI b = iI (a * b) := (Int32.ofInt_mul a b).symm
theorem iI_nI {i : Int} {a : Nat} (h : i = (a : Int)) : iI i = nI a := by rw [h, nI_iI]
theorem iI_toInt {i : Int} (h1 : -(2 ^ 31 : Int) ≤ i) (h2 : i < 2 ^ 31) : (iI i).toInt = i := by
  rw [Int32.toInt_ofInt]
  exact Int.bmod_eq_of_le (by show -((4294967296 : Nat) : Int) / 2 ≤ i; omega) (by show i < ((4294967296 : Nat) + 1 : Int) / 2; omega)
theorem iI_le {a b : Int} (h1 : -(2 ^ 31 : Int) ≤ a) (h2 : a < 2 ^ 31) (h3 : -(2 ^ 31 : Int) ≤ b) (h4 : b < 2 ^ 31) : iI a ≤ iI b ↔ a ≤ b := by
  rw [Int32.le_iff_toInt_le, iI_toInt h1 h2, iI_toInt h3 h4]
theorem iI_lt {a b : Int} (h1 : -(2 ^ 31 : Int) ≤ a) (h2 : a < 2 ^ 31) (h3 : -(2 ^ 31 : Int) ≤ b) (h4 : b < 2 ^ 31) : iI a < iI b ↔ a < b := by
  rw [Int32.lt_iff_toInt_lt, iI_toInt h1 h2, iI_toInt h3 h4]
/-! union and find -/
def rtF (p : Nat → Nat) : Nat → Nat → Nat
  | 0, g => g
  | k + 1, g => if p g = g then g else rtF p k (p g)
def rt (p : Nat → Nat) (g : Nat) : Nat := rtF p g g
def dn (p : Nat → Nat) : Prop := ∀ g, p g ≤ g
theorem rtF_eq {p : Nat → Nat} (hp : dn p) : ∀ (g k j : Nat), g ≤ k → g ≤ j → rtF p k g = rtF p j g := by
  intro g
  induction g using Nat.strongRecOn with
  | ind g ih =>
  intro k j hk hj
  have h1 := hp g
  cases k with
  | zero =>
    have hg : g = 0 := by omega
    subst hg
    cases j with
    | zero => rfl
    | succ j => 
      show 0 = if p 0 = 0 then 0 else rtF p j (p 0)
      rw [if_pos (by omega)]
  | succ k =>
    cases j with
    | zero =>
      have hg : g = 0 := by omega
      subst hg
      show (if p 0 = 0 then 0 else rtF p k (p 0)) = 0
      rw [if_pos (by omega)]
    | succ j =>
      show (if p g = g then g else rtF p k (p g)) = if p g = g then g else rtF p j (p g)
      by_cases hg : p g = g
      · rw [if_pos hg, if_pos hg]
      · rw [if_neg hg, if_neg hg]
        exact ih (p g) (by omega) k j (by omega) (by omega)
theorem rt_root {p : Nat → Nat} {g : Nat} (h : p g = g) : rt p g = g := by
  unfold rt
  cases g with
  | zero => rfl
  | succ g => 
    show (if p (g + 1) = g + 1 then g + 1 else _) = g + 1
    rw [if_pos h]
theorem rt_step {p : Nat → Nat} {g : Nat} (hp : dn p) (h : p g ≠ g) : rt p g = rt p (p g) := by
  have h1 := hp g
  unfold rt
  cases g with
  | zero => omega
  | succ g =>
    show (if p (g + 1) = g + 1 then g + 1 else rtF p g (p (g + 1))) = _
    rw [if_neg h]
    exact rtF_eq hp _ _ _ (by omega) (Nat.le_refl _)
theorem rt_in {p : Nat → Nat} (hp : dn p) : ∀ g, p (rt p g) = rt p g ∧ rt p g ≤ g := by
  intro g
  induction g using Nat.strongRecOn with
  | ind g ih =>
  by_cases h : p g = g
  · rw [rt_root h]
    exact ⟨h, Nat.le_refl _⟩
  · have h1 := hp g
    rw [rt_step hp h]
    have := ih (p g) (by omega)
    exact ⟨this.1, by omega⟩
def pup (p : Nat → Nat) (m r : Nat) : Nat → Nat := fun x => if x = m then r else p x
theorem rt_pup {p : Nat → Nat} {m r : Nat} (hp : dn p) (hm : p m = m) (hr : p r = r) (hlt : r < m) : dn (pup p m r) ∧ ∀ g, rt (pup p m r) g = if rt p g = m then r else rt p g := by
  have hd : dn (pup p m r) := fun g => by
    unfold pup
    by_cases h : g = m
    · rw [if_pos h]; omega
    · rw [if_neg h]; exact hp g
  refine ⟨hd, fun g => ?_⟩
  induction g using Nat.strongRecOn with
  | ind g ih =>
  by_cases h : p g = g
  · rw [rt_root h]
    by_cases hg : g = m
    · rw [if_pos hg]
      have e1 : pup p m r g = r := if_pos hg
      rw [rt_step hd (by rw [e1]; omega), e1]
      refine rt_root ?_
      unfold pup
      rw [if_neg (by omega)]
      exact hr
    · rw [if_neg hg]
      refine rt_root ?_
      unfold pup
      rw [if_neg hg]
      exact h
  · have hg : g ≠ m := fun e => h (by rw [e]; exact hm)
    have e1 : pup p m r g = p g := if_neg hg
    have h1 := hp g
    rw [rt_step hd (by rw [e1]; exact h), e1, rt_step hp h]
    exact ih (p g) (by omega)
/-- two are united: the greater root goes under the lesser one -/
def un (p : Nat → Nat) (g h : Nat) : Nat → Nat := if rt p h ≤ rt p g then pup p (rt p g) (rt p h) else pup p (rt p h) (rt p g)
theorem un_same {p : Nat → Nat} {m : Nat} (hm : p m = m) : pup p m m = p := by
  funext x
  unfold pup
  by_cases h : x = m
  · rw [if_pos h, h, hm]
  · rw [if_neg h]
theorem un_dn {p : Nat → Nat} {g h : Nat} (hp : dn p) : dn (un p g h) := by
  obtain ⟨g1, -⟩ := rt_in hp g
  obtain ⟨h1, -⟩ := rt_in hp h
  unfold un
  by_cases h9 : rt p h ≤ rt p g
  · rw [if_pos h9]
    by_cases h8 : rt p h = rt p g
    · rw [h8, un_same g1]; exact hp
    · exact (rt_pup hp g1 h1 (by omega)).1
  · rw [if_neg h9]
    exact (rt_pup hp h1 g1 (by omega)).1
theorem un_j {p : Nat → Nat} {g h : Nat} (hp : dn p) : rt (un p g h) g = rt (un p g h) h := by
  obtain ⟨g1, -⟩ := rt_in hp g
  obtain ⟨h1, -⟩ := rt_in hp h
  unfold un
  by_cases h9 : rt p h ≤ rt p g
  · rw [if_pos h9]
    by_cases h8 : rt p h = rt p g
    · rw [h8, un_same g1, h8]
    · have := (rt_pup hp g1 h1 (by omega)).2
      rw [this g, this h, if_pos rfl, if_neg h8]
  · rw [if_neg h9]
    have := (rt_pup hp h1 g1 (by omega)).2
    rw [this g, this h, if_pos rfl, if_neg (by omega)]
theorem un_k {p : Nat → Nat} {g h a b : Nat} (hp : dn p) (e : rt p a = rt p b) : rt (un p g h) a = rt (un p g h) b := by
  obtain ⟨g1, -⟩ := rt_in hp g
  obtain ⟨h1, -⟩ := rt_in hp h
  unfold un
  by_cases h9 : rt p h ≤ rt p g
  · rw [if_pos h9]
    by_cases h8 : rt p h = rt p g
    · rw [h8, un_same g1, e]
    · have := (rt_pup hp g1 h1 (by omega)).2
      rw [this a, this b, e]
  · rw [if_neg h9]
    have := (rt_pup hp h1 g1 (by omega)).2
    rw [this a, this b, e]
/-! how many labels there are -/
def dLe (V : Nat) (L : Nat → Nat) (k : Nat) : Prop := ∃ R : List Nat, R.length ≤ k ∧ ∀ x, x < V → L x ∈ R
def mgL (L : Nat → Nat) : List (Nat × Nat) → Nat → Nat
  | [] => L
  | (a, b) :: E => mgL (fun x => if L x = L a then L b else L x) E
theorem mgL_k {V : Nat} : ∀ (E : List (Nat × Nat)) (L : Nat → Nat) (k : Nat), dLe V (mgL L E) k → dLe V L (k + E.length)
  | [], L, k, h => h
  | (a, b) :: E, L, k, h => by
    obtain ⟨R, h1, h2⟩ := mgL_k E _ k h
    refine ⟨L a :: R, by rw [List.length_cons, List.length_cons]; omega, fun x hx => ?_⟩
    have := h2 x hx
    by_cases h9 : L x = L a
    · rw [h9]; exact List.mem_cons_self
    · have this : (if L x = L a then L b else L x) ∈ R := this
      rw [if_neg h9] at this
      exact List.mem_cons_of_mem _ this
theorem mgL_e : ∀ (E : List (Nat × Nat)) (L : Nat → Nat) (x y : Nat), L x = L y → mgL L E x = mgL L E y
  | [], L, x, y, h => h
  | (a, b) :: E, L, x, y, h => mgL_e E _ x y (by rw [h])
theorem mgL_m : ∀ (E : List (Nat × Nat)) (L : Nat → Nat) (a b : Nat), (a, b) ∈ E → mgL L E a = mgL L E b
  | [], L, a, b, h => by cases h
  | (c, d) :: E, L, a, b, h => by
    rcases List.mem_cons.mp h with h9 | h9
    · obtain ⟨rfl, rfl⟩ := Prod.mk.inj h9
      refine mgL_e E _ a b ?_
      show (if L a = L a then L b else L a) = if L b = L a then L b else L b
      rw [if_pos rfl]
      by_cases h8 : L b = L a
      · rw [if_pos h8]
      · rw [if_neg h8]
    · exact mgL_m E _ a b h9
/-! the loops of a state -/
def ufR (y : ow_MS) (p : Nat → Nat) : Prop := dn p ∧ ∀ g, g < 48 → y.2.1 47 g = nI (p g)
/-- at a crossing ends are joined as in smoothing -/
def alS (sg : Nat → Bool) (st : Int32) (x : Nat) : Bool := !(sg x == decide (((st >>> (nI x &&& 31)) &&& 1) ≠ 1))
def lpS (A : rn_L) (sg : Nat → Bool) (st : Int32) (v : Nat) (p : Nat → Nat) : Nat → Nat := if uns A v = 0 then (if alS sg st (crs A v) then un (un p (rn_pv A v) (mtf A v)) (rn_pv A (mtf A v)) v else un (un p (rn_pv A v) (rn_pv A (mtf A v))) v (mtf A v)) else p
def lpA (A : rn_L) (sg : Nat → Bool) (st : Int32) : Nat → Nat → Nat
  | 0 => fun x => x
  | v + 1 => lpS A sg st v (lpA A sg st v)
theorem lpS_dn {A : rn_L} {sg : Nat → Bool} {st : Int32} {v : Nat} {p : Nat → Nat} (hp : dn p) : dn (lpS A sg st v p) := by
  unfold lpS
  by_cases h1 : uns A v = 0
  · rw [if_pos h1]
    by_cases h2 : alS sg st (crs A v) = true
    · rw [if_pos h2]; exact un_dn (un_dn hp)
    · rw [if_neg h2]; exact un_dn (un_dn hp)
  · rw [if_neg h1]; exact hp
theorem lpA_dn {A : rn_L} {sg : Nat → Bool} {st : Int32} : ∀ v, dn (lpA A sg st v)
  | 0 => fun g => Nat.le_refl g
  | v + 1 => lpS_dn (lpA_dn v)
theorem lpS_k {A : rn_L} {sg : Nat → Bool} {st : Int32} {v a b : Nat} {p : Nat → Nat} (hp : dn p) (e : rt p a = rt p b) : rt (lpS A sg st v p) a = rt (lpS A sg st v p) b := by
  unfold lpS
  by_cases h1 : uns A v = 0
  · rw [if_pos h1]
    by_cases h2 : alS sg st (crs A v) = true
    · rw [if_pos h2]; exact un_k (un_dn hp) (un_k hp e)
    · rw [if_neg h2]; exact un_k (un_dn hp) (un_k hp e)
  · rw [if_neg h1]; exact e
/-- what is joined at an over visit -/
def ljn (A : rn_L) (p : Nat → Nat) (v : Nat) : Prop := (rt p (rn_pv A v) = rt p (mtf A v) ∧ rt p (rn_pv A (mtf A v)) = rt p v) ∨ (rt p (rn_pv A v) = rt p (rn_pv A (mtf A v)) ∧ rt p v = rt p (mtf A v))
theorem lpS_j {A : rn_L} {sg : Nat → Bool} {st : Int32} {v : Nat} {p : Nat → Nat} (hp : dn p) (h1 : uns A v = 0) : ljn A (lpS A sg st v p) v := by
  unfold lpS
  rw [if_pos h1]
  by_cases h2 : alS sg st (crs A v) = true
  · rw [if_pos h2]
    exact Or.inl ⟨un_k (un_dn hp) (un_j hp), un_j (un_dn hp)⟩
  · rw [if_neg h2]
    exact Or.inr ⟨un_k (un_dn hp) (un_j hp), un_j (un_dn hp)⟩
theorem lpA_j {A : rn_L} {sg : Nat → Bool} {st : Int32} : ∀ (V v : Nat), v < V → uns A v = 0 → ljn A (lpA A sg st V) v
  | 0, v, h, _ => by omega
  | V + 1, v, h, hu => by
    show ljn A (lpS A sg st V (lpA A sg st V)) v
    by_cases hv : v = V
    · rw [hv]
      rw [hv] at hu
      exact lpS_j (lpA_dn V) hu
    · have := lpA_j (sg := sg) (st := st) V v (by omega) hu
      rcases this with ⟨a, b⟩ | ⟨a, b⟩
      · exact Or.inl ⟨lpS_k (lpA_dn V) a, lpS_k (lpA_dn V) b⟩
      · exact Or.inr ⟨lpS_k (lpA_dn V) a, lpS_k (lpA_dn V) b⟩
section UF
variable {z : ow_MS}
theorem u_X13_root_1 {x1 : Int32} {x2 : Int32} {z : ow_MS} {Q : (Int32 × ow_MS) → Prop} (H : Tt (fun K k => qm_X13_root_1 K (q_X13_root K k) x1 x2 z) Q) : Tt (fun K k => q_X13_root K k 1 x1 x2 z) Q := w_un (fun _ _ => rfl) H
theorem e_X13_root {x1 : Int32} {z : ow_MS} {Q : (Int32 × ow_MS) → Prop} (H : Tt (fun K k => q_X13_root K k 0 x1 0 z) Q) : Te (fun K => qe_X13_root K x1 z) Q := w_te H
theorem u_X13_root_0 {x1 : Int32} {x2 : Int32} {z : ow_MS} {Q : (Int32 × ow_MS) → Prop} (H : Tt (fun K k => qm_X13_root_0 K (q_X13_root K k) x1 x2 z) Q) : Tt (fun K k => q_X13_root K k 0 x1 x2 z) Q := w_un (fun _ _ => rfl) H
theorem tp_root {p : Nat → Nat} (hu : ufR z p) : ∀ {g : Nat}, g < 48 → Te (fun K => qe_X13_root K (nI g) z) (fun r => r = (nI (rt p g), z)) := by
  intro g hg
  have key : ∀ (r : Nat), r < 48 → rt p r = rt p g → Tt (fun K i => q_X13_root K i 1 (nI g) (nI r) z) (fun r => r = (nI (rt p g), z)) := by
    intro r
    induction r using Nat.strongRecOn with
    | ind r ih =>
    intro hr e
    have h1 := hu.1 r
    refine u_X13_root_1 ?_; unfold qm_X13_root_1
    refine w_rdI ml47 rfl hr (hu.2 r hr) (w_eqN (by omega) (by omega) (fun h9 => w_some ?_) (fun h9 => w_rdI ml47 rfl hr (hu.2 r hr) (ih (p r) (by omega) (by omega) ?_)))
    · rw [← e, rt_root h9]
    · rw [← e, rt_step hu.1 h9]
  refine e_X13_root ?_
  refine u_X13_root_0 ?_; unfold qm_X13_root_0
  exact key g hg rfl
theorem e_X13_unite {x1 : Int32} {x2 : Int32} {z : ow_MS} {Q : ow_MS → Prop} (H : Tt (fun K _ => qm_X13_unite_0 K x1 x2 z) Q) : Te (fun K => qe_X13_unite K x1 x2 z) Q := w_te0 H
theorem tp_unite {p : Nat → Nat} {g h : Nat} (hu : ufR z p) (hg : g < 48) (hh : h < 48) : Te (fun K => qe_X13_unite K (nI g) (nI h) z) (fun z1 => ufR z1 (un p g h) ∧ fr (fun g => g = 47) z z1) := by
  have g1 := (rt_in hu.1 g).2
  have h1 := (rt_in hu.1 h).2
  refine e_X13_unite ?_; unfold qm_X13_unite_0
  refine w_cs1 (tp_root hu hg) (fun a y e9 => ?_)
  cases e9
  refine w_cs1 (tp_root hu hh) (fun a y e9 => ?_)
  cases e9
  refine w_le (by omega) (by omega) (fun h9 => w_wrI ml47 rfl (by omega) (w_some ⟨⟨un_dn hu.1, fun x hx => ?_⟩, fr_I rfl⟩)) (fun h9 => w_wrI ml47 rfl (by omega) (w_some ⟨⟨un_dn hu.1, fun x hx => ?_⟩, fr_I rfl⟩))
  · unfold un
    rw [if_pos h9]
    unfold pup
    by_cases hx2 : x = rt p g
    · rw [if_pos hx2, hx2, po_usI_at]
    · rw [if_neg hx2, po_usI_ne hx2]
      exact hu.2 x hx
  · unfold un
    rw [if_neg (by omega)]
    unfold pup
    by_cases hx2 : x = rt p h
    · rw [if_pos hx2, hx2, po_usI_at]
    · rw [if_neg hx2, po_usI_ne hx2]
      exact hu.2 x hx
theorem pv_lt {A : rn_L} {v : Nat} (hv : v < A.flatten.length) : rn_pv A v < A.flatten.length := by
  obtain ⟨h1, h2, h3⟩ := rn_c_in A v hv
  have := rn_b_le A (rn_c A v + 1)
  unfold rn_pv
  split <;> omega
theorem u_X13_loops_2 {x2 : Int32} {x3 : Int32} {x4 : Int32} {x5 : Int32} {r1 : Nat} {t0 : Int32} {z : ow_MS} {Q : ow_MS → Prop} (H : Tt (fun K k => qm_X13_loops_2 K (q_X13_loops K k) x2 x3 x4 x5 r1 t0 z) Q) : Tt (fun K k => q_X13_loops K k 2 x2 x3 x4 x5 r1 t0 z) Q := w_un (fun _ _ => rfl) H
theorem u_X13_loops_5 {x2 : Int32} {x3 : Int32} {x4 : Int32} {x5 : Int32} {r1 : Nat} {t0 : Int32} {z : ow_MS} {Q : ow_MS → Prop} (H : Tt (fun K k => qm_X13_loops_5 K (q_X13_loops K k) x2 x3 x4 x5 r1 t0 z) Q) : Tt (fun K k => q_X13_loops K k 5 x2 x3 x4 x5 r1 t0 z) Q := w_un (fun _ _ => rfl) H
theorem u_X13_loops_4 {x2 : Int32} {x3 : Int32} {x4 : Int32} {x5 : Int32} {r1 : Nat} {t0 : Int32} {z : ow_MS} {Q : ow_MS → Prop} (H : Tt (fun K k => qm_X13_loops_4 K (q_X13_loops K k) x2 x3 x4 x5 r1 t0 z) Q) : Tt (fun K k => q_X13_loops K k 4 x2 x3 x4 x5 r1 t0 z) Q := w_un (fun _ _ => rfl) H
theorem u_X13_loops_3 {x2 : Int32} {x3 : Int32} {x4 : Int32} {x5 : Int32} {r1 : Nat} {t0 : Int32} {z : ow_MS} {Q : ow_MS → Prop} (H : Tt (fun K k => qm_X13_loops_3 K (q_X13_loops K k) x2 x3 x4 x5 r1 t0 z) Q) : Tt (fun K k => q_X13_loops K k 3 x2 x3 x4 x5 r1 t0 z) Q := w_un (fun _ _ => rfl) H
theorem u_X13_loops_1 {x2 : Int32} {x3 : Int32} {x4 : Int32} {x5 : Int32} {r1 : Nat} {t0 : Int32} {z : ow_MS} {Q : ow_MS → Prop} (H : Tt (fun K k => qm_X13_loops_1 K (q_X13_loops K k) x2 x3 x4 x5 r1 t0 z) Q) : Tt (fun K k => q_X13_loops K k 1 x2 x3 x4 x5 r1 t0 z) Q := w_un (fun _ _ => rfl) H
theorem e_X13_loops {r1 : Nat} {x2 : Int32} {z : ow_MS} {Q : ow_MS → Prop} (H : Tt (fun K k => q_X13_loops K k 0 x2 0 0 0 r1 0 z) Q) : Te (fun K => qe_X13_loops K r1 x2 z) Q := w_te H
theorem u_X13_loops_0 {x2 : Int32} {x3 : Int32} {x4 : Int32} {x5 : Int32} {r1 : Nat} {t0 : Int32} {z : ow_MS} {Q : ow_MS → Prop} (H : Tt (fun K k => qm_X13_loops_0 K (q_X13_loops K k) x2 x3 x4 x5 r1 t0 z) Q) : Tt (fun K k => q_X13_loops K k 0 x2 x3 x4 x5 r1 t0 z) Q := w_un (fun _ _ => rfl) H
theorem tp_loops {n : Nat} {A : rn_L} {sg : Nat → Bool} {st : Int32} (hn : mw_net n) (hA : oNet z n A sg) : Te (fun K => qe_X13_loops K n st z) (fun z1 => ufR z1 (lpA A sg st A.flatten.length) ∧ fr (fun g => g = 47) z z1) := by
  have hl := hA.len
  have hd := wkF_ok hA.wk
  have hmn := net_mod hn
  let Q : ow_MS → Prop := fun z1 => ufR z1 (lpA A sg st A.flatten.length) ∧ fr (fun g => g = 47) z z1
  have oA : ∀ {y : ow_MS}, fr (fun g => g = 47) z y → oNet y n A sg := fun hf => oNet_fr hf (fun g hg => by omega) hA
  have key : ∀ (d v : Nat) (y : ow_MS), v + d = A.flatten.length → ufR y (lpA A sg st v) → fr (fun g => g = 47) z y → Tt (fun K i => q_X13_loops K i 2 st (nI v) 0 0 n 0 y) Q := by
    intro d
    induction d with
    | zero =>
      intro v y hv hu hf
      have hv : v = A.flatten.length := by omega
      subst hv
      refine u_X13_loops_2 ?_; unfold qm_X13_loops_2
      exact w_rdF (oA hf).1.V (w_leT (by omega) (by omega) (w_some ⟨hu, hf⟩))
    | succ d ih =>
      intro v y hv hu hf
      have hvl : v < A.flatten.length := by omega
      have hO := oA hf
      obtain ⟨c1, c2, c3⟩ := hO.cx hvl
      have hml := mtf_lt hd hvl
      have hp1 := pv_lt hvl
      have hp2 := pv_lt hml
      have c5 : ∀ (x4 : Int32) (y2 : ow_MS), ufR y2 (lpA A sg st (v + 1)) → fr (fun g => g = 47) z y2 → Tt (fun K i => q_X13_loops K i 5 st (nI v) x4 0 n 0 y2) Q := by
        intro x4 y2 hu2 hf2
        refine u_X13_loops_5 ?_; unfold qm_X13_loops_5
        rw [nI_1]
        exact ih (v + 1) y2 (by omega) hu2 hf2
      refine u_X13_loops_2 ?_; unfold qm_X13_loops_2
      refine w_rdF hO.1.V (w_leF (by omega) hvl (w_rdI (pl7 hn) rfl (by omega) (lk_m hd hO.1 hvl) (w_rdI (pl5 hn) rfl (by omega) (lk_cu hO.1 hvl).2 (w_eqN (b := 0) (by omega) (by omega) (fun hu0 => ?_) (fun hu0 => ?_)))))
      · have c3' : ∀ (b : Bool), decide (((st >>> (nI (crs A v) &&& 31)) &&& 1) ≠ 1) = b → Tt (fun K i => q_X13_loops K i 3 st (nI v) (nI (mtf A v)) 0 n (bZ (!b)) y) Q := by
          intro b hb
          have c4 : ∀ (t : Bool), sg (crs A v) = t → Tt (fun K i => q_X13_loops K i 4 st (nI v) (nI (mtf A v)) (bZ (!b)) n (bZ (!t)) y) Q := by
            intro t ht
            have hal : alS sg st (crs A v) = !(t == b) := by
              unfold alS
              rw [hb, ht]
            refine u_X13_loops_4 ?_; unfold qm_X13_loops_4
            refine w_if (fun h9 => ?_) (fun h9 => ?_)
            · have htb : t = b := by cases t <;> cases b <;> first | rfl | exact absurd h9 (by decide)
              have hal2 : ¬ alS sg st (crs A v) = true := by rw [hal, htb]; simp
              refine w_rdI (pl10 hn) rfl (by omega) (lk_p hO.1 hvl) (w_rdI (pl10 hn) rfl (by omega) (lk_p hO.1 hml) (w_cs0 (tp_unite hu (by omega) (by omega)) (fun y1 ⟨u1, f1⟩ => w_cs0 (tp_unite u1 (by omega) (by omega)) (fun y2 ⟨u2, f2⟩ => c5 _ y2 ?_ (fr_tr hf (fr_tr f1 f2))))))
              show ufR y2 (lpS A sg st v (lpA A sg st v))
              unfold lpS
              rw [if_pos hu0, if_neg hal2]
              exact u2
            · have htb : t ≠ b := fun e => h9 (by rw [e])
              have hal2 : alS sg st (crs A v) = true := by
                rw [hal]
                cases t <;> cases b <;> first | rfl | exact absurd rfl htb
              refine w_rdI (pl10 hn) rfl (by omega) (lk_p hO.1 hvl) (w_cs0 (tp_unite hu (by omega) (by omega)) (fun y1 ⟨u1, f1⟩ => w_rdI (pl10 hn) rfl (by omega) (lk_p (oA (fr_tr hf f1)).1 hml) (w_cs0 (tp_unite u1 (by omega) (by omega)) (fun y2 ⟨u2, f2⟩ => c5 _ y2 ?_ (fr_tr hf (fr_tr f1 f2))))))
              show ufR y2 (lpS A sg st v (lpA A sg st v))
              unfold lpS
              rw [if_pos hu0, if_pos hal2]
              exact u2
          refine u_X13_loops_3 ?_; unfold qm_X13_loops_3
          refine w_rdI (pl4 hn) rfl (by omega) (lk_cu hO.1 hvl).1 (w_rdI (pl6 hn) rfl (by omega) c3 (w_if (fun h9 => ?_) (fun h9 => ?_)))
          · refine c4 true ?_
            cases hs : sg (crs A v) with
            | true => rfl
            | false => rw [hs] at h9; exact absurd h9 (by decide)
          · refine c4 false ?_
            cases hs : sg (crs A v) with
            | false => rfl
            | true => rw [hs] at h9; exact absurd (by decide) h9
        refine w_rdI (pl4 hn) rfl (by omega) (lk_cu hO.1 hvl).1 (w_if (fun h9 => c3' false (decide_eq_false (fun h8 => h8 h9))) (fun h9 => c3' true (decide_eq_true h9)))
      · refine c5 _ y ?_ hf
        show ufR y (lpS A sg st v (lpA A sg st v))
        unfold lpS
        rw [if_neg hu0]
        exact hu
  have ini : ∀ (d i : Nat) (y : ow_MS), i + d = 48 → (∀ g, g < i → y.2.1 47 g = nI g) → fr (fun g => g = 47) z y → Tt (fun K t => q_X13_loops K t 1 st (nI i) 0 0 n 0 y) Q := by
    intro d
    induction d with
    | zero =>
      intro i y hi hg hf
      refine u_X13_loops_1 ?_; unfold qm_X13_loops_1
      exact w_leT (a := 48) (by omega) (by omega) (key A.flatten.length 0 y (by omega) ⟨fun g => Nat.le_refl g, fun g h9 => hg g (by omega)⟩ hf)
    | succ d ih =>
      intro i y hi hg hf
      refine u_X13_loops_1 ?_; unfold qm_X13_loops_1
      rw [nI_1]
      refine w_leF (a := 48) (by omega) (by omega) (w_wrI ml47 rfl (by omega) (ih (i + 1) _ (by omega) (fun g h9 => ?_) (fr_I2 hf rfl)))
      by_cases hgi : g = i
      · rw [hgi, po_usI_at]
      · exact rd_ne hgi (hg g (by omega))
  refine e_X13_loops ?_
  refine u_X13_loops_0 ?_; unfold qm_X13_loops_0
  exact ini 48 0 z (by omega) (fun g hg => absurd hg (by omega)) fr_rf
def rtsN (p : Nat → Nat) (V : Nat) : Nat := ((List.range V).filter (fun g => decide (p g = g))).length
theorem rtsN_s {p : Nat → Nat} {V : Nat} : rtsN p (V + 1) = rtsN p V + if p V = V then 1 else 0 := by
  unfold rtsN
  rw [List.range_succ, List.filter_append, List.length_append]
  by_cases h : p V = V
  · rw [if_pos h, List.filter_cons_of_pos (p := fun g => decide (p g = g)) (decide_eq_true h)]
    rfl
  · rw [if_neg h, List.filter_cons_of_neg (p := fun g => decide (p g = g)) (by simpa using h)]
    rfl
theorem u_X13_countLoops_1 {x2 : Int32} {x3 : Int32} {r1 : Nat} {t0 : Int32} {t1 : Int32} {z : ow_MS} {Q : (Int32 × ow_MS) → Prop} (H : Tt (fun K k => qm_X13_countLoops_1 K (q_X13_countLoops K k) x2 x3 r1 t0 t1 z) Q) : Tt (fun K k => q_X13_countLoops K k 1 x2 x3 r1 t0 t1 z) Q := w_un (fun _ _ => rfl) H
theorem u_X13_countLoops_2 {x2 : Int32} {x3 : Int32} {r1 : Nat} {t0 : Int32} {t1 : Int32} {z : ow_MS} {Q : (Int32 × ow_MS) → Prop} (H : Tt (fun K k => qm_X13_countLoops_2 K (q_X13_countLoops K k) x2 x3 r1 t0 t1 z) Q) : Tt (fun K k => q_X13_countLoops K k 2 x2 x3 r1 t0 t1 z) Q := w_un (fun _ _ => rfl) H
theorem e_X13_countLoops {r1 : Nat} {z : ow_MS} {Q : (Int32 × ow_MS) → Prop} (H : Tt (fun K k => q_X13_countLoops K k 0 0 0 r1 0 0 z) Q) : Te (fun K => qe_X13_countLoops K r1 z) Q := w_te H
theorem u_X13_countLoops_0 {x2 : Int32} {x3 : Int32} {r1 : Nat} {t0 : Int32} {t1 : Int32} {z : ow_MS} {Q : (Int32 × ow_MS) → Prop} (H : Tt (fun K k => qm_X13_countLoops_0 K (q_X13_countLoops K k) x2 x3 r1 t0 t1 z) Q) : Tt (fun K k => q_X13_countLoops K k 0 x2 x3 r1 t0 t1 z) Q := w_un (fun _ _ => rfl) H
theorem tp_countL {n V : Nat} {p : Nat → Nat} (hV : z.1 (n + 1) = nI V) (hV2 : V ≤ 48) (hu : ufR z p) : Te (fun K => qe_X13_countLoops K n z) (fun r => r = (nI (rtsN p V), z)) := by
  have key : ∀ (d v : Nat), v + d = V → Tt (fun K i => q_X13_countLoops K i 1 (nI (rtsN p v)) (nI v) n 0 0 z) (fun r => r = (nI (rtsN p V), z)) := by
    intro d
    induction d with
    | zero =>
      intro v hv
      have hv : v = V := by omega
      subst hv
      refine u_X13_countLoops_1 ?_; unfold qm_X13_countLoops_1
      exact w_rdF hV (w_leT (by omega) (by omega) (w_some rfl))
    | succ d ih =>
      intro v hv
      have h1 := hu.1 v
      refine u_X13_countLoops_1 ?_; unfold qm_X13_countLoops_1
      refine w_rdF hV (w_leF (by omega) (by omega) (w_rdI ml47 rfl (by omega) (hu.2 v (by omega)) (w_eqN (by omega) (by omega) (fun h9 => ?_) (fun h9 => ?_))))
      · refine u_X13_countLoops_2 ?_; unfold qm_X13_countLoops_2
        have := ih (v + 1) (by omega)
        rw [rtsN_s, if_pos h9] at this
        rw [nI_1, nI_1]
        exact this
      · refine u_X13_countLoops_2 ?_; unfold qm_X13_countLoops_2
        have := ih (v + 1) (by omega)
        rw [rtsN_s, if_neg h9] at this
        rw [nI_1]
        have e : nI (rtsN p v) + 0 = nI (rtsN p v + 0) := by
          rw [Nat.add_zero]
          exact Int32.add_zero _
        rw [e]
        exact this
  refine e_X13_countLoops ?_
  refine u_X13_countLoops_0 ?_; unfold qm_X13_countLoops_0
  exact key V 0 (by omega)
/-- components with visits -/
def neC (A : rn_L) : Nat := ((List.range A.length).filter (fun c => decide (rn_b A c < rn_b A (c + 1)))).length
def eC (A : rn_L) : Nat := ((List.range A.length).filter (fun c => !decide (rn_b A c < rn_b A (c + 1)))).length
theorem filt_sum {α : Type} (q : α → Bool) : ∀ l : List α, (l.filter q).length + (l.filter (fun a => !q a)).length = l.length
  | [] => rfl
  | a :: l => by
    have := filt_sum q l
    cases h : q a with
    | true =>
      rw [List.filter_cons_of_pos h, List.filter_cons_of_neg (by rw [h]; decide), List.length_cons, List.length_cons]
      omega
    | false =>
      rw [List.filter_cons_of_neg (by rw [h]; decide), List.filter_cons_of_pos (by rw [h]; rfl), List.length_cons, List.length_cons]
      omega
theorem neC_eC (A : rn_L) : neC A + eC A = A.length := by
  have := filt_sum (fun c => decide (rn_b A c < rn_b A (c + 1))) (List.range A.length)
  rw [List.length_range] at this
  exact this
/-- a label that stays from each visit to the one before it is one for each component -/
theorem lab_c {A : rn_L} {M : Nat → Nat} (h : ∀ v, v < A.flatten.length → M (rn_pv A v) = M v) : ∀ v, v < A.flatten.length → M v = M (rn_b A (rn_c A v)) := by
  intro v
  induction v using Nat.strongRecOn with
  | ind v ih =>
  intro hv
  obtain ⟨h1, h2, h3⟩ := rn_c_in A v hv
  by_cases hb : rn_b A (rn_c A v) = v
  · rw [hb]
  · have e1 : rn_pv A v = v - 1 := by
      unfold rn_pv
      rw [if_pos (by omega)]
    have h4 := h v hv
    rw [e1] at h4
    have e2 : rn_c A (v - 1) = rn_c A v := rn_c_of A _ _ (by omega) (by omega)
    have := ih (v - 1) (by omega) (by omega)
    rw [e2] at this
    rw [← h4, this]
/-- the over visits -/
def ovs (A : rn_L) (V : Nat) : List Nat := (List.range V).filter (fun u => decide (uns A u = 0))
theorem ovs_le {A : rn_L} {c : Nat} (hok : okF A.flatten c) : (ovs A A.flatten.length).length ≤ c := by
  have hn : ((ovs A A.flatten.length).map (crs A)).Nodup := by
    refine nodup_map (List.nodup_range.filter _) (fun i j hi hj e => ?_)
    have hi := List.mem_filter.mp hi
    have hj := List.mem_filter.mp hj
    have hil := List.mem_range.mp hi.1
    have hjl := List.mem_range.mp hj.1
    have e1 := of_decide_eq_true hi.2
    have e2 := of_decide_eq_true hj.2
    refine nodup_at hok.1 (vAt_of hil) (?_ : A.flatten[j]? = some (vAt A i))
    rw [vAt_of hjl, show vAt A j = vAt A i from Prod.ext e.symm (e2.trans e1.symm)]
  have := nodup_le _ (List.range c) hn (fun a ha => by
    obtain ⟨u, hu, e⟩ := List.mem_map.mp ha
    have hul := List.mem_range.mp (List.mem_filter.mp hu).1
    rw [← e]
    exact List.mem_range.mpr ((hok.2 _).mp (List.mem_of_getElem? (vAt_of hul))).1)
  rw [List.length_map, List.length_range] at this
  exact this
theorem mtf_uns {A : rn_L} {v : Nat} (hF : wkF A.flatten) (hv : v < A.flatten.length) (h : uns A v ≠ 0) : uns A (mtf A v) = 0 := by
  have hd := wkF_ok hF
  obtain ⟨n1, p1, p2, a1, a2, a3⟩ := mtf_mt hd hv
  rw [vAt_of hv] at a1
  cases a1
  have e2 := vAt_eq a2
  obtain ⟨-, k2, -⟩ := hF.2 _ (List.mem_of_getElem? a2)
  obtain ⟨-, k3, -⟩ := hF.2 _ (List.mem_of_getElem? (vAt_of hv))
  have hne : (vAt A v).2 ≠ p2.2 := fun e9 => n1 (nodup_at hF.1 (vAt_of hv) (by rw [a2]; congr 1; exact Prod.ext a3.symm e9.symm))
  show (vAt A (mtf A v)).2 = 0
  rw [e2]
  have : (vAt A v).2 ≠ 0 := h
  omega
/-- there are not more loops than crossings and components with visits -/
theorem loops_le {A : rn_L} {c : Nat} {sg : Nat → Bool} {st : Int32} (hok : okF A.flatten c) (hc : c ≤ 40) : rtsN (lpA A sg st A.flatten.length) A.flatten.length ≤ c + neC A := by
  have hF := okF_wk hc hok
  have hd := wkF_ok hF
  let p := lpA A sg st A.flatten.length
  have hp : dn p := lpA_dn _
  let E : List (Nat × Nat) := (ovs A A.flatten.length).map (fun v => (rn_pv A v, v))
  let M := mgL (rt p) E
  have hE : ∀ v, v < A.flatten.length → uns A v = 0 → M (rn_pv A v) = M v := fun v hv hu => mgL_m E (rt p) _ _ (List.mem_map.mpr ⟨v, List.mem_filter.mpr ⟨List.mem_range.mpr hv, decide_eq_true hu⟩, rfl⟩)
  have hM : ∀ v, v < A.flatten.length → M (rn_pv A v) = M v := by
    intro v hv
    by_cases hu : uns A v = 0
    · exact hE v hv hu
    · have hml := mtf_lt hd hv
      have hmu := mtf_uns hF hv hu
      have hj := lpA_j (sg := sg) (st := st) _ _ hml hmu
      have hmm := mtf_mtf hd hv
      have h1 := hE _ hml hmu
      rcases hj with ⟨a, b⟩ | ⟨a, b⟩
      · rw [hmm] at a b
        have a2 : M (rn_pv A (mtf A v)) = M v := mgL_e E (rt p) _ _ a
        have b2 : M (rn_pv A v) = M (mtf A v) := mgL_e E (rt p) _ _ b
        rw [b2, ← h1, a2]
      · rw [hmm] at a b
        have a2 : M (rn_pv A (mtf A v)) = M (rn_pv A v) := mgL_e E (rt p) _ _ a
        have b2 : M (mtf A v) = M v := mgL_e E (rt p) _ _ b
        rw [← a2, h1, b2]
  have hlab := lab_c hM
  have hdl : dLe A.flatten.length M (neC A) := by
    refine ⟨((List.range A.length).filter (fun c => decide (rn_b A c < rn_b A (c + 1)))).map (fun c => M (rn_b A c)), by rw [List.length_map]; exact Nat.le_refl _, fun v hv => ?_⟩
    obtain ⟨h1, h2, h3⟩ := rn_c_in A v hv
    rw [hlab v hv]
    exact List.mem_map.mpr ⟨rn_c A v, List.mem_filter.mpr ⟨List.mem_range.mpr h1, decide_eq_true (by omega)⟩, rfl⟩
  obtain ⟨R, hR, hcov⟩ := mgL_k E (rt p) _ hdl
  have hEl : E.length ≤ c := by
    rw [List.length_map]
    exact ovs_le hok
  have := nodup_le ((List.range A.flatten.length).filter (fun g => decide (p g = g))) R (List.nodup_range.filter _) (fun g hg => by
    have hg := List.mem_filter.mp hg
    have h2 := hcov g (List.mem_range.mp hg.1)
    rw [rt_root (of_decide_eq_true hg.2)] at h2
    exact h2)
  show ((List.range A.flatten.length).filter (fun g => decide (p g = g))).length ≤ _
  omega
end UF
