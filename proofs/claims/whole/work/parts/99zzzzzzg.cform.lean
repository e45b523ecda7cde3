/-! the class: Form, simple braids as numbers -/
def foJ (x j : Int32) : Int32 := (x >>> (((4 * j) : Int32) &&& 31)) &&& 15
def foV (x : Int32) : Nat → Int32
  | 0 => 0
  | i + 1 => foV x i ||| (nI i <<< (((4 * foJ x (nI i)) : Int32) &&& 31))
def foE : Nat → Int32
  | 0 => 0
  | i + 1 => foE i ||| (nI i <<< (((4 * nI i) : Int32) &&& 31))
def foD (n : Nat) : Nat → Int32
  | 0 => 0
  | i + 1 => foD n i ||| ((((nI n - 1) - nI i) : Int32) <<< (((4 * nI i) : Int32) &&& 31))
def foU (x : Int32) (n : Nat) : Nat → Int32
  | 0 => 0
  | i + 1 => foU x n i ||| ((((nI n - 1) - foJ x ((nI n - 1) - nI i)) : Int32) <<< (((4 * nI i) : Int32) &&& 31))
def foX (x p : Int32) : Int32 := (x ^^^ (((foJ x p ^^^ foJ x (p + 1)) : Int32) <<< (((4 * p) : Int32) &&& 31))) ^^^ (((foJ x p ^^^ foJ x (p + 1)) : Int32) <<< (((4 * (p + 1)) : Int32) &&& 31))
/-- the forms -/
def fO (h : Nat) : Prop := h = 46000 ∨ h = 47000 ∨ h = 49000 ∨ h = 51000
theorem fO_4 {vl : Nat → Nat} {h : Nat} (hh : fO h) : ((cX vl).2 (h + 4)).2.1 = 24 := by
  rcases hh with rfl | rfl | rfl | rfl <;> rfl
section CFO
variable {vl : Nat → Nat} {y : ow_MS} {h n : Nat} {x x' p : Int32}
theorem e_X5_image {vl : Nat → Nat} {x0 : Int32} {x1 : Int32} {z : ow_MS} {Q : (Int32 × ow_MS) → Prop} (H : Tt (fun K _ => cm_X5_image_0 vl K x0 x1 z) Q) : Te (fun K => ce_X5_image vl K x0 x1 z) Q := w_te0 H
theorem tc_image : Te (fun K => ce_X5_image vl K x p y) (fun r => r.1 = foJ x p ∧ r.2 = y) := by
  refine e_X5_image ?_; unfold cm_X5_image_0
  exact w_some ⟨rfl, rfl⟩
theorem u_X5_invert_1 {vl : Nat → Nat} {x0 : Int32} {x1 : Int32} {x2 : Int32} {x3 : Int32} {z : ow_MS} {Q : (Int32 × ow_MS) → Prop} (H : Tt (fun K k => cm_X5_invert_1 vl K (c_X5_invert vl K k) x0 x1 x2 x3 z) Q) : Tt (fun K k => c_X5_invert vl K k 1 x0 x1 x2 x3 z) Q := w_un (fun _ _ => rfl) H
theorem e_X5_invert {vl : Nat → Nat} {x0 : Int32} {x1 : Int32} {z : ow_MS} {Q : (Int32 × ow_MS) → Prop} (H : Tt (fun K k => c_X5_invert vl K k 0 x0 x1 0 0 z) Q) : Te (fun K => ce_X5_invert vl K x0 x1 z) Q := w_te H
theorem u_X5_invert_0 {vl : Nat → Nat} {x0 : Int32} {x1 : Int32} {x2 : Int32} {x3 : Int32} {z : ow_MS} {Q : (Int32 × ow_MS) → Prop} (H : Tt (fun K k => cm_X5_invert_0 vl K (c_X5_invert vl K k) x0 x1 x2 x3 z) Q) : Tt (fun K k => c_X5_invert vl K k 0 x0 x1 x2 x3 z) Q := w_un (fun _ _ => rfl) H
theorem tc_invert (hn : n ≤ 5) : Te (fun K => ce_X5_invert vl K x (nI n) y) (fun r => r.1 = foV x n ∧ r.2 = y) := by
  have c1 : ∀ (d i : Nat), i + d = n → Tt (fun K t => c_X5_invert vl K t 1 x (nI n) (foV x i) (nI i) y) (fun r => r.1 = foV x n ∧ r.2 = y) := by
    intro d
    induction d with
    | zero =>
      intro i hi
      have e : i = n := by omega
      subst e
      refine u_X5_invert_1 ?_; unfold cm_X5_invert_1
      exact w_leT (by omega) (by omega) (w_some ⟨rfl, rfl⟩)
    | succ d ih =>
      intro i hi
      refine u_X5_invert_1 ?_; unfold cm_X5_invert_1
      refine w_leF (by omega) (by omega) (w_cs1 tc_image ?_)
      rintro v y1 ⟨e1, e2⟩
      dsimp only at e1 e2
      rw [e1, e2, nI_1]
      exact ih (i + 1) (by omega)
  refine e_X5_invert ?_
  refine u_X5_invert_0 ?_; unfold cm_X5_invert_0
  exact c1 n 0 (by omega)
theorem u_X5_identityOf_1 {vl : Nat → Nat} {x0 : Int32} {x1 : Int32} {x2 : Int32} {z : ow_MS} {Q : (Int32 × ow_MS) → Prop} (H : Tt (fun K k => cm_X5_identityOf_1 vl K (c_X5_identityOf vl K k) x0 x1 x2 z) Q) : Tt (fun K k => c_X5_identityOf vl K k 1 x0 x1 x2 z) Q := w_un (fun _ _ => rfl) H
theorem e_X5_identityOf {vl : Nat → Nat} {x0 : Int32} {z : ow_MS} {Q : (Int32 × ow_MS) → Prop} (H : Tt (fun K k => c_X5_identityOf vl K k 0 x0 0 0 z) Q) : Te (fun K => ce_X5_identityOf vl K x0 z) Q := w_te H
theorem u_X5_identityOf_0 {vl : Nat → Nat} {x0 : Int32} {x1 : Int32} {x2 : Int32} {z : ow_MS} {Q : (Int32 × ow_MS) → Prop} (H : Tt (fun K k => cm_X5_identityOf_0 vl K (c_X5_identityOf vl K k) x0 x1 x2 z) Q) : Tt (fun K k => c_X5_identityOf vl K k 0 x0 x1 x2 z) Q := w_un (fun _ _ => rfl) H
theorem tc_identityOf (hn : n ≤ 5) : Te (fun K => ce_X5_identityOf vl K (nI n) y) (fun r => r.1 = foE n ∧ r.2 = y) := by
  have c1 : ∀ (d i : Nat), i + d = n → Tt (fun K t => c_X5_identityOf vl K t 1 (nI n) (foE i) (nI i) y) (fun r => r.1 = foE n ∧ r.2 = y) := by
    intro d
    induction d with
    | zero =>
      intro i hi
      have e : i = n := by omega
      subst e
      refine u_X5_identityOf_1 ?_; unfold cm_X5_identityOf_1
      exact w_leT (by omega) (by omega) (w_some ⟨rfl, rfl⟩)
    | succ d ih =>
      intro i hi
      refine u_X5_identityOf_1 ?_; unfold cm_X5_identityOf_1
      rw [nI_1]
      exact w_leF (by omega) (by omega) (ih (i + 1) (by omega))
  refine e_X5_identityOf ?_
  refine u_X5_identityOf_0 ?_; unfold cm_X5_identityOf_0
  exact c1 n 0 (by omega)
theorem u_X5_deltaOf_1 {vl : Nat → Nat} {x0 : Int32} {x1 : Int32} {x2 : Int32} {z : ow_MS} {Q : (Int32 × ow_MS) → Prop} (H : Tt (fun K k => cm_X5_deltaOf_1 vl K (c_X5_deltaOf vl K k) x0 x1 x2 z) Q) : Tt (fun K k => c_X5_deltaOf vl K k 1 x0 x1 x2 z) Q := w_un (fun _ _ => rfl) H
theorem e_X5_deltaOf {vl : Nat → Nat} {x0 : Int32} {z : ow_MS} {Q : (Int32 × ow_MS) → Prop} (H : Tt (fun K k => c_X5_deltaOf vl K k 0 x0 0 0 z) Q) : Te (fun K => ce_X5_deltaOf vl K x0 z) Q := w_te H
theorem u_X5_deltaOf_0 {vl : Nat → Nat} {x0 : Int32} {x1 : Int32} {x2 : Int32} {z : ow_MS} {Q : (Int32 × ow_MS) → Prop} (H : Tt (fun K k => cm_X5_deltaOf_0 vl K (c_X5_deltaOf vl K k) x0 x1 x2 z) Q) : Tt (fun K k => c_X5_deltaOf vl K k 0 x0 x1 x2 z) Q := w_un (fun _ _ => rfl) H
theorem tc_deltaOf (hn : n ≤ 5) : Te (fun K => ce_X5_deltaOf vl K (nI n) y) (fun r => r.1 = foD n n ∧ r.2 = y) := by
  have c1 : ∀ (d i : Nat), i + d = n → Tt (fun K t => c_X5_deltaOf vl K t 1 (nI n) (foD n i) (nI i) y) (fun r => r.1 = foD n n ∧ r.2 = y) := by
    intro d
    induction d with
    | zero =>
      intro i hi
      have e : i = n := by omega
      subst e
      refine u_X5_deltaOf_1 ?_; unfold cm_X5_deltaOf_1
      exact w_leT (by omega) (by omega) (w_some ⟨rfl, rfl⟩)
    | succ d ih =>
      intro i hi
      refine u_X5_deltaOf_1 ?_; unfold cm_X5_deltaOf_1
      rw [nI_1]
      exact w_leF (by omega) (by omega) (ih (i + 1) (by omega))
  refine e_X5_deltaOf ?_
  refine u_X5_deltaOf_0 ?_; unfold cm_X5_deltaOf_0
  exact c1 n 0 (by omega)
theorem u_X5_turned_1 {vl : Nat → Nat} {x0 : Int32} {x1 : Int32} {x2 : Int32} {x3 : Int32} {z : ow_MS} {Q : (Int32 × ow_MS) → Prop} (H : Tt (fun K k => cm_X5_turned_1 vl K (c_X5_turned vl K k) x0 x1 x2 x3 z) Q) : Tt (fun K k => c_X5_turned vl K k 1 x0 x1 x2 x3 z) Q := w_un (fun _ _ => rfl) H
theorem e_X5_turned {vl : Nat → Nat} {x0 : Int32} {x1 : Int32} {z : ow_MS} {Q : (Int32 × ow_MS) → Prop} (H : Tt (fun K k => c_X5_turned vl K k 0 x0 x1 0 0 z) Q) : Te (fun K => ce_X5_turned vl K x0 x1 z) Q := w_te H
theorem u_X5_turned_0 {vl : Nat → Nat} {x0 : Int32} {x1 : Int32} {x2 : Int32} {x3 : Int32} {z : ow_MS} {Q : (Int32 × ow_MS) → Prop} (H : Tt (fun K k => cm_X5_turned_0 vl K (c_X5_turned vl K k) x0 x1 x2 x3 z) Q) : Tt (fun K k => c_X5_turned vl K k 0 x0 x1 x2 x3 z) Q := w_un (fun _ _ => rfl) H
theorem tc_turned (hn : n ≤ 5) : Te (fun K => ce_X5_turned vl K x (nI n) y) (fun r => r.1 = foU x n n ∧ r.2 = y) := by
  have c1 : ∀ (d i : Nat), i + d = n → Tt (fun K t => c_X5_turned vl K t 1 x (nI n) (foU x n i) (nI i) y) (fun r => r.1 = foU x n n ∧ r.2 = y) := by
    intro d
    induction d with
    | zero =>
      intro i hi
      have e : i = n := by omega
      subst e
      refine u_X5_turned_1 ?_; unfold cm_X5_turned_1
      exact w_leT (by omega) (by omega) (w_some ⟨rfl, rfl⟩)
    | succ d ih =>
      intro i hi
      refine u_X5_turned_1 ?_; unfold cm_X5_turned_1
      refine w_leF (by omega) (by omega) (w_cs1 tc_image ?_)
      rintro v y1 ⟨e1, e2⟩
      dsimp only at e1 e2
      rw [e1, e2, nI_1]
      exact ih (i + 1) (by omega)
  refine e_X5_turned ?_
  refine u_X5_turned_0 ?_; unfold cm_X5_turned_0
  exact c1 n 0 (by omega)
theorem e_X5_exchanged {vl : Nat → Nat} {x0 : Int32} {x1 : Int32} {z : ow_MS} {Q : (Int32 × ow_MS) → Prop} (H : Tt (fun K _ => cm_X5_exchanged_0 vl K x0 x1 z) Q) : Te (fun K => ce_X5_exchanged vl K x0 x1 z) Q := w_te0 H
theorem tc_exchanged : Te (fun K => ce_X5_exchanged vl K x p y) (fun r => r.1 = foX x p ∧ r.2 = y) := by
  refine e_X5_exchanged ?_; unfold cm_X5_exchanged_0
  refine w_cs1 tc_image ?_
  rintro v y1 ⟨e1, e2⟩
  dsimp only at e1 e2
  rw [e1, e2]
  refine w_cs1 tc_image ?_
  rintro v2 y2 ⟨e3, e4⟩
  dsimp only at e3 e4
  rw [e3, e4]
  exact w_some ⟨rfl, rfl⟩
theorem e_X5_exchangedBehind {vl : Nat → Nat} {x0 : Int32} {x1 : Int32} {x2 : Int32} {z : ow_MS} {Q : (Int32 × ow_MS) → Prop} (H : Tt (fun K _ => cm_X5_exchangedBehind_0 vl K x0 x1 x2 z) Q) : Te (fun K => ce_X5_exchangedBehind vl K x0 x1 x2 z) Q := w_te0 H
theorem tc_exchangedBehind (hn : n ≤ 5) : Te (fun K => ce_X5_exchangedBehind vl K x p (nI n) y) (fun r => r.1 = foV (foX (foV x n) p) n ∧ r.2 = y) := by
  refine e_X5_exchangedBehind ?_; unfold cm_X5_exchangedBehind_0
  refine w_cs1 (tc_invert hn) ?_
  rintro v y1 ⟨e1, e2⟩
  dsimp only at e1 e2
  rw [e1, e2]
  refine w_cs1 tc_exchanged ?_
  rintro v2 y2 ⟨e3, e4⟩
  dsimp only at e3 e4
  rw [e3, e4]
  refine w_cs1 (tc_invert hn) ?_
  rintro v3 y3 ⟨e5, e6⟩
  dsimp only at e5 e6
  rw [e5, e6]
  exact w_some ⟨rfl, rfl⟩
/-- a form: strands, power, factors -/
def foA (y : ow_MS) (h n : Nat) (w : Int32) (L : List Int32) : Prop := y.1 (h + 1) = nI n ∧ y.1 (h + 2) = w ∧ y.1 (h + 3) = nI L.length ∧ L.length ≤ 24 ∧ (∀ i a, L[i]? = some a → y.2.1 (h + 4) i = a) ∧ y.1 (h + 5) = foE n ∧ y.1 (h + 6) = foD n n
def foP (h g : Nat) : Prop := h + 1 ≤ g ∧ g ≤ h + 6
theorem e_X5_begin {vl : Nat → Nat} {r0 : Nat} {x1 : Int32} {z : ow_MS} {Q : ow_MS → Prop} (H : Tt (fun K _ => cm_X5_begin_0 vl K x1 r0 z) Q) : Te (fun K => ce_X5_begin vl K r0 x1 z) Q := w_te0 H
theorem tc_begin (hn : n ≤ 5) : Te (fun K => ce_X5_begin vl K h (nI n) y) (fun y1 => foA y1 h n 0 [] ∧ fr (foP h) y y1) := by
  refine e_X5_begin ?_; unfold cm_X5_begin_0
  refine w_wrF (w_wrF (w_wrF (w_cs1 (tc_identityOf hn) ?_)))
  rintro v y1 ⟨e1, e2⟩
  dsimp only at e1 e2
  rw [e1, e2]
  refine w_wrF (w_cs1 (tc_deltaOf hn) ?_)
  rintro v2 y2 ⟨e3, e4⟩
  dsimp only at e3 e4
  rw [e3, e4]
  refine w_wrF (w_some ⟨⟨?_, ?_, ?_, Nat.zero_le _, fun i a e => (by rw [List.getElem?_nil] at e; cases e), rf_ot (by omega) po_usF_at, po_usF_at⟩, fr_F2 (fr_F2 (fr_F2 (fr_F2 (fr_F (by unfold foP; omega)) (by unfold foP; omega)) (by unfold foP; omega)) (by unfold foP; omega)) (by unfold foP; omega)⟩)
  · exact rf_ot (by omega) (rf_ot (by omega) (rf_ot (by omega) (rf_ot (by omega) po_usF_at)))
  · exact rf_ot (by omega) (rf_ot (by omega) (rf_ot (by omega) po_usF_at))
  · exact rf_ot (by omega) (rf_ot (by omega) po_usF_at)
/-- the first letter that may go from the second to the first -/
def foM (n : Nat) (a b : Int32) : Nat → Nat → Option Nat
  | 0, _ => none
  | d + 1, i => if foJ b (nI i + 1) < foJ b (nI i) ∧ foJ a (nI i) < foJ a (nI i + 1) then some i else foM n a b d (i + 1)
theorem u_X5_movable_1 {vl : Nat → Nat} {x1 : Int32} {x2 : Int32} {x3 : Int32} {r0 : Nat} {z : ow_MS} {Q : (Int32 × ow_MS) → Prop} (H : Tt (fun K k => cm_X5_movable_1 vl K (c_X5_movable vl K k) x1 x2 x3 r0 z) Q) : Tt (fun K k => c_X5_movable vl K k 1 x1 x2 x3 r0 z) Q := w_un (fun _ _ => rfl) H
theorem u_X5_movable_2 {vl : Nat → Nat} {x1 : Int32} {x2 : Int32} {x3 : Int32} {r0 : Nat} {z : ow_MS} {Q : (Int32 × ow_MS) → Prop} (H : Tt (fun K k => cm_X5_movable_2 vl K (c_X5_movable vl K k) x1 x2 x3 r0 z) Q) : Tt (fun K k => c_X5_movable vl K k 2 x1 x2 x3 r0 z) Q := w_un (fun _ _ => rfl) H
theorem e_X5_movable {vl : Nat → Nat} {r0 : Nat} {x1 : Int32} {x2 : Int32} {z : ow_MS} {Q : (Int32 × ow_MS) → Prop} (H : Tt (fun K k => c_X5_movable vl K k 0 x1 x2 0 r0 z) Q) : Te (fun K => ce_X5_movable vl K r0 x1 x2 z) Q := w_te H
theorem u_X5_movable_0 {vl : Nat → Nat} {x1 : Int32} {x2 : Int32} {x3 : Int32} {r0 : Nat} {z : ow_MS} {Q : (Int32 × ow_MS) → Prop} (H : Tt (fun K k => cm_X5_movable_0 vl K (c_X5_movable vl K k) x1 x2 x3 r0 z) Q) : Tt (fun K k => c_X5_movable vl K k 0 x1 x2 x3 r0 z) Q := w_un (fun _ _ => rfl) H
theorem tc_movable {a b : Int32} (h1 : y.1 (h + 1) = nI n) (hn1 : 1 ≤ n) (hn : n ≤ 5) : Te (fun K => ce_X5_movable vl K h a b y) (fun r => r.1 = oNI (foM n a b (n - 1) 0) ∧ r.2 = y) := by
  have c1 : ∀ (d i : Nat), i + d = n - 1 → foM n a b d i = foM n a b (n - 1) 0 → Tt (fun K t => c_X5_movable vl K t 1 a b (nI i) h y) (fun r => r.1 = oNI (foM n a b (n - 1) 0) ∧ r.2 = y) := by
    intro d
    induction d with
    | zero =>
      intro i hi e0
      refine u_X5_movable_1 ?_; unfold cm_X5_movable_1
      refine w_rdF h1 ?_
      rw [show nI n - 1 = nI (n - 1) from pk_sub (b := 1) hn1]
      exact w_leT (by omega) (by omega) (w_some ⟨by rw [← e0]; rfl, rfl⟩)
    | succ d ih =>
      intro i hi e0
      have c2 : ¬ (foJ b (nI i + 1) < foJ b (nI i) ∧ foJ a (nI i) < foJ a (nI i + 1)) → Tt (fun K t => c_X5_movable vl K t 2 a b (nI i) h y) (fun r => r.1 = oNI (foM n a b (n - 1) 0) ∧ r.2 = y) := by
        intro hno
        refine u_X5_movable_2 ?_; unfold cm_X5_movable_2
        rw [nI_1]
        refine ih (i + 1) (by omega) ?_
        rw [← e0]
        show _ = if _ then _ else _
        rw [if_neg hno]
      refine u_X5_movable_1 ?_; unfold cm_X5_movable_1
      refine w_rdF h1 ?_
      rw [show nI n - 1 = nI (n - 1) from pk_sub (b := 1) hn1]
      refine w_leF (by omega) (by omega) (w_cs1 tc_image ?_)
      rintro v y1 ⟨e1, e2⟩
      dsimp only at e1 e2
      rw [e1, e2]
      refine w_cs1 tc_image ?_
      rintro v2 y2 ⟨e3, e4⟩
      dsimp only at e3 e4
      rw [e3, e4]
      refine w_if (fun q => c2 (fun h9 => Int32.not_le.mpr h9.1 q)) (fun q => w_cs1 tc_image ?_)
      rintro v3 y3 ⟨e5, e6⟩
      dsimp only at e5 e6
      rw [e5, e6]
      refine w_cs1 tc_image ?_
      rintro v4 y4 ⟨e7, e8⟩
      dsimp only at e7 e8
      rw [e7, e8]
      refine w_if (fun q2 => c2 (fun h9 => Int32.not_le.mpr h9.2 q2)) (fun q2 => w_some ⟨?_, rfl⟩)
      rw [← e0]
      show nI i = oNI (if _ then _ else _)
      rw [if_pos ⟨Int32.not_le.mp q, Int32.not_le.mp q2⟩]
      rfl
  refine e_X5_movable ?_
  refine u_X5_movable_0 ?_; unfold cm_X5_movable_0
  exact c1 (n - 1) 0 (by omega) rfl
end CFO
