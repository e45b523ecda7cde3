/-! the class: Coder.encodePart -/
theorem cd_lt_tr {X Y Z : Nat → Nat} {n : Nat} (h1 : cd_lt X Y n) (h2 : cd_lt Y Z n) : cd_lt X Z n := by
  obtain ⟨j, hj, hl, hb⟩ := h1
  obtain ⟨k, hk, hm, hd⟩ := h2
  rcases Nat.lt_trichotomy j k with q | q | q
  · exact ⟨j, hj, by rw [← hd j q]; exact hl, fun i hi => (hb i hi).trans (hd i (Nat.lt_trans hi q))⟩
  · rw [← q] at hm hd
    exact ⟨j, hj, Nat.lt_trans hl hm, fun i hi => (hb i hi).trans (hd i hi)⟩
  · exact ⟨k, hk, by rw [hb k q]; exact hm, fun i hi => (hb i (Nat.lt_trans hi q)).trans (hd i hi)⟩
theorem cd_lt_rf {X : Nat → Nat} {n : Nat} : ¬ cd_lt X X n := fun ⟨_, _, hl, _⟩ => Nat.lt_irrefl _ hl
/-- visits of a part -/
def cntV (F : Nat → Int32) (k : Int32) : Nat → Nat
  | 0 => 0
  | n + 1 => if F n = k then cntV F k n + 1 else cntV F k n
theorem cntV_le (F : Nat → Int32) (k : Int32) : ∀ n, cntV F k n ≤ n := by
  intro n
  induction n with
  | zero => exact Nat.le_refl 0
  | succ n ih =>
    show (if F n = k then cntV F k n + 1 else cntV F k n) ≤ n + 1
    split <;> omega
def tf_k (P : tf_P) : Prop := tf_ok P ∧ ∀ j, P.T j < 64
theorem tf_vis_k {G : Nat → Int32} {P : tf_P} {v : Nat} (h : tf_k P) (hv : v < 24) : tf_k (tf_vis G P v) := by
  refine ⟨tf_vis_ok h.1 hv, fun j => ?_⟩
  show (if j = P.len then tf_cell G P v else P.T j) < 64
  split
  · exact cell64 h.1 hv
  · exact h.2 j
theorem tf_sep_k {P : tf_P} (h : tf_k P) : tf_k (tf_sep P) := by
  refine ⟨tf_sep_ok h.1, fun j => ?_⟩
  show (if j = P.len then 0 else P.T j) < 64
  split
  · omega
  · exact h.2 j
theorem tf_ring_k {G : Nat → Int32} {N : Nat → Nat} {f : Nat} (hN : ∀ v, N v < 24) : ∀ (d v : Nat) (P : tf_P), v < 24 → tf_k P → tf_k (tf_ring G N f d v P)
  | 0, _, _, _, h => h
  | d + 1, v, P, hv, h => by
    rw [tf_ring]
    split
    · exact tf_vis_k h hv
    · exact tf_ring_k hN d _ _ (hN v) (tf_vis_k h hv)
theorem tf_out_k {G : Nat → Int32} {N : Nat → Nat} (hN : ∀ v, N v < 24) : ∀ (d : Nat) (fo : Option Nat) (k : Nat) (P : tf_P), (∀ f, fo = some f → f < 24) → tf_k P → tf_k (tf_out G N d fo k P)
  | 0, _, _, _, _, h => h
  | _ + 1, none, _, _, _, h => h
  | d + 1, some f, k, P, hf, h => by
    have h1 := tf_sep_k (tf_ring_k (G := G) (f := f) hN 24 f P (hf f rfl) h)
    exact tf_out_k hN d _ _ _ (fun f2 e => tf_look_b h1.1.2.2.1 _ _ _ e) h1
theorem tf_code_k {G : Nat → Int32} {N : Nat → Nat} (hN : ∀ v, N v < 24) {v : Nat} (hv : v < 24) : tf_k (tf_code G N v) := tf_out_k hN 24 (some v) 0 tf_0 (fun f e => by cases e; exact hv) ⟨tf_ok_0, fun _ => by show 0 < 64; omega⟩
/-- the row of a code -/
def tfL (P : tf_P) : List Nat := (List.range P.len).map P.T
theorem tfL_at {P : tf_P} {i : Nat} : (tfL P)[i]? = if i < P.len then some (P.T i) else none := by
  unfold tfL
  rw [List.getElem?_map]
  by_cases h : i < P.len
  · rw [List.getElem?_range h, if_pos h]
    rfl
  · rw [List.getElem?_eq_none (by rw [List.length_range]; omega), if_neg h]
    rfl
theorem tfL_len {P : tf_P} : (tfL P).length = P.len := by
  unfold tfL
  rw [List.length_map, List.length_range]
/-- the start w is one of part p's with the least first cell -/
def epS (T : ow_NT) (F : Nat → Int32) (p : Int32) (w : Nat) : Prop := F w = p ∧ cd_first T.2.2.2 w = lfc T.2.2.2 F p (2 * T.1)
/-- v gives the least row of part p among the starts below i -/
def epV (T : ow_NT) (F : Nat → Int32) (p : Int32) (i v : Nat) : Prop := v < i ∧ epS T F p v ∧ ∀ w, w < i → epS T F p w → ¬ cd_lt (tf_code T.2.2.2 T.2.2.1.1 w).T (tf_code T.2.2.2 T.2.2.1.1 v).T (tf_code T.2.2.2 T.2.2.1.1 v).len
/-- what a part's code is -/
def epC (T : ow_NT) (F : Nat → Int32) (p : Int32) (C : cdT) : Prop := C.1 = cntV F p (2 * T.1) / 2 ∧ (((∀ w, w < 2 * T.1 → ¬ epS T F p w) ∧ C.2 = []) ∨ ∃ v, epV T F p (2 * T.1) v ∧ C.2 = tfL (tf_code T.2.2.2 T.2.2.1.1 v))
def epP (k g : Nat) : Prop := k + 4 ≤ g ∧ g ≤ k + 6 ∨ k + 2001 ≤ g ∧ g ≤ k + 2003
theorem div2_c : ∀ v : Fin 25, (2 : Int32) ≠ 0 ∧ vp_nar .byte (nI v.1 / 2).toInt8.toInt32 = nI (v.1 / 2) := by decide +kernel
theorem fits64 : ∀ v : Fin 64, fits .byte (.int (nI v.1)) = true := by decide +kernel
section CE
variable {vl : Nat → Nat} {y : ow_MS} {h k : Nat} {T : ow_NT}
theorem u_X2_encodePart_1 {vl : Nat → Nat} {x2 : Int32} {x3 : Int32} {x4 : Int32} {x5 : Int32} {r0 : Nat} {r1 : Nat} {z : ow_MS} {Q : ow_MS → Prop} (H : Tt (fun K k => cm_X2_encodePart_1 vl K (c_X2_encodePart vl K k) x2 x3 x4 x5 r0 r1 z) Q) : Tt (fun K k => c_X2_encodePart vl K k 1 x2 x3 x4 x5 r0 r1 z) Q := w_un (fun _ _ => rfl) H
theorem u_X2_encodePart_2 {vl : Nat → Nat} {x2 : Int32} {x3 : Int32} {x4 : Int32} {x5 : Int32} {r0 : Nat} {r1 : Nat} {z : ow_MS} {Q : ow_MS → Prop} (H : Tt (fun K k => cm_X2_encodePart_2 vl K (c_X2_encodePart vl K k) x2 x3 x4 x5 r0 r1 z) Q) : Tt (fun K k => c_X2_encodePart vl K k 2 x2 x3 x4 x5 r0 r1 z) Q := w_un (fun _ _ => rfl) H
theorem e_X2_encodePart {vl : Nat → Nat} {r0 : Nat} {r1 : Nat} {x2 : Int32} {z : ow_MS} {Q : ow_MS → Prop} (H : Tt (fun K k => c_X2_encodePart vl K k 0 x2 0 0 0 r0 r1 z) Q) : Te (fun K => ce_X2_encodePart vl K r0 r1 x2 z) Q := w_te H
theorem u_X2_encodePart_0 {vl : Nat → Nat} {x2 : Int32} {x3 : Int32} {x4 : Int32} {x5 : Int32} {r0 : Nat} {r1 : Nat} {z : ow_MS} {Q : ow_MS → Prop} (H : Tt (fun K k => cm_X2_encodePart_0 vl K (c_X2_encodePart vl K k) x2 x3 x4 x5 r0 r1 z) Q) : Tt (fun K k => c_X2_encodePart vl K k 0 x2 x3 x4 x5 r0 r1 z) Q := w_un (fun _ _ => rfl) H
theorem tc_encodePart {p : Int32} {F : Nat → Int32} {n0 : Nat} (hk : kH k) (hh : nH h) (hy : cAt y h T) (hT : T.1 ≤ 12) (hb : ow_b24 T.2.2.1) (h6 : ∀ j, j < 2 * T.1 → y.2.1 (h + 6) j = F j) (h30 : n0 ≤ 30) (hln : ∀ v, v < 2 * T.1 → F v = p → (tf_code T.2.2.2 T.2.2.1.1 v).len = n0) (hby : byR y (k + 2001)) : Te (fun K => ce_X2_encodePart vl K k h p y) (fun y1 => (∃ C, epC T F p C ∧ slC y1 (k + 2000) 0 C ∧ cOK C) ∧ byR y1 (k + 2001) ∧ fr (epP k) y y1) := by
  have hdj := kH_dj hk hh
  let Q : ow_MS → Prop := fun y1 => (∃ C, epC T F p C ∧ slC y1 (k + 2000) 0 C ∧ cOK C) ∧ byR y1 (k + 2001) ∧ fr (epP k) y y1
  have hcA : ∀ z, fr (epP k) y z → cAt z h T := fun z hf => cAt_fr hf (fun g hg hq => by unfold cP at hg; unfold epP at hq; omega) hy
  have h6A : ∀ z, fr (epP k) y z → ∀ j, j < 2 * T.1 → z.2.1 (h + 6) j = F j := by
    intro z hf j hj
    rw [(hf (h + 6) (by unfold epP; omega)).2.1]
    exact h6 j hj
  -- the state at start i: the best row so far
  let S : Nat → ow_MS → Nat → Prop := fun i z l0 => z.2.1 (k + 2002) 0 = nI l0 ∧ ((l0 = 0 ∧ ∀ w, w < i → ¬ epS T F p w) ∨ (l0 = n0 ∧ ∃ v, epV T F p i v ∧ ∀ j, j < n0 → z.2.1 (k + 2001) j = nI ((tf_code T.2.2.2 T.2.2.1.1 v).T j))) ∧ byR z (k + 2001) ∧ fr (epP k) y z
  have skip : ∀ i z l0, S i z l0 → ¬ epS T F p i → S (i + 1) z l0 := by
    intro i z l0 ⟨s1, s2, s3, s4⟩ hn
    refine ⟨s1, ?_, s3, s4⟩
    rcases s2 with ⟨e1, e2⟩ | ⟨e1, v, ⟨e2, e3, e4⟩, e5⟩
    · refine Or.inl ⟨e1, fun w hw => ?_⟩
      by_cases e : w = i
      · rw [e]; exact hn
      · exact e2 w (by omega)
    · refine Or.inr ⟨e1, v, ⟨by omega, e3, fun w hw hs => ?_⟩, e5⟩
      by_cases e : w = i
      · exact absurd (by rw [← e]; exact hs) hn
      · exact e4 w (by omega) hs
  have c1 : ∀ (d i : Nat) (z : ow_MS) (l0 : Nat), i + d = 2 * T.1 → S i z l0 → Tt (fun K t => c_X2_encodePart vl K t 1 p (nI (lfc T.2.2.2 F p (2 * T.1))) (nI (cntV F p i)) (nI i) k h z) Q := by
    intro d
    induction d with
    | zero =>
      intro i z l0 hi hs
      have e : i = 2 * T.1 := by omega
      subst e
      obtain ⟨s1, s2, s3, s4⟩ := hs
      have hcv := cntV_le F p (2 * T.1)
      have hd2 := div2_c ⟨cntV F p (2 * T.1), by omega⟩
      refine u_X2_encodePart_1 ?_; unfold cm_X2_encodePart_1
      refine w_rdF (hcA z s4).1 ?_
      rw [show (2 : Int32) * nI T.1 = nI (2 * T.1) from pk_mul 2 _]
      refine w_leT (by omega) (by omega) (w_nzI (by decide) (w_ctB (i := 0) (tH_3 (kH_one hk)) rfl (by omega) (w_some ?_)))
      rw [hd2.2]
      refine ⟨?_, fun j => ?_, fr_I2 s4 (Or.inr ⟨by omega, by omega⟩)⟩
      · rcases s2 with ⟨e1, e2⟩ | ⟨e1, v, e2, e3⟩
        · refine ⟨(cntV F p (2 * T.1) / 2, []), ⟨rfl, Or.inl ⟨e2, rfl⟩⟩, ⟨po_usI_at, rd_ot (by omega) ?_, fun j a e => by cases e⟩, ⟨by show _ / 2 ≤ 12; omega, by show 0 ≤ 30; omega, fun a e => by cases e⟩⟩
          rw [show k + 2000 + 2 = k + 2002 from rfl, s1, e1]
          rfl
        · have hl := hln v e2.1 e2.2.1.1
          refine ⟨(cntV F p (2 * T.1) / 2, tfL (tf_code T.2.2.2 T.2.2.1.1 v)), ⟨rfl, Or.inr ⟨v, e2, rfl⟩⟩, ⟨po_usI_at, rd_ot (by omega) ?_, fun j a e => rd_ot (by omega) ?_⟩, ⟨by show _ / 2 ≤ 12; omega, by show (tfL _).length ≤ 30; rw [tfL_len]; omega, fun a e => ?_⟩⟩
          · rw [show k + 2000 + 2 = k + 2002 from rfl, s1, e1]
            show nI n0 = nI (tfL _).length
            rw [tfL_len, hl]
          · have e' : (tfL (tf_code T.2.2.2 T.2.2.1.1 v))[j]? = some a := e
            rw [tfL_at] at e'
            by_cases hj : j < (tf_code T.2.2.2 T.2.2.1.1 v).len
            · rw [if_pos hj] at e'
              cases e'
              rw [show 30 * 0 + j = j by omega]
              exact e3 j (by omega)
            · rw [if_neg hj] at e'
              cases e'
          · have e' : a ∈ (List.range (tf_code T.2.2.2 T.2.2.1.1 v).len).map (tf_code T.2.2.2 T.2.2.1.1 v).T := e
            obtain ⟨j, _, e6⟩ := List.mem_map.mp e'
            have hv1 := e2.1
            rw [← e6]
            exact (tf_code_k hb.1 (by omega)).2 j
      · rw [show (usI z (k + 2000 + 3) 0 (nI (cntV F p (2 * T.1) / 2))).2.1 (k + 2001) j = z.2.1 (k + 2001) j from rd_ot (by omega) rfl]
        exact s3 j
    | succ d ih =>
      intro i z l0 hi hs
      have hcv := cntV_le F p i
      have c2 : ∀ (z2 : ow_MS) (l2 : Nat), S (i + 1) z2 l2 → Tt (fun K t => c_X2_encodePart vl K t 2 p (nI (lfc T.2.2.2 F p (2 * T.1))) (nI (cntV F p (i + 1))) (nI i) k h z2) Q := by
        intro z2 l2 hs2
        refine u_X2_encodePart_2 ?_; unfold cm_X2_encodePart_2
        rw [nI_1]
        exact ih (i + 1) z2 l2 (by omega) hs2
      have ecv : cntV F p (i + 1) = if F i = p then cntV F p i + 1 else cntV F p i := rfl
      refine u_X2_encodePart_1 ?_; unfold cm_X2_encodePart_1
      refine w_rdF (hcA z hs.2.2.2).1 ?_
      rw [show (2 : Int32) * nI T.1 = nI (2 * T.1) from pk_mul 2 _, nI_1]
      refine w_leF (by omega) (by omega) (w_crI (nH_6 hh) rfl (show i < 24 by omega) (h6A z hs.2.2.2 i (by omega)) (w_if (fun e => ?_) (fun e => ?_)))
      · rw [if_pos e] at ecv
        rw [← ecv]
        refine w_cs1 (tc_firstCell hh (hcA z hs.2.2.2) (show i < 24 by omega)) ?_
        rintro r z1 ⟨e1, e2⟩
        dsimp only at e1 e2
        rw [e1, e2]
        have b1 := lfc_b (G := T.2.2.2) (P := F) (p := p) (2 * T.1)
        have b2 := first_b (G := T.2.2.2) (v := i)
        refine w_eqN (by omega) (by omega) (fun e3 => ?_) (fun e3 => c2 z l0 (skip i z l0 hs (fun q => e3 q.2)))
        have hS : epS T F p i := ⟨e, e3⟩
        have hl := hln i (by omega) e
        obtain ⟨s1, s2, s3, s4⟩ := hs
        have hcall : ∃ B : Nat → Nat, (∀ j, B j < 64) ∧ (∀ j, j < l0 → z.2.1 (k + 2001) j = nI (B j)) ∧ (l0 = 0 ∨ l0 = n0) ∧ (∀ z2 : ow_MS, fr (epP k) y z2 → byR z2 (k + 2001) → z2.2.1 (k + 2002) 0 = nI l0 → z2.2.1 (k + 2001) = z.2.1 (k + 2001) → 0 < l0 → ¬ cd_lt (tf_code T.2.2.2 T.2.2.1.1 i).T B (tf_code T.2.2.2 T.2.2.1.1 i).len → S (i + 1) z2 l0) ∧ (l0 = 0 ∨ cd_lt (tf_code T.2.2.2 T.2.2.1.1 i).T B (tf_code T.2.2.2 T.2.2.1.1 i).len → epV T F p (i + 1) i) := by
          rcases s2 with ⟨e4, e5⟩ | ⟨e4, v, ⟨e5, e6, e7⟩, e8⟩
          · refine ⟨fun _ => 0, fun _ => by show 0 < 64; omega, fun j hj => absurd hj (by omega), Or.inl e4, fun z2 _ _ _ _ h0 _ => absurd h0 (by omega), fun _ => ⟨by omega, hS, fun w hw hw2 => ?_⟩⟩
            by_cases e9 : w = i
            · rw [e9]; exact cd_lt_rf
            · exact absurd hw2 (e5 w (by omega))
          · have hlv := hln v (by omega) e6.1
            refine ⟨(tf_code T.2.2.2 T.2.2.1.1 v).T, (tf_code_k hb.1 (by omega)).2, fun j hj => e8 j (by omega), Or.inr e4, fun z2 f1 f2 f3 f4 _ hn => ⟨f3, Or.inr ⟨e4, v, ⟨by omega, e6, fun w hw hw2 => ?_⟩, fun j hj => by rw [f4]; exact e8 j hj⟩, f2, f1⟩, fun hd => ⟨by omega, hS, fun w hw hw2 hlt => ?_⟩⟩
            · by_cases e9 : w = i
              · rw [e9, hlv, ← hl]; exact hn
              · exact e7 w (by omega) hw2
            · have h0 : 0 < (tf_code T.2.2.2 T.2.2.1.1 v).len := tf_code_pos _ _ _
              have hd2 : cd_lt (tf_code T.2.2.2 T.2.2.1.1 i).T (tf_code T.2.2.2 T.2.2.1.1 v).T (tf_code T.2.2.2 T.2.2.1.1 i).len := by
                rcases hd with hd | hd
                · omega
                · exact hd
              by_cases e9 : w = i
              · rw [e9] at hlt
                exact cd_lt_rf hlt
              · refine e7 w (by omega) hw2 ?_
                rw [hlv, ← hl]
                exact cd_lt_tr hlt hd2
        obtain ⟨B, hB1, hB2, hB3, hB4, hB5⟩ := hcall
        refine w_cs1 (tc_tryFrom (B := B) (l0 := l0) hk hh (hcA z s4) hb (show i < 24 by omega) (by omega) (by omega) s1 (by omega) hB2 hB1) ?_
        rintro r3 z3 ⟨f1, f2⟩
        have f1' : fr (epP k) y z3 := fr_tr s4 (fr_mono (fun g hg => Or.inl hg) f1)
        have f3 : z3.2.1 (k + 2001) = z.2.1 (k + 2001) := (f1 (k + 2001) (by unfold tfP; omega)).2.1
        have f4 : z3.2.1 (k + 2002) = z.2.1 (k + 2002) := (f1 (k + 2002) (by unfold tfP; omega)).2.1
        have f5 : byR z3 (k + 2001) := by
          intro j
          rw [f3]
          exact s3 j
        dsimp only at f2
        rcases f2 with ⟨g1, g2, g3⟩ | ⟨g1, g2, g3⟩
        · rw [g1]
          have hpos : 0 < (tf_code T.2.2.2 T.2.2.1.1 i).len := tf_code_pos _ _ _
          refine w_leF (b := 0) (by omega) (by omega) (w_ltF (a := 30) (by omega) (by omega) ?_)
          have cpb : ∀ {E : ow_MS → Nat → Nat → Option ow_MS} {Q : ow_MS → Prop}, Tt (E (usR z3 (k + 2000 + 1) (va_cpy (z3.2.1 (k + 4)) (z3.2.1 (k + 2000 + 1)) 0 0 (tf_code T.2.2.2 T.2.2.1.1 i).len))) Q → Tt (fun K t => cpB (cX vl) z3 (k + 4) 0 (k + 2000 + 1) 0 (nI (tf_code T.2.2.2 T.2.2.1.1 i).len) (fun v => E v K t)) Q := by
            intro E Q H
            unfold cpB
            refine w_ifT (fun j hj => ?_) (w_cpI (a := 0) (b := 0) (n := (tf_code T.2.2.2 T.2.2.1.1 i).len) (kH_4 hk) (tH_1 (kH_one hk)) rfl rfl rfl (by omega) (by omega) H)
            rw [nI_clamp (by omega)] at hj
            rw [show (0 : Int32).toNatClampNeg + j = j from by rw [show (0 : Int32).toNatClampNeg = 0 from by decide]; omega, g2 j hj]
            exact fits64 ⟨_, (tf_code_k hb.1 (show i < 24 by omega)).2 j⟩
          refine cpb (w_ctB (i := 0) (tH_2 (kH_one hk)) rfl (by omega) ?_)
          rw [show vp_nar .byte (nI (tf_code T.2.2.2 T.2.2.1.1 i).len).toInt8.toInt32 = nI (tf_code T.2.2.2 T.2.2.1.1 i).len from (i2b64 ⟨(tf_code T.2.2.2 T.2.2.1.1 i).len, by omega⟩).1, hl]
          refine c2 _ n0 ⟨po_usI_at, Or.inr ⟨rfl, i, hB5 g3, fun j hj => rd_ot (by omega) ?_⟩, fun j => ?_, fr_I2 (fr_R2 f1' (Or.inr ⟨by omega, by omega⟩)) (Or.inr ⟨by omega, by omega⟩)⟩
          · rw [show k + 2001 = k + 2000 + 1 from rfl, usR_at]
            unfold va_cpy
            rw [if_pos (by omega), show 0 + (j - 0) = j by omega]
            exact g2 j (by omega)
          · rw [show (usI (usR z3 (k + 2000 + 1) (va_cpy (z3.2.1 (k + 4)) (z3.2.1 (k + 2000 + 1)) 0 0 n0)) (k + 2000 + 2) 0 (nI n0)).2.1 (k + 2001) j = va_cpy (z3.2.1 (k + 4)) (z3.2.1 (k + 2000 + 1)) 0 0 n0 j from rd_ot (by omega) (by rw [show k + 2001 = k + 2000 + 1 from rfl, usR_at])]
            unfold va_cpy
            by_cases hj : j < n0
            · rw [if_pos (by omega), show 0 + (j - 0) = j by omega, g2 j (by omega)]
              exact fits64 ⟨_, (tf_code_k hb.1 (show i < 24 by omega)).2 j⟩
            · rw [if_neg (by omega)]
              exact f5 j
        · rw [g1]
          refine w_ifT (Int32.le_refl 0) (c2 z3 l0 (hB4 z3 f1' f5 (by rw [f4]; exact s1) f3 g2 g3))
      · rw [if_neg e] at ecv
        rw [← ecv]
        exact c2 z l0 (skip i z l0 hs (fun q => e q.1))
  refine e_X2_encodePart ?_
  refine u_X2_encodePart_0 ?_; unfold cm_X2_encodePart_0
  refine w_cs1 (tc_leastFirstCell (p := p) (P := F) hh hy hT h6) ?_
  rintro r z1 ⟨e1, e2⟩
  dsimp only at e1 e2
  rw [e1, e2]
  refine w_ctB (i := 0) (tH_2 (kH_one hk)) rfl (by omega) ?_
  rw [show vp_nar .byte (0 : Int32) = nI 0 from nar64 (a := 0) (by omega)]
  exact c1 (2 * T.1) 0 _ 0 (by omega) ⟨po_usI_at, Or.inl ⟨rfl, fun w hw => absurd hw (Nat.not_lt_zero _)⟩, fun j => by rw [show (usI y (k + 2000 + 2) 0 (nI 0)).2.1 (k + 2001) j = y.2.1 (k + 2001) j from rd_ot (by omega) rfl]; exact hby j, fr_I (Or.inr ⟨by omega, by omega⟩)⟩
end CE
