section
/-! 99zzzzzd.cenc -/
/-! the class: Coder.encodePart -/
theorem cd_lt_tr {X Y Z : Nat → Nat} {n : Nat} (h1 : cd_lt X Y n) (h2 : cd_lt Y Z n) : cd_lt X Z n := by
  obtain ⟨j, hj, hl, hb⟩ := h1
  obtain ⟨k, hk, hm, hd⟩ := h2
  rcases Nat.lt_trichotomy j k with q | q | q
  · exact ⟨j, hj, by rw [← hd j q]; exact hl, fun i hi => (hb i hi).trans (hd i (Nat.lt_trans hi q))⟩
  · rw [← q] at hm hd
    exact ⟨j, hj, Nat.lt_trans hl hm, fun i hi => (hb i hi).trans (hd i hi)⟩
  · exact ⟨k, hk, by rw [hb k q]; exact hm, fun i hi => (hb i (Nat.lt_trans hi q)).trans (hd i hi)⟩
theorem cd_lt_rf {X : Nat → Nat} {n : Nat} : ¬ cd_lt X X n := fun ⟨_, _, hl, _⟩ => Nat.lt_irrefl _ hl
/-- visits of a part -/
def cntV (F : Nat → Int32) (k : Int32) : Nat → Nat
  | 0 => 0
  | n + 1 => if F n = k then cntV F k n + 1 else cntV F k n
theorem cntV_le (F : Nat → Int32) (k : Int32) : ∀ n, cntV F k n ≤ n := by
  intro n
  induction n with
  | zero => exact Nat.le_refl 0
  | succ n ih =>
    show (if F n = k then cntV F k n + 1 else cntV F k n) ≤ n + 1
    split <;> omega
def tf_k (P : tf_P) : Prop := tf_ok P ∧ ∀ j, P.T j < 64
theorem tf_vis_k {G : Nat → Int32} {P : tf_P} {v : Nat} (h : tf_k P) (hv : v < 24) : tf_k (tf_vis G P v) := by
  refine ⟨tf_vis_ok h.1 hv, fun j => ?_⟩
  show (if j = P.len then tf_cell G P v else P.T j) < 64
  split
  · exact cell64 h.1 hv
  · exact h.2 j
theorem tf_sep_k {P : tf_P} (h : tf_k P) : tf_k (tf_sep P) := by
  refine ⟨tf_sep_ok h.1, fun j => ?_⟩
  show (if j = P.len then 0 else P.T j) < 64
  split
  · omega
  · exact h.2 j
theorem tf_ring_k {G : Nat → Int32} {N : Nat → Nat} {f : Nat} (hN : ∀ v, N v < 24) : ∀ (d v : Nat) (P : tf_P), v < 24 → tf_k P → tf_k (tf_ring G N f d v P)
  | 0, _, _, _, h => h
  | d + 1, v, P, hv, h => by
    rw [tf_ring]
    split
    · exact tf_vis_k h hv
    · exact tf_ring_k hN d _ _ (hN v) (tf_vis_k h hv)
theorem tf_out_k {G : Nat → Int32} {N : Nat → Nat} (hN : ∀ v, N v < 24) : ∀ (d : Nat) (fo : Option Nat) (k : Nat) (P : tf_P), (∀ f, fo = some f → f < 24) → tf_k P → tf_k (tf_out G N d fo k P)
  | 0, _, _, _, _, h => h
  | _ + 1, none, _, _, _, h => h
  | d + 1, some f, k, P, hf, h => by
    have h1 := tf_sep_k (tf_ring_k (G := G) (f := f) hN 24 f P (hf f rfl) h)
    exact tf_out_k hN d _ _ _ (fun f2 e => tf_look_b h1.1.2.2.1 _ _ _ e) h1
theorem tf_code_k {G : Nat → Int32} {N : Nat → Nat} (hN : ∀ v, N v < 24) {v : Nat} (hv : v < 24) : tf_k (tf_code G N v) := tf_out_k hN 24 (some v) 0 tf_0 (fun f e => by cases e; exact hv) ⟨tf_ok_0, fun _ => by show 0 < 64; omega⟩
/-- the row of a code -/
def tfL (P : tf_P) : List Nat := (List.range P.len).map P.T
theorem tfL_at {P : tf_P} {i : Nat} : (tfL P)[i]? = if i < P.len then some (P.T i) else none := by
  unfold tfL
  rw [List.getElem?_map]
  by_cases h : i < P.len
  · rw [List.getElem?_range h, if_pos h]
    rfl
  · rw [List.getElem?_eq_none (by rw [List.length_range]; omega), if_neg h]
    rfl
theorem tfL_len {P : tf_P} : (tfL P).length = P.len := by
  unfold tfL
  rw [List.length_map, List.length_range]
/-- the start w is one of part p's with the least first cell -/
def epS (T : ow_NT) (F : Nat → Int32) (p : Int32) (w : Nat) : Prop := F w = p ∧ cd_first T.2.2.2 w = lfc T.2.2.2 F p (2 * T.1)
/-- v gives the least row of part p among the starts below i -/
def epV (T : ow_NT) (F : Nat → Int32) (p : Int32) (i v : Nat) : Prop := v < i ∧ epS T F p v ∧ ∀ w, w < i → epS T F p w → ¬ cd_lt (tf_code T.2.2.2 T.2.2.1.1 w).T (tf_code T.2.2.2 T.2.2.1.1 v).T (tf_code T.2.2.2 T.2.2.1.1 v).len
/-- what a part's code is -/
def epC (T : ow_NT) (F : Nat → Int32) (p : Int32) (C : cdT) : Prop := C.1 = cntV F p (2 * T.1) / 2 ∧ (((∀ w, w < 2 * T.1 → ¬ epS T F p w) ∧ C.2 = []) ∨ ∃ v, epV T F p (2 * T.1) v ∧ C.2 = tfL (tf_code T.2.2.2 T.2.2.1.1 v))
def epP (k g : Nat) : Prop := k + 4 ≤ g ∧ g ≤ k + 6 ∨ k + 2001 ≤ g ∧ g ≤ k + 2003
theorem div2_c : ∀ v : Fin 25, (2 : Int32) ≠ 0 ∧ vp_nar .byte (nI v.1 / 2).toInt8.toInt32 = nI (v.1 / 2) := by decide +kernel
theorem fits64 : ∀ v : Fin 64, fits .byte (.int (nI v.1)) = true := by decide +kernel
section CE
variable {vl : Nat → Nat} {y : ow_MS} {h k : Nat} {T : ow_NT}
theorem u_X2_encodePart_1 {vl : Nat → Nat} {x2 : Int32} {x3 : Int32} {x4 : Int32} {x5 : Int32} {r0 : Nat} {r1 : Nat} {z : ow_MS} {Q : ow_MS → Prop} (H : Tt (fun K k => cm_X2_encodePart_1 vl K (c_X2_encodePart vl K k) x2 x3 x4 x5 r0 r1 z) Q) : Tt (fun K k => c_X2_encodePart vl K k 1 x2 x3 x4 x5 r0 r1 z) Q := w_un (fun _ _ => rfl) H
theorem u_X2_encodePart_2 {vl : Nat → Nat} {x2 : Int32} {x3 : Int32} {x4 : Int32} {x5 : Int32} {r0 : Nat} {r1 : Nat} {z : ow_MS} {Q : ow_MS → Prop} (H : Tt (fun K k => cm_X2_encodePart_2 vl K (c_X2_encodePart vl K k) x2 x3 x4 x5 r0 r1 z) Q) : Tt (fun K k => c_X2_encodePart vl K k 2 x2 x3 x4 x5 r0 r1 z) Q := w_un (fun _ _ => rfl) H
theorem e_X2_encodePart {vl : Nat → Nat} {r0 : Nat} {r1 : Nat} {x2 : Int32} {z : ow_MS} {Q : ow_MS → Prop} (H : Tt (fun K k => c_X2_encodePart vl K k 0 x2 0 0 0 r0 r1 z) Q) : Te (fun K => ce_X2_encodePart vl K r0 r1 x2 z) Q := w_te H
theorem u_X2_encodePart_0 {vl : Nat → Nat} {x2 : Int32} {x3 : Int32} {x4 : Int32} {x5 : Int32} {r0 : Nat} {r1 : Nat} {z : ow_MS} {Q : ow_MS → Prop} (H : Tt (fun K k => cm_X2_encodePart_0 vl K (c_X2_encodePart vl K k) x2 x3 x4 x5 r0 r1 z) Q) : Tt (fun K k => c_X2_encodePart vl K k 0 x2 x3 x4 x5 r0 r1 z) Q := w_un (fun _ _ => rfl) H
theorem tc_encodePart {p : Int32} {F : Nat → Int32} {n0 : Nat} (hk : kH k) (hh : nH h) (hy : cAt y h T) (hT : T.1 ≤ 12) (hb : ow_b24 T.2.2.1) (h6 : ∀ j, j < 2 * T.1 → y.2.1 (h + 6) j = F j) (h30 : n0 ≤ 30) (hln : ∀ v, v < 2 * T.1 → F v = p → (tf_code T.2.2.2 T.2.2.1.1 v).len = n0) (hby : byR y (k + 2001)) : Te (fun K => ce_X2_encodePart vl K k h p y) (fun y1 => (∃ C, epC T F p C ∧ slC y1 (k + 2000) 0 C ∧ cOK C) ∧ byR y1 (k + 2001) ∧ fr (epP k) y y1) := by
  have hdj := kH_dj hk hh
  let Q : ow_MS → Prop := fun y1 => (∃ C, epC T F p C ∧ slC y1 (k + 2000) 0 C ∧ cOK C) ∧ byR y1 (k + 2001) ∧ fr (epP k) y y1
  have hcA : ∀ z, fr (epP k) y z → cAt z h T := fun z hf => cAt_fr hf (fun g hg hq => by unfold cP at hg; unfold epP at hq; omega) hy
  have h6A : ∀ z, fr (epP k) y z → ∀ j, j < 2 * T.1 → z.2.1 (h + 6) j = F j := by
    intro z hf j hj
    rw [(hf (h + 6) (by unfold epP; omega)).2.1]
    exact h6 j hj
  -- the state at start i: the best row so far
  let S : Nat → ow_MS → Nat → Prop := fun i z l0 => z.2.1 (k + 2002) 0 = nI l0 ∧ ((l0 = 0 ∧ ∀ w, w < i → ¬ epS T F p w) ∨ (l0 = n0 ∧ ∃ v, epV T F p i v ∧ ∀ j, j < n0 → z.2.1 (k + 2001) j = nI ((tf_code T.2.2.2 T.2.2.1.1 v).T j))) ∧ byR z (k + 2001) ∧ fr (epP k) y z
  have skip : ∀ i z l0, S i z l0 → ¬ epS T F p i → S (i + 1) z l0 := by
    intro i z l0 ⟨s1, s2, s3, s4⟩ hn
    refine ⟨s1, ?_, s3, s4⟩
    rcases s2 with ⟨e1, e2⟩ | ⟨e1, v, ⟨e2, e3, e4⟩, e5⟩
    · refine Or.inl ⟨e1, fun w hw => ?_⟩
      by_cases e : w = i
      · rw [e]; exact hn
      · exact e2 w (by omega)
    · refine Or.inr ⟨e1, v, ⟨by omega, e3, fun w hw hs => ?_⟩, e5⟩
      by_cases e : w = i
      · exact absurd (by rw [← e]; exact hs) hn
      · exact e4 w (by omega) hs
  have c1 : ∀ (d i : Nat) (z : ow_MS) (l0 : Nat), i + d = 2 * T.1 → S i z l0 → Tt (fun K t => c_X2_encodePart vl K t 1 p (nI (lfc T.2.2.2 F p (2 * T.1))) (nI (cntV F p i)) (nI i) k h z) Q := by
    intro d
    induction d with
    | zero =>
      intro i z l0 hi hs
      have e : i = 2 * T.1 := by omega
      subst e
      obtain ⟨s1, s2, s3, s4⟩ := hs
      have hcv := cntV_le F p (2 * T.1)
      have hd2 := div2_c ⟨cntV F p (2 * T.1), by omega⟩
      refine u_X2_encodePart_1 ?_; unfold cm_X2_encodePart_1
      refine w_rdF (hcA z s4).1 ?_
      rw [show (2 : Int32) * nI T.1 = nI (2 * T.1) from pk_mul 2 _]
      refine w_leT (by omega) (by omega) (w_nzI (by decide) (w_ctB (i := 0) (tH_3 (kH_one hk)) rfl (by omega) (w_some ?_)))
      rw [hd2.2]
      refine ⟨?_, fun j => ?_, fr_I2 s4 (Or.inr ⟨by omega, by omega⟩)⟩
      · rcases s2 with ⟨e1, e2⟩ | ⟨e1, v, e2, e3⟩
        · refine ⟨(cntV F p (2 * T.1) / 2, []), ⟨rfl, Or.inl ⟨e2, rfl⟩⟩, ⟨po_usI_at, rd_ot (by omega) ?_, fun j a e => by cases e⟩, ⟨by show _ / 2 ≤ 12; omega, by show 0 ≤ 30; omega, fun a e => by cases e⟩⟩
          rw [show k + 2000 + 2 = k + 2002 from rfl, s1, e1]
          rfl
        · have hl := hln v e2.1 e2.2.1.1
          refine ⟨(cntV F p (2 * T.1) / 2, tfL (tf_code T.2.2.2 T.2.2.1.1 v)), ⟨rfl, Or.inr ⟨v, e2, rfl⟩⟩, ⟨po_usI_at, rd_ot (by omega) ?_, fun j a e => rd_ot (by omega) ?_⟩, ⟨by show _ / 2 ≤ 12; omega, by show (tfL _).length ≤ 30; rw [tfL_len]; omega, fun a e => ?_⟩⟩
          · rw [show k + 2000 + 2 = k + 2002 from rfl, s1, e1]
            show nI n0 = nI (tfL _).length
            rw [tfL_len, hl]
          · have e' : (tfL (tf_code T.2.2.2 T.2.2.1.1 v))[j]? = some a := e
            rw [tfL_at] at e'
            by_cases hj : j < (tf_code T.2.2.2 T.2.2.1.1 v).len
            · rw [if_pos hj] at e'
              cases e'
              rw [show 30 * 0 + j = j by omega]
              exact e3 j (by omega)
            · rw [if_neg hj] at e'
              cases e'
          · have e' : a ∈ (List.range (tf_code T.2.2.2 T.2.2.1.1 v).len).map (tf_code T.2.2.2 T.2.2.1.1 v).T := e
            obtain ⟨j, _, e6⟩ := List.mem_map.mp e'
            have hv1 := e2.1
            rw [← e6]
            exact (tf_code_k hb.1 (by omega)).2 j
      · rw [show (usI z (k + 2000 + 3) 0 (nI (cntV F p (2 * T.1) / 2))).2.1 (k + 2001) j = z.2.1 (k + 2001) j from rd_ot (by omega) rfl]
        exact s3 j
    | succ d ih =>
      intro i z l0 hi hs
      have hcv := cntV_le F p i
      have c2 : ∀ (z2 : ow_MS) (l2 : Nat), S (i + 1) z2 l2 → Tt (fun K t => c_X2_encodePart vl K t 2 p (nI (lfc T.2.2.2 F p (2 * T.1))) (nI (cntV F p (i + 1))) (nI i) k h z2) Q := by
        intro z2 l2 hs2
        refine u_X2_encodePart_2 ?_; unfold cm_X2_encodePart_2
        rw [nI_1]
        exact ih (i + 1) z2 l2 (by omega) hs2
      have ecv : cntV F p (i + 1) = if F i = p then cntV F p i + 1 else cntV F p i := rfl
      refine u_X2_encodePart_1 ?_; unfold cm_X2_encodePart_1
      refine w_rdF (hcA z hs.2.2.2).1 ?_
      rw [show (2 : Int32) * nI T.1 = nI (2 * T.1) from pk_mul 2 _, nI_1]
      refine w_leF (by omega) (by omega) (w_crI (nH_6 hh) rfl (show i < 24 by omega) (h6A z hs.2.2.2 i (by omega)) (w_if (fun e => ?_) (fun e => ?_)))
      · rw [if_pos e] at ecv
        rw [← ecv]
        refine w_cs1 (tc_firstCell hh (hcA z hs.2.2.2) (show i < 24 by omega)) ?_
        rintro r z1 ⟨e1, e2⟩
        dsimp only at e1 e2
        rw [e1, e2]
        have b1 := lfc_b (G := T.2.2.2) (P := F) (p := p) (2 * T.1)
        have b2 := first_b (G := T.2.2.2) (v := i)
        refine w_eqN (by omega) (by omega) (fun e3 => ?_) (fun e3 => c2 z l0 (skip i z l0 hs (fun q => e3 q.2)))
        have hS : epS T F p i := ⟨e, e3⟩
        have hl := hln i (by omega) e
        obtain ⟨s1, s2, s3, s4⟩ := hs
        have hcall : ∃ B : Nat → Nat, (∀ j, B j < 64) ∧ (∀ j, j < l0 → z.2.1 (k + 2001) j = nI (B j)) ∧ (l0 = 0 ∨ l0 = n0) ∧ (∀ z2 : ow_MS, fr (epP k) y z2 → byR z2 (k + 2001) → z2.2.1 (k + 2002) 0 = nI l0 → z2.2.1 (k + 2001) = z.2.1 (k + 2001) → 0 < l0 → ¬ cd_lt (tf_code T.2.2.2 T.2.2.1.1 i).T B (tf_code T.2.2.2 T.2.2.1.1 i).len → S (i + 1) z2 l0) ∧ (l0 = 0 ∨ cd_lt (tf_code T.2.2.2 T.2.2.1.1 i).T B (tf_code T.2.2.2 T.2.2.1.1 i).len → epV T F p (i + 1) i) := by
          rcases s2 with ⟨e4, e5⟩ | ⟨e4, v, ⟨e5, e6, e7⟩, e8⟩
          · refine ⟨fun _ => 0, fun _ => by show 0 < 64; omega, fun j hj => absurd hj (by omega), Or.inl e4, fun z2 _ _ _ _ h0 _ => absurd h0 (by omega), fun _ => ⟨by omega, hS, fun w hw hw2 => ?_⟩⟩
            by_cases e9 : w = i
            · rw [e9]; exact cd_lt_rf
            · exact absurd hw2 (e5 w (by omega))
          · have hlv := hln v (by omega) e6.1
            refine ⟨(tf_code T.2.2.2 T.2.2.1.1 v).T, (tf_code_k hb.1 (by omega)).2, fun j hj => e8 j (by omega), Or.inr e4, fun z2 f1 f2 f3 f4 _ hn => ⟨f3, Or.inr ⟨e4, v, ⟨by omega, e6, fun w hw hw2 => ?_⟩, fun j hj => by rw [f4]; exact e8 j hj⟩, f2, f1⟩, fun hd => ⟨by omega, hS, fun w hw hw2 hlt => ?_⟩⟩
            · by_cases e9 : w = i
              · rw [e9, hlv, ← hl]; exact hn
              · exact e7 w (by omega) hw2
            · have h0 : 0 < (tf_code T.2.2.2 T.2.2.1.1 v).len := tf_code_pos _ _ _
              have hd2 : cd_lt (tf_code T.2.2.2 T.2.2.1.1 i).T (tf_code T.2.2.2 T.2.2.1.1 v).T (tf_code T.2.2.2 T.2.2.1.1 i).len := by
                rcases hd with hd | hd
                · omega
                · exact hd
              by_cases e9 : w = i
              · rw [e9] at hlt
                exact cd_lt_rf hlt
              · refine e7 w (by omega) hw2 ?_
                rw [hlv, ← hl]
                exact cd_lt_tr hlt hd2
        obtain ⟨B, hB1, hB2, hB3, hB4, hB5⟩ := hcall
        refine w_cs1 (tc_tryFrom (B := B) (l0 := l0) hk hh (hcA z s4) hb (show i < 24 by omega) (by omega) (by omega) s1 (by omega) hB2 hB1) ?_
        rintro r3 z3 ⟨f1, f2⟩
        have f1' : fr (epP k) y z3 := fr_tr s4 (fr_mono (fun g hg => Or.inl hg) f1)
        have f3 : z3.2.1 (k + 2001) = z.2.1 (k + 2001) := (f1 (k + 2001) (by unfold tfP; omega)).2.1
        have f4 : z3.2.1 (k + 2002) = z.2.1 (k + 2002) := (f1 (k + 2002) (by unfold tfP; omega)).2.1
        have f5 : byR z3 (k + 2001) := by
          intro j
          rw [f3]
          exact s3 j
        dsimp only at f2
        rcases f2 with ⟨g1, g2, g3⟩ | ⟨g1, g2, g3⟩
        · rw [g1]
          have hpos : 0 < (tf_code T.2.2.2 T.2.2.1.1 i).len := tf_code_pos _ _ _
          refine w_leF (b := 0) (by omega) (by omega) (w_ltF (a := 30) (by omega) (by omega) ?_)
          have cpb : ∀ {E : ow_MS → Nat → Nat → Option ow_MS} {Q : ow_MS → Prop}, Tt (E (usR z3 (k + 2000 + 1) (va_cpy (z3.2.1 (k + 4)) (z3.2.1 (k + 2000 + 1)) 0 0 (tf_code T.2.2.2 T.2.2.1.1 i).len))) Q → Tt (fun K t => cpB (cX vl) z3 (k + 4) 0 (k + 2000 + 1) 0 (nI (tf_code T.2.2.2 T.2.2.1.1 i).len) (fun v => E v K t)) Q := by
            intro E Q H
            unfold cpB
            refine w_ifT (fun j hj => ?_) (w_cpI (a := 0) (b := 0) (n := (tf_code T.2.2.2 T.2.2.1.1 i).len) (kH_4 hk) (tH_1 (kH_one hk)) rfl rfl rfl (by omega) (by omega) H)
            rw [nI_clamp (by omega)] at hj
            rw [show (0 : Int32).toNatClampNeg + j = j from by rw [show (0 : Int32).toNatClampNeg = 0 from by decide]; omega, g2 j hj]
            exact fits64 ⟨_, (tf_code_k hb.1 (show i < 24 by omega)).2 j⟩
          refine cpb (w_ctB (i := 0) (tH_2 (kH_one hk)) rfl (by omega) ?_)
          rw [show vp_nar .byte (nI (tf_code T.2.2.2 T.2.2.1.1 i).len).toInt8.toInt32 = nI (tf_code T.2.2.2 T.2.2.1.1 i).len from (i2b64 ⟨(tf_code T.2.2.2 T.2.2.1.1 i).len, by omega⟩).1, hl]
          refine c2 _ n0 ⟨po_usI_at, Or.inr ⟨rfl, i, hB5 g3, fun j hj => rd_ot (by omega) ?_⟩, fun j => ?_, fr_I2 (fr_R2 f1' (Or.inr ⟨by omega, by omega⟩)) (Or.inr ⟨by omega, by omega⟩)⟩
          · rw [show k + 2001 = k + 2000 + 1 from rfl, usR_at]
            unfold va_cpy
            rw [if_pos (by omega), show 0 + (j - 0) = j by omega]
            exact g2 j (by omega)
          · rw [show (usI (usR z3 (k + 2000 + 1) (va_cpy (z3.2.1 (k + 4)) (z3.2.1 (k + 2000 + 1)) 0 0 n0)) (k + 2000 + 2) 0 (nI n0)).2.1 (k + 2001) j = va_cpy (z3.2.1 (k + 4)) (z3.2.1 (k + 2000 + 1)) 0 0 n0 j from rd_ot (by omega) (by rw [show k + 2001 = k + 2000 + 1 from rfl, usR_at])]
            unfold va_cpy
            by_cases hj : j < n0
            · rw [if_pos (by omega), show 0 + (j - 0) = j by omega, g2 j (by omega)]
              exact fits64 ⟨_, (tf_code_k hb.1 (show i < 24 by omega)).2 j⟩
            · rw [if_neg (by omega)]
              exact f5 j
        · rw [g1]
          refine w_ifT (Int32.le_refl 0) (c2 z3 l0 (hB4 z3 f1' f5 (by rw [f4]; exact s1) f3 g2 g3))
      · rw [if_neg e] at ecv
        rw [← ecv]
        exact c2 z l0 (skip i z l0 hs (fun q => e q.1))
  refine e_X2_encodePart ?_
  refine u_X2_encodePart_0 ?_; unfold cm_X2_encodePart_0
  refine w_cs1 (tc_leastFirstCell (p := p) (P := F) hh hy hT h6) ?_
  rintro r z1 ⟨e1, e2⟩
  dsimp only at e1 e2
  rw [e1, e2]
  refine w_ctB (i := 0) (tH_2 (kH_one hk)) rfl (by omega) ?_
  rw [show vp_nar .byte (0 : Int32) = nI 0 from nar64 (a := 0) (by omega)]
  exact c1 (2 * T.1) 0 _ 0 (by omega) ⟨po_usI_at, Or.inl ⟨rfl, fun w hw => absurd hw (Nat.not_lt_zero _)⟩, fun j => by rw [show (usI y (k + 2000 + 2) 0 (nI 0)).2.1 (k + 2001) j = y.2.1 (k + 2001) j from rd_ot (by omega) rfl]; exact hby j, fr_I (Or.inr ⟨by omega, by omega⟩)⟩
end CE
end
section
/-! 99zzzzze.cprt -/
/-! parts: the marks of one part are just the visits that reach one another -/
def bq (c : Nat) (S : ow_NP) (k : Nat) (F0 : Nat → Int32) (i : Nat) (t : ow_PQ) : Prop := (∀ v, v < 2 * c → t.1 v = F0 v ∨ (t.1 v = nI k ∧ F0 v = -1)) ∧ (∀ v, v < 2 * c → t.1 v = nI k → ∃ j, j < t.2.2 ∧ t.2.1 j = v) ∧ (∀ j, j < t.2.2 → F0 (t.2.1 j) = -1) ∧ (∀ j, j < i → ¬ t.1 (S.1 (t.2.1 j)) = -1 ∧ ¬ t.1 (mt (t.2.1 j)) = -1) ∧ mp_ok (2 * c) t ∧ i ≤ t.2.2
theorem mp_add_keep {k : Nat} (hk : k < 2 ^ 31) {t : ow_PQ} {v w : Nat} (h : ¬ t.1 w = -1) : ¬ (mp_add (nI k) t v).1 w = -1 := by
  unfold mp_add
  split
  · show ¬ (if w = v then nI k else t.1 w) = -1
    split
    · exact nI_nm1 hk
    · exact h
  · exact h
theorem mp_add_own {k : Nat} (hk : k < 2 ^ 31) {t : ow_PQ} {v : Nat} : ¬ (mp_add (nI k) t v).1 v = -1 := by
  unfold mp_add
  split
  · show ¬ (if v = v then nI k else t.1 v) = -1
    rw [if_pos rfl]
    exact nI_nm1 hk
  · rename_i h
    exact h
theorem mp_add_q {k : Nat} {t : ow_PQ} {v j : Nat} (hj : j < t.2.2) : (mp_add (nI k) t v).2.1 j = t.2.1 j := by
  unfold mp_add
  split
  · exact nu_ne _ _ (by omega)
  · rfl
theorem mp_add_n {k : Nat} {t : ow_PQ} {v : Nat} : t.2.2 ≤ (mp_add (nI k) t v).2.2 := by
  unfold mp_add
  split
  · exact Nat.le_succ _
  · exact Nat.le_refl _
theorem mp_add_bq {c : Nat} {S : ow_NP} {k : Nat} (hk : k < 2 ^ 31) {F0 : Nat → Int32} {i v : Nat} {t : ow_PQ} (h : bq c S k F0 i t) (hv : v < 2 * c) (hF : F0 v = -1) : bq c S k F0 i (mp_add (nI k) t v) := by
  obtain ⟨a1, a2, a3, a4, a5, a6⟩ := h
  refine ⟨fun w hw => ?_, fun w hw e => ?_, fun j hj => ?_, fun j hj => ?_, mp_add_ok hk a5 hv, Nat.le_trans a6 mp_add_n⟩
  · unfold mp_add
    split
    · show (if w = v then nI k else t.1 w) = F0 w ∨ ((if w = v then nI k else t.1 w) = nI k ∧ F0 w = -1)
      by_cases e : w = v
      · rw [if_pos e, e]
        exact Or.inr ⟨rfl, hF⟩
      · rw [if_neg e]
        exact a1 w hw
    · exact a1 w hw
  · unfold mp_add at e ⊢
    split at e
    · rename_i h9
      rw [if_pos h9]
      by_cases e1 : w = v
      · refine ⟨t.2.2, Nat.lt_succ_self _, ?_⟩
        rw [e1]
        exact nu_same _ _ _
      · have e2 : (if w = v then nI k else t.1 w) = nI k := e
        rw [if_neg e1] at e2
        obtain ⟨j, hj, ej⟩ := a2 w hw e2
        exact ⟨j, Nat.lt_succ_of_lt hj, (nu_ne _ _ (by omega)).trans ej⟩
    · rename_i h9
      rw [if_neg h9]
      exact a2 w hw e
  · unfold mp_add at hj ⊢
    split at hj
    · rename_i h9
      rw [if_pos h9]
      have hj' : j < t.2.2 + 1 := hj
      show F0 (nu t.2.1 t.2.2 v j) = -1
      by_cases e : j = t.2.2
      · rw [e, nu_same]
        exact hF
      · rw [nu_ne _ _ e]
        exact a3 j (by omega)
    · rename_i h9
      rw [if_neg h9]
      exact a3 j hj
  · rw [mp_add_q (show j < t.2.2 by omega)]
    exact ⟨mp_add_keep hk (a4 j hj).1, mp_add_keep hk (a4 j hj).2⟩
/-- the marks are closed: visits behind and at the crossing have the mark -/
def clF (c : Nat) (S : ow_NP) (F : Nat → Int32) : Prop := ∀ j, j < 2 * c → F (S.1 j) = F j ∧ F (mt j) = F j
theorem mp_bfs_bq {c : Nat} {S : ow_NP} (hv : vn c S) {k : Nat} (hk : k < 2 ^ 31) {F0 : Nat → Int32} (h0 : clF c S F0) : ∀ (d i : Nat) (t : ow_PQ), bq c S k F0 i t → 2 * c ≤ i + d → ∃ i2, bq c S k F0 i2 (mp_bfs S.1 (nI k) d i t) ∧ (mp_bfs S.1 (nI k) d i t).2.2 ≤ i2 := by
  intro d
  induction d with
  | zero =>
    intro i t h hd
    have := h.2.2.2.2.1.2
    refine ⟨i, h, ?_⟩
    show t.2.2 ≤ i
    omega
  | succ d ih =>
    intro i t h hd
    rw [mp_bfs]
    by_cases hi : i < t.2.2
    · rw [if_pos hi]
      have hq : t.2.1 i < 2 * c := h.2.2.2.2.1.1 i hi
      have hF := h.2.2.1 i hi
      have hc := h0 _ hq
      have b1 := mp_add_bq hk h (hv _ hq).1 (hc.1.trans hF)
      have b2 := mp_add_bq hk b1 (mt_lt hq) (hc.2.trans hF)
      refine ih (i + 1) _ ⟨b2.1, b2.2.1, b2.2.2.1, fun j hj => ?_, b2.2.2.2.2.1, ?_⟩ (by omega)
      · by_cases e : j = i
        · have hi2 : i < (mp_add (nI k) t (S.1 (t.2.1 i))).2.2 := Nat.lt_of_lt_of_le hi mp_add_n
          rw [e, mp_add_q hi2, mp_add_q hi]
          exact ⟨mp_add_keep hk (mp_add_own hk), mp_add_own hk⟩
        · exact b2.2.2.2.1 j (by omega)
      · exact Nat.lt_of_lt_of_le hi (Nat.le_trans mp_add_n mp_add_n)
    · rw [if_neg hi]
      exact ⟨i, h, by omega⟩
theorem nI_inj9 {a b : Nat} (ha : a < 2 ^ 31) (hb : b < 2 ^ 31) (e : nI a = nI b) : a = b := (nI_eq ha hb).mp e
/-- the marks while parts are marked -/
def mpI (c : Nat) (S : ow_NP) (n : Nat) (t : (Nat → Int32) × Nat) : Prop := clF c S t.1 ∧ (∀ v, v < 2 * c → t.1 v = -1 ∨ ∃ r, r < t.2 ∧ t.1 v = nI r) ∧ (∀ r, r < t.2 → ∃ v, v < 2 * c ∧ t.1 v = nI r) ∧ (∀ v, v < n → v < 2 * c → ¬ t.1 v = -1) ∧ t.2 ≤ n
theorem mp_out_I {c : Nat} {S : ow_NP} (hv : vn c S) (hc : c ≤ 12) : ∀ n, n ≤ 2 * c → mpI c S n (mp_out S.1 (2 * c) (fun _ => -1) n) := by
  intro n
  induction n with
  | zero => exact fun _ => ⟨fun j _ => ⟨rfl, rfl⟩, fun _ _ => Or.inl rfl, fun r hr => absurd hr (Nat.not_lt_zero _), fun v hv _ => absurd hv (Nat.not_lt_zero _), Nat.le_refl _⟩
  | succ n ih =>
    intro hn
    have hi := ih (by omega)
    rw [mp_out]
    generalize mp_out S.1 (2 * c) (fun _ => -1) n = t at hi
    obtain ⟨i1, i2, i3, i4, i5⟩ := hi
    by_cases e : t.1 n = -1
    · rw [if_pos e]
      have hk : t.2 < 2 ^ 31 := by omega
      have hnw : ∀ v, v < 2 * c → ¬ t.1 v = nI t.2 := by
        intro v hv2 e1
        rcases i2 v hv2 with h9 | ⟨r, hr, h9⟩
        · exact nI_nm1 hk (e1.symm.trans h9)
        · have := nI_inj9 (by omega) (by omega) (e1.symm.trans h9)
          omega
      have b0 : bq c S t.2 t.1 0 (su t.1 n (nI t.2), (fun _ => n), 1) := by
        refine ⟨fun v hv2 => ?_, fun v hv2 e1 => ⟨0, Nat.one_pos, ?_⟩, fun j _ => e, fun j hj => absurd hj (Nat.not_lt_zero _), ⟨fun _ _ => by show n < 2 * c; omega, ?_⟩, Nat.zero_le _⟩
        · show (if v = n then nI t.2 else t.1 v) = t.1 v ∨ ((if v = n then nI t.2 else t.1 v) = nI t.2 ∧ t.1 v = -1)
          by_cases e1 : v = n
          · rw [if_pos e1, e1]
            exact Or.inr ⟨rfl, e⟩
          · rw [if_neg e1]
            exact Or.inl rfl
        · show n = v
          have e2 : (if v = n then nI t.2 else t.1 v) = nI t.2 := e1
          by_cases e3 : v = n
          · exact e3.symm
          · rw [if_neg e3] at e2
            exact absurd e2 (hnw v hv2)
        · have h1 := cntU_su (x := nI t.2) e (nI_nm1 hk) (2 * c) (by omega)
          have h2 := cntU_le t.1 (2 * c)
          show 1 + cntU (su t.1 n (nI t.2)) (2 * c) ≤ 2 * c
          omega
      obtain ⟨m, hm, hm2⟩ := mp_bfs_bq hv hk i1 (2 * c) 0 _ b0 (by omega)
      have hkeepn : ∀ (d i : Nat) (u : ow_PQ), ¬ u.1 n = -1 → ¬ (mp_bfs S.1 (nI t.2) d i u).1 n = -1 := by
        intro d
        induction d with
        | zero => exact fun _ _ h => h
        | succ d ih2 =>
          intro i u h
          rw [mp_bfs]
          split
          · exact ih2 _ _ (mp_add_keep hk (mp_add_keep hk h))
          · exact h
      have hn1 : ¬ (mp_bfs S.1 (nI t.2) (2 * c) 0 (su t.1 n (nI t.2), (fun _ => n), 1)).1 n = -1 := hkeepn _ _ _ (by
        show ¬ (if n = n then nI t.2 else t.1 n) = -1
        rw [if_pos rfl]
        exact nI_nm1 hk)
      generalize mp_bfs S.1 (nI t.2) (2 * c) 0 (su t.1 n (nI t.2), (fun _ => n), 1) = u at hm hm2 hn1
      obtain ⟨m1, m2, m3, m4, m5, m6⟩ := hm
      have hn2 : u.1 n = nI t.2 := by
        rcases m1 n (by omega) with h9 | h9
        · exact absurd (h9.trans e) hn1
        · exact h9.1
      -- the new mark is closed
      have hcl : ∀ j, j < 2 * c → u.1 j = nI t.2 → u.1 (S.1 j) = nI t.2 ∧ u.1 (mt j) = nI t.2 := by
        intro j hj ej
        obtain ⟨q, hq, eq⟩ := m2 j hj ej
        have h4 := m4 q (by omega)
        have h3 := m3 q hq
        rw [eq] at h4 h3
        have hcj := i1 j hj
        constructor
        · rcases m1 (S.1 j) (hv j hj).1 with h9 | h9
          · exact absurd (h9.trans (hcj.1.trans h3)) h4.1
          · exact h9.1
        · rcases m1 (mt j) (mt_lt hj) with h9 | h9
          · exact absurd (h9.trans (hcj.2.trans h3)) h4.2
          · exact h9.1
      have hback : ∀ j, j < 2 * c → u.1 (S.1 j) = nI t.2 → u.1 j = nI t.2 := by
        intro j hj ej
        exact rch_back hv hj (fun q => u.1 q = nI t.2) ej (fun q hq e1 => (hcl q hq e1).1) (fun q hq e1 => (hcl q hq e1).2)
      have hmt : ∀ j, mt (mt j) = j := fun j => mt_mt j
      refine ⟨fun j hj => ?_, fun v hv2 => ?_, fun r hr => ?_, fun v hv1 hv2 => ?_, ?_⟩
      · by_cases ej : u.1 j = nI t.2
        · rw [(hcl j hj ej).1, (hcl j hj ej).2]
          exact ⟨ej.symm, ej.symm⟩
        · have ej0 : u.1 j = t.1 j := by
            rcases m1 j hj with h9 | h9
            · exact h9
            · exact absurd h9.1 ej
          constructor
          · rcases m1 (S.1 j) (hv j hj).1 with h9 | h9
            · rw [h9, ej0]
              exact (i1 j hj).1
            · exact absurd (hback j hj h9.1) ej
          · rcases m1 (mt j) (mt_lt hj) with h9 | h9
            · rw [h9, ej0]
              exact (i1 j hj).2
            · have := (hcl (mt j) (mt_lt hj) h9.1).2
              rw [hmt] at this
              exact absurd this ej
      · show u.1 v = -1 ∨ ∃ r, r < t.2 + 1 ∧ u.1 v = nI r
        rcases m1 v hv2 with h9 | h9
        · rw [h9]
          rcases i2 v hv2 with h8 | ⟨r, hr, h8⟩
          · exact Or.inl h8
          · exact Or.inr ⟨r, by omega, h8⟩
        · exact Or.inr ⟨t.2, by omega, h9.1⟩
      · have hr' : r < t.2 + 1 := hr
        show ∃ v, v < 2 * c ∧ u.1 v = nI r
        by_cases e1 : r = t.2
        · exact ⟨n, by omega, by rw [e1]; exact hn2⟩
        · obtain ⟨v, hv2, ev⟩ := i3 r (by omega)
          refine ⟨v, hv2, ?_⟩
          rcases m1 v hv2 with h9 | h9
          · rw [h9, ev]
          · exact absurd (ev.symm.trans h9.2) (nI_nm1 (by omega))
      · show ¬ u.1 v = -1
        by_cases e1 : v = n
        · rw [e1]; exact hn1
        · have h8 := i4 v (by omega) hv2
          rcases m1 v hv2 with h9 | h9
          · rw [h9]; exact h8
          · exact absurd h9.2 h8
      · show t.2 + 1 ≤ n + 1
        omega
    · rw [if_neg e]
      refine ⟨i1, i2, i3, fun v hv1 hv2 => ?_, by omega⟩
      by_cases e1 : v = n
      · rw [e1]; exact e
      · exact i4 v (by omega) hv2
/-- what the marks of a valid net's parts are -/
theorem parts_I {c : Nat} {S : ow_NP} (hv : vn c S) (hc : c ≤ 12) : clF c S (np_parts c S.1).1 ∧ (∀ v, v < 2 * c → ∃ r, r < (np_parts c S.1).2 ∧ (np_parts c S.1).1 v = nI r) ∧ (∀ r, r < (np_parts c S.1).2 → ∃ v, v < 2 * c ∧ (np_parts c S.1).1 v = nI r) ∧ (np_parts c S.1).2 ≤ 2 * c := by
  obtain ⟨i1, i2, i3, i4, i5⟩ := mp_out_I hv hc (2 * c) (Nat.le_refl _)
  refine ⟨i1, fun v hv2 => ?_, i3, i5⟩
  rcases i2 v hv2 with h9 | h9
  · exact absurd h9 (i4 v hv2 hv2)
  · exact h9
theorem parts_iff {c : Nat} {S : ow_NP} (hv : vn c S) (hc : c ≤ 12) {v w : Nat} (h1 : v < 2 * c) (h2 : w < 2 * c) : (np_parts c S.1).1 v = (np_parts c S.1).1 w ↔ rch c S v w := by
  refine ⟨np_parts_rch hv hc h1 h2, fun h => ?_⟩
  have hcl := (parts_I hv hc).1
  exact h (fun k => (np_parts c S.1).1 v = (np_parts c S.1).1 k) rfl (fun j hj e => e.trans (hcl j hj).1.symm) (fun j hj e => e.trans (hcl j hj).2.symm)
/-- sums over a list of numbers -/
def smN (f : Nat → Nat) : Nat → Nat
  | 0 => 0
  | n + 1 => smN f n + f n
theorem smN_0 {f : Nat → Nat} : ∀ n, (∀ r, r < n → f r = 0) → smN f n = 0
  | 0, _ => rfl
  | n + 1, h => by
    show smN f n + f n = 0
    rw [smN_0 n (fun r hr => h r (by omega)), h n (by omega)]
theorem smN_add {f g : Nat → Nat} : ∀ n, smN (fun r => f r + g r) n = smN f n + smN g n
  | 0 => rfl
  | n + 1 => by
    show smN (fun r => f r + g r) n + (f n + g n) = smN f n + f n + (smN g n + g n)
    rw [smN_add n]
    omega
theorem smN_cg {f g : Nat → Nat} : ∀ n, (∀ r, r < n → f r = g r) → smN f n = smN g n
  | 0, _ => rfl
  | n + 1, h => by
    show smN f n + f n = smN g n + g n
    rw [smN_cg n (fun r hr => h r (by omega)), h n (by omega)]
theorem smN_one {m : Nat} : ∀ n, m < n → smN (fun r => if r = m then 1 else 0) n = 1
  | 0, h => absurd h (Nat.not_lt_zero _)
  | n + 1, h => by
    show smN (fun r => if r = m then 1 else 0) n + (if n = m then 1 else 0) = 1
    by_cases e : n = m
    · rw [if_pos e, smN_0 n (fun r hr => if_neg (by omega))]
    · rw [if_neg e, smN_one n (by omega)]
/-- visits counted part by part -/
theorem cnt_parts {F : Nat → Int32} {q : Nat → Bool} {P : Nat} (hP : P < 2 ^ 31) : ∀ n, (∀ v, v < n → ∃ r, r < P ∧ F v = nI r) → smN (fun r => cntB (fun v => decide (F v = nI r) && q v) n) P = cntB q n
  | 0, _ => smN_0 P (fun _ _ => rfl)
  | n + 1, h => by
    obtain ⟨m, hm, em⟩ := h n (by omega)
    have e : ∀ r, r < P → cntB (fun v => decide (F v = nI r) && q v) (n + 1) = cntB (fun v => decide (F v = nI r) && q v) n + (if q n = true then (if r = m then 1 else 0) else 0) := by
      intro r hr
      show cntB (fun v => decide (F v = nI r) && q v) n + (if (decide (F n = nI r) && q n) = true then 1 else 0) = _
      congr 1
      rw [em]
      by_cases e1 : r = m
      · rw [e1]
        by_cases e2 : q n = true
        · rw [if_pos e2, if_pos rfl, if_pos (by rw [e2, decide_eq_true rfl]; rfl)]
        · rw [if_neg e2, if_neg (by intro e3; exact e2 ((Bool.and_eq_true _ _).mp e3).2)]
      · rw [if_neg e1, ite_self, if_neg]
        intro e3
        exact e1 (nI_inj9 (by omega) (by omega) (of_decide_eq_true ((Bool.and_eq_true _ _).mp e3).1)).symm
    rw [smN_cg P e, smN_add, cnt_parts hP n (fun v hv => h v (by omega))]
    show cntB q n + _ = cntB q n + (if q n = true then 1 else 0)
    congr 1
    by_cases e2 : q n = true
    · rw [if_pos e2]
      exact (smN_cg P (fun r _ => by rw [if_pos e2])).trans (smN_one P hm)
    · rw [if_neg e2]
      exact smN_0 P (fun r _ => by rw [if_neg e2])
/-- the length of the code from a visit of part r -/
def ptL (c : Nat) (S : ow_NP) (r : Nat) : Nat := cntB (fun v => decide ((np_parts c S.1).1 v = nI r) && true) (2 * c) + cntB (fun v => decide ((np_parts c S.1).1 v = nI r) && lst S.1 v 24) (2 * c)
theorem ptL_sum {c : Nat} {S : ow_NP} (hv : vn c S) (hc : c ≤ 12) : smN (ptL c S) (np_parts c S.1).2 = 2 * c + np_rg c S := by
  obtain ⟨i1, i2, i3, i4⟩ := parts_I hv hc
  have h1 := cnt_parts (F := (np_parts c S.1).1) (q := fun _ => true) (P := (np_parts c S.1).2) (by omega) (2 * c) i2
  have h2 := cnt_parts (F := (np_parts c S.1).1) (q := fun v => lst S.1 v 24) (P := (np_parts c S.1).2) (by omega) (2 * c) i2
  have h3 : ∀ n, cntB (fun _ => true) n = n := by
    intro n
    induction n with
    | zero => rfl
    | succ n ih =>
      show cntB (fun _ => true) n + 1 = n + 1
      rw [ih]
  show smN (fun r => cntB (fun v => decide ((np_parts c S.1).1 v = nI r) && true) (2 * c) + cntB (fun v => decide ((np_parts c S.1).1 v = nI r) && lst S.1 v 24) (2 * c)) (np_parts c S.1).2 = _
  rw [smN_add, h1, h2, h3]
  rfl
theorem tf_len_pt {c : Nat} {S : ow_NP} (G : Nat → Int32) (hv : vn c S) (hc : c ≤ 12) {v r : Nat} (h1 : v < 2 * c) (e : (np_parts c S.1).1 v = nI r) : (tf_code G S.1 v).len = ptL c S r := by
  obtain ⟨a1, a2⟩ := tf_code_iv G hv hc h1
  rw [a1.2.2.2]
  have key : ∀ k, k < 2 * c → gnB (tf_code G S.1 v).gone k = decide ((np_parts c S.1).1 k = nI r) := by
    intro k hk
    have h3 : o_gn (tf_code G S.1 v).gone k ↔ (np_parts c S.1).1 k = nI r := by
      rw [a2 k, ← parts_iff hv hc h1 hk, e]
      exact eq_comm
    unfold gnB
    exact decide_eq_decide.mpr h3
  unfold ptL
  refine congr (congrArg _ (cntB_cg _ (fun k hk => ?_))) (cntB_cg _ (fun k hk => ?_))
  · rw [key k hk, Bool.and_true]
  · rw [key k hk]
end
section
/-! 99zzzzzf.cenc2 -/
/-! the class: Coder.collectParts, encode -/
theorem lexD_sym : ∀ (A B : List Nat), lexD A B = - lexD B A
  | [], [] => rfl
  | [], b :: B => rfl
  | a :: A, [] => by
    show ((a :: A).length : Int) = - - ((a :: A).length : Int)
    omega
  | a :: A, b :: B => by
    show (if a = b then lexD A B else (a : Int) - b) = - (if b = a then lexD B A else (b : Int) - a)
    by_cases e : a = b
    · rw [if_pos e, if_pos e.symm]
      exact lexD_sym A B
    · rw [if_neg e, if_neg (fun h => e h.symm)]
      omega
theorem lexD_tr : ∀ (A B C : List Nat), lexD A B ≤ 0 → lexD B C ≤ 0 → lexD A C ≤ 0
  | [], _, C => fun _ _ => by
    show - (C.length : Int) ≤ 0
    omega
  | a :: A, [], C => fun h _ => by
    have h1 : ((a :: A).length : Int) ≤ 0 := h
    rw [List.length_cons] at h1
    omega
  | a :: A, b :: B, [] => fun _ h => by
    have h1 : ((b :: B).length : Int) ≤ 0 := h
    rw [List.length_cons] at h1
    omega
  | a :: A, b :: B, c :: C => fun h1 h2 => by
    have h1' : (if a = b then lexD A B else (a : Int) - b) ≤ 0 := h1
    have h2' : (if b = c then lexD B C else (b : Int) - c) ≤ 0 := h2
    show (if a = c then lexD A C else (a : Int) - c) ≤ 0
    by_cases e1 : a = b
    · rw [if_pos e1] at h1'
      by_cases e2 : b = c
      · rw [if_pos e2] at h2'
        rw [if_pos (e1.trans e2)]
        exact lexD_tr A B C h1' h2'
      · rw [if_neg e2] at h2'
        rw [if_neg (by omega)]
        omega
    · rw [if_neg e1] at h1'
      by_cases e2 : b = c
      · rw [if_neg (by omega)]
        omega
      · rw [if_neg e2] at h2'
        rw [if_neg (by omega)]
        omega
theorem cmpC_sym {A B : cdT} : cmpC A B = - cmpC B A := by
  unfold cmpC
  by_cases e : A.1 = B.1
  · rw [if_pos e, if_pos e.symm]
    exact lexD_sym _ _
  · rw [if_neg e, if_neg (fun h => e h.symm)]
    omega
theorem cmpC_tr {A B C : cdT} (h1 : cmpC A B ≤ 0) (h2 : cmpC B C ≤ 0) : cmpC A C ≤ 0 := by
  unfold cmpC at *
  by_cases e1 : A.1 = B.1
  · rw [if_pos e1] at h1
    by_cases e2 : B.1 = C.1
    · rw [if_pos e2] at h2
      rw [if_pos (e1.trans e2)]
      exact lexD_tr _ _ _ h1 h2
    · rw [if_neg e2] at h2
      rw [if_neg (by omega)]
      omega
  · rw [if_neg e1] at h1
    by_cases e2 : B.1 = C.1
    · rw [if_neg (by omega)]
      omega
    · rw [if_neg e2] at h2
      rw [if_neg (by omega)]
      omega
theorem lexD_rf : ∀ A : List Nat, lexD A A = 0
  | [] => rfl
  | a :: A => by
    show (if a = a then lexD A A else (a : Int) - a) = 0
    rw [if_pos rfl]
    exact lexD_rf A
theorem cmpC_rf {A : cdT} : cmpC A A = 0 := by
  unfold cmpC
  rw [if_pos rfl]
  exact lexD_rf _
/-- the table is in order -/
def srt (Cs : List cdT) (os : List Nat) : Prop := ∀ i j, i < j → j < os.length → cmpC (atC Cs os i) (atC Cs os j) ≤ 0
theorem srt_mo {Cs : List cdT} {os : List Nat} (h : srt Cs os) (B : cdT) : moC Cs os B := by
  intro i j hij hj
  have h1 := h i j hij hj
  have s1 := cmpC_sym (A := atC Cs os i) (B := B)
  have s2 := cmpC_sym (A := atC Cs os j) (B := B)
  refine ⟨fun h2 => ?_, fun h2 => ?_⟩
  · apply Int.lt_of_not_ge
    intro h3
    have h4 := cmpC_tr (A := B) (B := atC Cs os i) (C := atC Cs os j) (by omega) h1
    omega
  · apply Int.lt_of_not_ge
    intro h3
    have h4 := cmpC_tr (A := atC Cs os i) (B := atC Cs os j) (C := B) h1 (by omega)
    omega
theorem atC_ins {Cs : List cdT} {os : List Nat} {B : cdT} {k j : Nat} (hk : k ≤ os.length) (hl : Cs.length = os.length) (hos : ∀ (j s : Nat), os[j]? = some s → s < Cs.length) (hj : j < os.length + 1) : atC (Cs ++ [B]) (insO os k os.length) j = if j < k then atC Cs os j else if j = k then B else atC Cs os (j - 1) := by
  have key : ∀ i, i < os.length → (Cs ++ [B]).getD (os.getD i 0) (0, []) = atC Cs os i := by
    intro i hi
    have e : os[i]? = some os[i] := List.getElem?_eq_getElem hi
    have hs := hos i _ e
    unfold atC
    rw [List.getD_eq_getElem?_getD, List.getD_eq_getElem?_getD (l := Cs), List.getD_eq_getElem?_getD, e]
    show ((Cs ++ [B])[os[i]]?).getD _ = (Cs[os[i]]?).getD _
    rw [List.getElem?_append_left hs]
  unfold atC at key ⊢
  rw [List.getD_eq_getElem?_getD (l := insO os k os.length), insO_at hk]
  by_cases h1 : j < k
  · rw [if_pos h1, if_pos h1, ← List.getD_eq_getElem?_getD]
    exact key j (by omega)
  · rw [if_neg h1, if_neg h1]
    by_cases h2 : j = k
    · rw [if_pos h2, if_pos h2]
      show (Cs ++ [B]).getD os.length (0, []) = B
      rw [List.getD_eq_getElem?_getD, List.getElem?_append_right (by omega), show os.length - Cs.length = 0 by omega]
      rfl
    · rw [if_neg h2, if_neg h2, ← List.getD_eq_getElem?_getD]
      exact key (j - 1) (by omega)
theorem srt_ins {Cs : List cdT} {os : List Nat} {B : cdT} {k : Nat} (hk : k ≤ os.length) (hl : Cs.length = os.length) (hos : ∀ (j s : Nat), os[j]? = some s → s < Cs.length) (hs : srt Cs os) (h1 : ∀ i, i < k → cmpC (atC Cs os i) B ≤ 0) (h2 : ∀ i, k ≤ i → i < os.length → cmpC B (atC Cs os i) ≤ 0) : srt (Cs ++ [B]) (insO os k os.length) := by
  intro i j hij hj
  rw [insO_len hk] at hj
  rw [atC_ins hk hl hos (by omega), atC_ins hk hl hos (by omega)]
  by_cases a1 : j < k
  · rw [if_pos a1, if_pos (by omega)]
    exact hs i j hij (by omega)
  · rw [if_neg a1]
    by_cases a2 : j = k
    · rw [if_pos a2, if_pos (by omega)]
      exact h1 i (by omega)
    · rw [if_neg a2]
      by_cases a3 : i < k
      · rw [if_pos a3]
        exact hs i (j - 1) (by omega) (by omega)
      · rw [if_neg a3]
        by_cases a4 : i = k
        · rw [if_pos a4]
          exact h2 (j - 1) (by omega) (by omega)
        · rw [if_neg a4]
          exact hs (i - 1) (j - 1) (by omega) (by omega)
theorem ins_perm {os : List Nat} {k n : Nat} (h : os.Perm (List.range n)) : (insO os k n).Perm (List.range (n + 1)) := by
  rw [List.range_succ]
  unfold insO
  have h1 : (os.take k ++ [n] ++ os.drop k).Perm (os.take k ++ os.drop k ++ [n]) := by
    rw [List.append_assoc, List.append_assoc]
    exact List.Perm.append_left _ List.perm_append_comm
  refine h1.trans ?_
  rw [List.take_append_drop]
  exact h.append_right _
/-- the codes of a net's parts and their order -/
def cpZ (T : ow_NT) (n : Nat) (Cs : List cdT) (os : List Nat) : Prop := Cs.length = n ∧ (∀ q C, Cs[q]? = some C → epC T (np_parts T.1 T.2.2.1.1).1 (nI q) C ∧ C.2.length = ptL T.1 T.2.2.1 q) ∧ os.Perm (List.range n) ∧ srt Cs os
theorem tabC_os {y : ow_MS} {g : Nat} {Cs : List cdT} {os : List Nat} (h : tabC y g Cs os) : ∀ (j s : Nat), os[j]? = some s → s < Cs.length := fun j s e => (h.2.2.2 j s e).2
/-- each part has a crossing: at most c parts -/
theorem parts_le {c : Nat} {S : ow_NP} (hv : vn c S) (hc : c ≤ 12) : (np_parts c S.1).2 ≤ c := by
  obtain ⟨i1, i2, i3, i4⟩ := parts_I hv hc
  have hpt : ∀ r, r < (np_parts c S.1).2 → 2 ≤ cntB (fun v => decide ((np_parts c S.1).1 v = nI r) && true) (2 * c) := by
    intro r hr
    obtain ⟨v, hv2, ev⟩ := i3 r hr
    have em := (i1 v hv2).2.trans ev
    have h1 := cntB_rm (q := fun v => decide ((np_parts c S.1).1 v = nI r) && true) hv2 (by rw [decide_eq_true ev]; rfl)
    have hne : mt v ≠ v := by unfold mt; split <;> omega
    have h2 := cntB_rm (q := fun k => (decide ((np_parts c S.1).1 k = nI r) && true) && decide (k ≠ v)) (mt_lt hv2) (by rw [decide_eq_true em, decide_eq_true hne]; rfl)
    omega
  have h1 := cnt_parts (F := (np_parts c S.1).1) (q := fun _ => true) (P := (np_parts c S.1).2) (by omega) (2 * c) i2
  have h2 := cntB_le (fun _ => true) (2 * c)
  have h3 : ∀ n, n ≤ (np_parts c S.1).2 → 2 * n ≤ smN (fun r => cntB (fun v => decide ((np_parts c S.1).1 v = nI r) && true) (2 * c)) n := by
    intro n
    induction n with
    | zero => exact fun _ => Nat.zero_le _
    | succ n ih =>
      intro hn
      have := ih (by omega)
      have h4 := hpt n (by omega)
      show _ ≤ smN _ n + cntB (fun v => decide ((np_parts c S.1).1 v = nI n) && true) (2 * c)
      omega
  have := h3 _ (Nat.le_refl _)
  omega
def cpP (k g h q : Nat) : Prop := epP k q ∨ cV g q ∨ cQ h q
section CF
variable {vl : Nat → Nat} {y : ow_MS} {h k g : Nat} {T : ow_NT}
theorem lfc_ex {G F : Nat → Int32} {p : Int32} : ∀ n, (∃ v, v < n ∧ F v = p) → ∃ v, v < n ∧ F v = p ∧ cd_first G v = lfc G F p n
  | 0, ⟨v, hv, _⟩ => absurd hv (Nat.not_lt_zero _)
  | n + 1, ⟨v, hv, ev⟩ => by
    have b2 := first_b (G := G) (v := n)
    show ∃ v, v < n + 1 ∧ F v = p ∧ cd_first G v = if F n = p then (if cd_first G n < lfc G F p n then cd_first G n else lfc G F p n) else lfc G F p n
    by_cases e : F n = p
    · rw [if_pos e]
      by_cases e2 : cd_first G n < lfc G F p n
      · exact ⟨n, by omega, e, by rw [if_pos e2]⟩
      · rw [if_neg e2]
        have h8 : lfc G F p n ≠ 8 := by omega
        have hex : ∃ w, w < n ∧ F w = p := by
          apply Classical.byContradiction
          intro hn
          apply h8
          have : ∀ m, m ≤ n → lfc G F p m = 8 := by
            intro m
            induction m with
            | zero => exact fun _ => rfl
            | succ m ih =>
              intro hm
              show (if F m = p then _ else lfc G F p m) = 8
              rw [if_neg (fun e3 => hn ⟨m, by omega, e3⟩)]
              exact ih (by omega)
          exact this n (Nat.le_refl _)
        obtain ⟨w, hw, e3, e4⟩ := lfc_ex (G := G) n hex
        exact ⟨w, by omega, e3, e4⟩
    · rw [if_neg e]
      have hvn : v < n := by
        rcases Nat.lt_or_ge v n with h9 | h9
        · exact h9
        · exact absurd (by rw [← show v = n by omega]; exact ev) e
      obtain ⟨w, hw, e3, e4⟩ := lfc_ex (G := G) n ⟨v, hvn, ev⟩
      exact ⟨w, by omega, e3, e4⟩
theorem u_X2_collectParts_1 {vl : Nat → Nat} {x3 : Int32} {x4 : Int32} {r0 : Nat} {r1 : Nat} {r2 : Nat} {t0 : Int32} {z : ow_MS} {Q : ow_MS → Prop} (H : Tt (fun K k => cm_X2_collectParts_1 vl K (c_X2_collectParts vl K k) x3 x4 r0 r1 r2 t0 z) Q) : Tt (fun K k => c_X2_collectParts vl K k 1 x3 x4 r0 r1 r2 t0 z) Q := w_un (fun _ _ => rfl) H
theorem u_X2_collectParts_2 {vl : Nat → Nat} {x3 : Int32} {x4 : Int32} {r0 : Nat} {r1 : Nat} {r2 : Nat} {t0 : Int32} {z : ow_MS} {Q : ow_MS → Prop} (H : Tt (fun K k => cm_X2_collectParts_2 vl K (c_X2_collectParts vl K k) x3 x4 r0 r1 r2 t0 z) Q) : Tt (fun K k => c_X2_collectParts vl K k 2 x3 x4 r0 r1 r2 t0 z) Q := w_un (fun _ _ => rfl) H
theorem e_X2_collectParts {vl : Nat → Nat} {r0 : Nat} {r1 : Nat} {r2 : Nat} {z : ow_MS} {Q : ow_MS → Prop} (H : Tt (fun K k => c_X2_collectParts vl K k 0 0 0 r0 r1 r2 0 z) Q) : Te (fun K => ce_X2_collectParts vl K r0 r1 r2 z) Q := w_te H
theorem u_X2_collectParts_0 {vl : Nat → Nat} {x3 : Int32} {x4 : Int32} {r0 : Nat} {r1 : Nat} {r2 : Nat} {t0 : Int32} {z : ow_MS} {Q : ow_MS → Prop} (H : Tt (fun K k => cm_X2_collectParts_0 vl K (c_X2_collectParts vl K k) x3 x4 r0 r1 r2 t0 z) Q) : Tt (fun K k => c_X2_collectParts vl K k 0 x3 x4 r0 r1 r2 t0 z) Q := w_un (fun _ _ => rfl) H
theorem tc_collectParts (hk : kH k) (hh : nH h) (hg : tH g 12) (hgk : g + 6 ≤ k ∨ k + 3000 ≤ g) (hgh : h + 12 ≤ g ∨ g + 6 ≤ h) (hy : cAt y h T) (t1 : vn T.1 T.2.2.1) (t2 : T.1 ≤ 12) (t3 : ow_b24 T.2.2.1) (hlen : ∀ r, r < (np_parts T.1 T.2.2.1.1).2 → ptL T.1 T.2.2.1 r ≤ 30) (hby : byR y (k + 2001)) (hb3 : byR y (g + 1)) : Te (fun K => ce_X2_collectParts vl K k h g y) (fun y1 => (∃ Cs os, cpZ T (np_parts T.1 T.2.2.1.1).2 Cs os ∧ tabC y1 g Cs os) ∧ byR y1 (k + 2001) ∧ byR y1 (g + 1) ∧ cAt y1 h T ∧ fr (cpP k g h) y y1) := by
  have hdj := kH_dj hk hh
  have hpl := parts_le t1 t2
  obtain ⟨p1, p2, p3, p4⟩ := parts_I t1 t2
  let F := (np_parts T.1 T.2.2.1.1).1
  let n := (np_parts T.1 T.2.2.1.1).2
  let Q : ow_MS → Prop := fun y1 => (∃ Cs os, cpZ T n Cs os ∧ tabC y1 g Cs os) ∧ byR y1 (k + 2001) ∧ byR y1 (g + 1) ∧ cAt y1 h T ∧ fr (cpP k g h) y y1
  have c1 : ∀ (d i : Nat) (z : ow_MS) (Cs : List cdT) (os : List Nat), i + d = n → cpZ T i Cs os → tabC z g Cs os → (∀ j, j < 2 * T.1 → z.2.1 (h + 6) j = F j) → z.1 (h + 11) = nI n → byR z (k + 2001) → byR z (g + 1) → cAt z h T → fr (cpP k g h) y z → Tt (fun K t => c_X2_collectParts vl K t 1 (nI i) 0 k h g 0 z) Q := by
    intro d
    induction d with
    | zero =>
      intro i z Cs os hi hR hC h6 h11 hb1 hb2 hz hf
      have e : i = n := by omega
      subst e
      refine u_X2_collectParts_1 ?_; unfold cm_X2_collectParts_1
      exact w_rdF h11 (w_leT (by omega) (by omega) (w_some ⟨⟨Cs, os, hR, hC⟩, hb1, hb2, hz, hf⟩))
    | succ d ih =>
      intro i z Cs os hi hR hC h6 h11 hb1 hb2 hz hf
      obtain ⟨r1, r2, r3, r4⟩ := hR
      have hos := tabC_os hC
      have hlo : Cs.length = os.length := hC.2.1
      refine u_X2_collectParts_1 ?_; unfold cm_X2_collectParts_1
      refine w_rdF h11 (w_leF (by omega) (by omega) (w_cs0 (tc_encodePart (F := F) (n0 := ptL T.1 T.2.2.1 i) hk hh hz t2 t3 h6 (hlen i (by omega)) (fun v hv ev => tf_len_pt T.2.2.2 t1 t2 hv ev) hb1) ?_))
      rintro z1 ⟨⟨C, q1, q2, q3⟩, q4, q5⟩
      have hCl : C.2.length = ptL T.1 T.2.2.1 i := by
        obtain ⟨v, hv, ev⟩ := p3 i (by omega)
        obtain ⟨w, hw, e1, e2⟩ := lfc_ex (G := T.2.2.2) (F := F) (p := nI i) (2 * T.1) ⟨v, hv, ev⟩
        rcases q1.2 with ⟨a1, a2⟩ | ⟨u, a1, a2⟩
        · exact absurd ⟨e1, e2⟩ (a1 w hw)
        · rw [a2, tfL_len]
          exact tf_len_pt T.2.2.2 t1 t2 a1.1 a1.2.1.1
      have hC1 : tabC z1 g Cs os := tabC_fr q5 (fun q hq hp => by unfold cV at hq; unfold epP at hp; omega) hC
      have hb21 : byR z1 (g + 1) := by
        intro j
        rw [(q5 (g + 1) (by unfold epP; omega)).2.1]
        exact hb2 j
      have fin : ∀ (j : Nat) (x4 : Int32), j ≤ os.length → ((j < os.length ∧ atC Cs os j = C) ∨ (moC Cs os C → (∀ i, i < j → cmpC (atC Cs os i) C < 0) ∧ ∀ i, j ≤ i → i < os.length → 0 < cmpC (atC Cs os i) C)) → Tt (fun K t => c_X2_collectParts vl K t 2 (nI i) x4 k h g (nI j) z1) Q := by
        intro j x4 s1 s2
        refine u_X2_collectParts_2 ?_; unfold cm_X2_collectParts_2
        refine w_cs0 (tc_insert hg (kH_one hk) (by omega) Nat.one_pos hC1 (by omega) s1 q2 q3 q4) ?_
        rintro z2 ⟨s3, s4, s5⟩
        rw [if_pos (by omega)] at s3
        rw [nI_1]
        have hord : (∀ a, a < j → cmpC (atC Cs os a) C ≤ 0) ∧ ∀ a, j ≤ a → a < os.length → cmpC C (atC Cs os a) ≤ 0 := by
          rcases s2 with ⟨u1, u2⟩ | u1
          · rw [← u2]
            refine ⟨fun a ha => r4 a j ha u1, fun a ha ha2 => ?_⟩
            by_cases e : j = a
            · rw [e, cmpC_rf]
              exact Int.le_refl _
            · exact r4 j a (by omega) ha2
          · have u2 := u1 (srt_mo r4 C)
            refine ⟨fun a ha => Int.le_of_lt (u2.1 a ha), fun a ha ha2 => ?_⟩
            have := u2.2 a ha ha2
            have := cmpC_sym (A := C) (B := atC Cs os a)
            omega
        have hol : os.length = i := by omega
        have hz1 : cAt z1 h T := cAt_fr q5 (fun q hq hp => by unfold cP at hq; unfold epP at hp; omega) hz
        refine ih (i + 1) z2 (Cs ++ [C]) (insO os j os.length) (by omega) ⟨by rw [List.length_append]; show _ + 1 = _; omega, fun q C' e => ?_, ?_, srt_ins s1 hlo hos r4 hord.1 hord.2⟩ s3 (fun v hv => ?_) ?_ ?_ (s4 hb21) (cAt_fr s5 (fun q hq hp => by unfold cP at hq; unfold cV at hp; omega) hz1) (fr_tr hf (fr_tr (fr_mono (fun q hq => Or.inl hq) q5) (fr_mono (fun q hq => Or.inr (Or.inl hq)) s5)))
        · by_cases e1 : q < Cs.length
          · rw [List.getElem?_append_left e1] at e
            exact r2 q C' e
          · have := (List.getElem?_eq_some_iff.mp e).1
            rw [List.length_append] at this
            have e2 : q = i := by
              have : q < Cs.length + 1 := this
              omega
            rw [List.getElem?_append_right (by omega), show q - Cs.length = 0 by omega] at e
            cases e
            rw [e2]
            exact ⟨q1, hCl⟩
        · rw [hol]
          exact ins_perm r3
        · rw [(s5 (h + 6) (by unfold cV; omega)).2.1, (q5 (h + 6) (by unfold epP; omega)).2.1]
          exact h6 v hv
        · rw [(s5 (h + 11) (by unfold cV; omega)).1, (q5 (h + 11) (by unfold epP; omega)).1]
          exact h11
        · intro v
          rw [(s5 (k + 2001) (by unfold cV; omega)).2.1]
          exact q4 v
      refine w_cs1 (tc_find hg (kH_one hk) Nat.one_pos hC1 (by omega) q2 q3) ?_
      rintro v y1 ⟨hv, e2⟩
      dsimp only at hv e2
      subst e2
      rcases hv with ⟨j, k1, k2, k3⟩ | ⟨j, k1, k2, k3⟩
      · rw [k2]
        exact w_leT (a := 0) (by omega) (by omega) (fin j _ (by omega) (Or.inl ⟨k1, k3⟩))
      · rw [k2, show (-1 : Int32) - iI (-1 - (j : Int)) = nI j from by
          rw [show (-1 : Int32) = iI (-1) from rfl, iI_sub, nI_iI]
          congr 1
          omega]
        refine w_ifF (fun h9 => ?_) (fin j _ k1 (Or.inr k3))
        have := (iI_le (a := 0) (b := -1 - (j : Int)) (by omega) (by omega) (by omega) (by omega)).mp h9
        omega
  have hof := np_parts_of (N := T.2.2.1.1) (c := T.1) (fun a ha => (t1 a ha).1) t2 (y.2.1 (h + 6))
  refine e_X2_collectParts ?_
  refine u_X2_collectParts_0 ?_; unfold cm_X2_collectParts_0
  refine w_cs0 (tc_markParts hh hy (fun a ha => (t1 a ha).1) t2) ?_
  rintro z1 ⟨m1, m2, m3⟩
  have hz1 : cAt z1 h T := cAt_fr m3 (fun q hq hp => by unfold cP at hq; unfold cQ at hp; omega) hy
  refine w_wrF (c1 n 0 _ [] [] (by omega) ⟨rfl, fun q C e => (by rw [List.getElem?_nil] at e; cases e), List.Perm.refl _, fun i j _ hj => absurd hj (Nat.not_lt_zero _)⟩ ⟨po_usF_at, rfl, fun s C e => (by rw [List.getElem?_nil] at e; cases e), fun j s e => (by rw [List.getElem?_nil] at e; cases e)⟩ (fun j hj => ?_) ?_ ?_ ?_ (cAt_fr (P := cV g) (fr_F ⟨by omega, by omega⟩) (fun q hq hp => by unfold cP at hq; unfold cV at hp; omega) hz1) (fr_F2 (fr_mono (fun q hq => Or.inr (Or.inr hq)) m3) (Or.inr (Or.inl ⟨by omega, by omega⟩))))
  · show z1.2.1 (h + 6) j = F j
    rw [m1 j]
    exact hof.1 j hj
  · rw [rf_ot (by omega) m2]
    rw [hof.2]
  · intro j
    show fits .byte (.int (z1.2.1 (k + 2001) j)) = true
    rw [(m3 (k + 2001) (by unfold cQ; omega)).2.1]
    exact hby j
  · intro j
    show fits .byte (.int (z1.2.1 (g + 1) j)) = true
    rw [(m3 (g + 1) (by unfold cQ; omega)).2.1]
    exact hb3 j
end CF
end
section
/-! 99zzzzzg.cenc3 -/
/-! the class: Coder.encode -/
/-- the rows of the parts in order -/
def cdR (Cs : List cdT) (os : List Nat) : List (List Nat) := os.map (fun s => (Cs.getD s (0, [])).2)
/-- the code of a net -/
def enC (T : ow_NT) (Cs : List cdT) (os : List Nat) : cdT := (T.1, (cdR Cs os).flatten ++ List.replicate T.2.1 0)
theorem cdR_at {Cs : List cdT} {os : List Nat} {i : Nat} (hi : i < os.length) : (cdR Cs os)[i]? = some (atC Cs os i).2 := by
  unfold cdR atC
  rw [List.getElem?_map, List.getElem?_eq_getElem hi]
  show some _ = some (Cs.getD (os.getD i 0) (0, [])).2
  rw [List.getD_eq_getElem?_getD (l := os), List.getElem?_eq_getElem hi]
  rfl
theorem cdR_s {Cs : List cdT} {os : List Nat} {i : Nat} (hi : i < os.length) : ((cdR Cs os).take (i + 1)).flatten = ((cdR Cs os).take i).flatten ++ (atC Cs os i).2 := by
  rw [List.take_add_one, cdR_at hi, List.flatten_append]
  congr 1
  show [(atC Cs os i).2].flatten = _
  rw [List.flatten_cons, List.flatten_nil, List.append_nil]
theorem sm_range {f : Nat → Nat} : ∀ n, ((List.range n).map f).sum = smN f n
  | 0 => rfl
  | n + 1 => by
    rw [List.range_succ, List.map_append, List.sum_append_nat, sm_range n]
    show smN f n + (f n + 0) = smN f n + f n
    rfl
theorem cdR_len {T : ow_NT} {Cs : List cdT} {os : List Nat} (hT : nv T) (h : cpZ T (np_parts T.1 T.2.2.1.1).2 Cs os) : (cdR Cs os).flatten.length = 2 * T.1 + np_rg T.1 T.2.2.1 := by
  obtain ⟨r1, r2, r3, r4⟩ := h
  rw [List.length_flatten]
  unfold cdR
  rw [List.map_map]
  have e : os.map (List.length ∘ fun s => (Cs.getD s (0, [])).2) = os.map (ptL T.1 T.2.2.1) := by
    apply List.map_congr_left
    intro s hs
    have hs2 : s < Cs.length := by
      rw [r1]
      exact List.mem_range.mp ((r3.mem_iff).mp hs)
    have := (r2 s Cs[s] (List.getElem?_eq_getElem hs2)).2
    show (Cs.getD s (0, [])).2.length = _
    rw [List.getD_eq_getElem?_getD, List.getElem?_eq_getElem hs2]
    exact this
  rw [e, (r3.map _).sum_nat, sm_range]
  exact ptL_sum hT.1 hT.2.1
theorem take_len {L : List (List Nat)} {i : Nat} : ((L.take i).flatten).length ≤ L.flatten.length := by
  have h : L.flatten = (L.take i).flatten ++ (L.drop i).flatten := by
    rw [← List.flatten_append, List.take_append_drop]
  rw [h, List.length_append]
  omega
def enP (k h q : Nat) : Prop := cpP k (k + 3000) h q ∨ k + 1001 ≤ q ∧ q ≤ k + 1003
section CG
variable {vl : Nat → Nat} {y : ow_MS} {h k : Nat} {T : ow_NT}
theorem e_X2_encode {vl : Nat → Nat} {r0 : Nat} {r1 : Nat} {z : ow_MS} {Q : ow_MS → Prop} (H : Tt (fun K k => c_X2_encode vl K k 0 0 0 0 0 r0 r1 z) Q) : Te (fun K => ce_X2_encode vl K r0 r1 z) Q := w_te H
theorem u_X2_encode_0 {vl : Nat → Nat} {x2 : Int32} {x3 : Int32} {x4 : Int32} {x5 : Int32} {r0 : Nat} {r1 : Nat} {z : ow_MS} {Q : ow_MS → Prop} (H : Tt (fun K k => cm_X2_encode_0 vl K (c_X2_encode vl K k) x2 x3 x4 x5 r0 r1 z) Q) : Tt (fun K k => c_X2_encode vl K k 0 x2 x3 x4 x5 r0 r1 z) Q := w_un (fun _ _ => rfl) H
theorem u_X2_encode_4 {vl : Nat → Nat} {x2 : Int32} {x3 : Int32} {x4 : Int32} {x5 : Int32} {r0 : Nat} {r1 : Nat} {z : ow_MS} {Q : ow_MS → Prop} (H : Tt (fun K k => cm_X2_encode_4 vl K (c_X2_encode vl K k) x2 x3 x4 x5 r0 r1 z) Q) : Tt (fun K k => c_X2_encode vl K k 4 x2 x3 x4 x5 r0 r1 z) Q := w_un (fun _ _ => rfl) H
theorem u_X2_encode_3 {vl : Nat → Nat} {x2 : Int32} {x3 : Int32} {x4 : Int32} {x5 : Int32} {r0 : Nat} {r1 : Nat} {z : ow_MS} {Q : ow_MS → Prop} (H : Tt (fun K k => cm_X2_encode_3 vl K (c_X2_encode vl K k) x2 x3 x4 x5 r0 r1 z) Q) : Tt (fun K k => c_X2_encode vl K k 3 x2 x3 x4 x5 r0 r1 z) Q := w_un (fun _ _ => rfl) H
theorem u_X2_encode_1 {vl : Nat → Nat} {x2 : Int32} {x3 : Int32} {x4 : Int32} {x5 : Int32} {r0 : Nat} {r1 : Nat} {z : ow_MS} {Q : ow_MS → Prop} (H : Tt (fun K k => cm_X2_encode_1 vl K (c_X2_encode vl K k) x2 x3 x4 x5 r0 r1 z) Q) : Tt (fun K k => c_X2_encode vl K k 1 x2 x3 x4 x5 r0 r1 z) Q := w_un (fun _ _ => rfl) H
theorem u_X2_encode_2 {vl : Nat → Nat} {x2 : Int32} {x3 : Int32} {x4 : Int32} {x5 : Int32} {r0 : Nat} {r1 : Nat} {z : ow_MS} {Q : ow_MS → Prop} (H : Tt (fun K k => cm_X2_encode_2 vl K (c_X2_encode vl K k) x2 x3 x4 x5 r0 r1 z) Q) : Tt (fun K k => c_X2_encode vl K k 2 x2 x3 x4 x5 r0 r1 z) Q := w_un (fun _ _ => rfl) H
theorem tc_encode (hk : kH k) (hh : nH h) (hy : cAt y h T) (hT : nv T) (hb1 : byR y (k + 1001)) (hb2 : byR y (k + 2001)) (hb3 : byR y (k + 3001)) : Te (fun K => ce_X2_encode vl K k h y) (fun y1 => (∃ Cs os, cpZ T (np_parts T.1 T.2.2.1.1).2 Cs os ∧ slC y1 (k + 1000) 0 (enC T Cs os) ∧ cOK (enC T Cs os)) ∧ byR y1 (k + 1001) ∧ byR y1 (k + 2001) ∧ byR y1 (k + 3001) ∧ cAt y1 h T ∧ fr (enP k h) y y1) := by
  have hdj := kH_dj hk hh
  let Q : ow_MS → Prop := fun y1 => (∃ Cs os, cpZ T (np_parts T.1 T.2.2.1.1).2 Cs os ∧ slC y1 (k + 1000) 0 (enC T Cs os) ∧ cOK (enC T Cs os)) ∧ byR y1 (k + 1001) ∧ byR y1 (k + 2001) ∧ byR y1 (k + 3001) ∧ cAt y1 h T ∧ fr (enP k h) y y1
  refine e_X2_encode ?_
  refine u_X2_encode_0 ?_; unfold cm_X2_encode_0
  have hl30 : ∀ r, r < (np_parts T.1 T.2.2.1.1).2 → ptL T.1 T.2.2.1 r ≤ 30 := by
    intro r hr
    obtain ⟨v, hv, ev⟩ := (parts_I hT.1 hT.2.1).2.2.1 r hr
    have h1 := tf_len_pt T.2.2.2 hT.1 hT.2.1 hv ev
    have h2 := tf_len_le T.2.2.2 hT.1 hT.2.1 hv
    have h3 := hT.2.1
    have h4 := hT.2.2.2
    omega
  refine w_cs0 (tc_collectParts hk hh (kH_sort hk) (by omega) (by omega) hy hT.1 hT.2.1 hT.2.2.1 hl30 hb2 hb3) ?_
  rintro z1 ⟨⟨Cs, os, hR, hC⟩, g1, g2, g3, g4⟩
  have hlen := cdR_len hT hR
  obtain ⟨t1, t2, t3, t4⟩ := id hT
  have hol : os.length = (np_parts T.1 T.2.2.1.1).2 := by
    rw [← hC.2.1]
    exact hR.1
  have hpl := parts_le t1 t2
  have hok : cOK (enC T Cs os) := by
    refine ⟨t2, ?_, fun a ha => ?_⟩
    · show ((cdR Cs os).flatten ++ List.replicate T.2.1 0).length ≤ 30
      rw [List.length_append, List.length_replicate]
      omega
    · have ha' : a ∈ (cdR Cs os).flatten ++ List.replicate T.2.1 0 := ha
      rcases List.mem_append.mp ha' with h9 | h9
      · obtain ⟨l, hl, hal⟩ := List.mem_flatten.mp h9
        obtain ⟨s, hs, es⟩ := List.mem_map.mp hl
        have hs2 : s < Cs.length := by
          rw [hR.1]
          exact List.mem_range.mp ((hR.2.2.1.mem_iff).mp hs)
        rw [← es, List.getD_eq_getElem?_getD, List.getElem?_eq_getElem hs2] at hal
        exact (hC.2.2.1 s _ (List.getElem?_eq_getElem hs2)).2.2.2 a hal
      · rw [(List.mem_replicate.mp h9).2]
        omega
  -- the cells so far
  let S : ow_MS → List Nat → Prop := fun z L => (∀ j a, L[j]? = some a → z.2.1 (k + 1001) j = nI a) ∧ byR z (k + 1001) ∧ fr (fun q => q = k + 1001) z1 z
  have c4 : ∀ (z : ow_MS) (x3 : Int32), S z (enC T Cs os).2 → Tt (fun K t => c_X2_encode vl K t 4 (nI (enC T Cs os).2.length) x3 0 0 k h z) Q := by
    intro z x3 ⟨s1, s2, s3⟩
    have hz : cAt z h T := cAt_fr s3 (fun q hq hp => by unfold cP at hq; omega) g3
    refine u_X2_encode_4 ?_; unfold cm_X2_encode_4
    have hl30 : (enC T Cs os).2.length ≤ 30 := hok.2.1
    have hc12 : T.1 ≤ 12 := t2
    refine w_ctB (i := 0) (tH_2 (kH_out hk)) rfl (by omega) (w_rdF (x := nI T.1) hz.1 (w_ctB (i := 0) (tH_3 (kH_out hk)) rfl (by omega) (w_some ?_)))
    rw [show vp_nar .byte (nI (enC T Cs os).2.length).toInt8.toInt32 = nI (enC T Cs os).2.length from (i2b64 ⟨(enC T Cs os).2.length, by omega⟩).1, show vp_nar .byte (nI T.1).toInt8.toInt32 = nI T.1 from (i2b64 ⟨T.1, by omega⟩).1]
    have hfr : fr (fun q => k + 1001 ≤ q ∧ q ≤ k + 1003) z1 (usI (usI z (k + 1000 + 2) 0 (nI (enC T Cs os).2.length)) (k + 1000 + 3) 0 (nI T.1)) := fr_I2 (fr_I2 (fr_mono (fun q hq => by rw [hq]; omega) s3) (by omega)) (by omega)
    refine ⟨⟨Cs, os, hR, ⟨po_usI_at, rd_ot (by omega) po_usI_at, fun i a e => rd_ot (by omega) (rd_ot (by omega) ?_)⟩, hok⟩, fun j => ?_, fun j => ?_, fun j => ?_, cAt_fr hfr (fun q hq hp => by unfold cP at hq; omega) g3, fr_tr (fr_mono (fun q hq => Or.inl hq) g4) (fr_mono (fun q hq => Or.inr hq) hfr)⟩
    · rw [show 30 * 0 + i = i by omega]
      exact s1 i a e
    · rw [show (usI (usI z (k + 1000 + 2) 0 (nI (enC T Cs os).2.length)) (k + 1000 + 3) 0 (nI T.1)).2.1 (k + 1001) j = z.2.1 (k + 1001) j from rd_ot (by omega) (rd_ot (by omega) rfl)]
      exact s2 j
    · rw [(hfr (k + 2001) (by omega)).2.1]
      exact g1 j
    · rw [(hfr (k + 3001) (by omega)).2.1]
      exact g2 j
  have c3 : ∀ (d i : Nat) (z : ow_MS), i + d = T.2.1 → S z ((cdR Cs os).flatten ++ List.replicate i 0) → Tt (fun K t => c_X2_encode vl K t 3 (nI ((cdR Cs os).flatten ++ List.replicate i 0).length) (nI i) 0 0 k h z) Q := by
    intro d
    induction d with
    | zero =>
      intro i z hi hs
      have e : i = T.2.1 := by omega
      have hz : cAt z h T := cAt_fr hs.2.2 (fun q hq hp => by unfold cP at hq; omega) g3
      subst e
      refine u_X2_encode_3 ?_; unfold cm_X2_encode_3
      exact w_rdF hz.2.1 (w_leT (by omega) (by omega) (c4 z _ hs))
    | succ d ih =>
      intro i z hi hs
      have hz : cAt z h T := cAt_fr hs.2.2 (fun q hq hp => by unfold cP at hq; omega) g3
      have hl : ((cdR Cs os).flatten ++ List.replicate i 0).length = (cdR Cs os).flatten.length + i := by rw [List.length_append, List.length_replicate]
      have hl1 : ((cdR Cs os).flatten ++ List.replicate (i + 1) 0).length = (cdR Cs os).flatten.length + i + 1 := by
        rw [List.length_append, List.length_replicate]
        omega
      have hap : (cdR Cs os).flatten ++ List.replicate (i + 1) 0 = (cdR Cs os).flatten ++ List.replicate i 0 ++ [0] := by
        rw [List.replicate_succ', List.append_assoc]
      refine u_X2_encode_3 ?_; unfold cm_X2_encode_3
      rw [hl]
      refine w_rdF hz.2.1 (w_leF (by omega) (by omega) (w_leF (a := 30) (by omega) (by omega) (w_ctB (i := (cdR Cs os).flatten.length + i) (tH_1 (kH_out hk)) rfl (by omega) ?_)))
      rw [nI_1, nI_1, ← hl1]
      refine ih (i + 1) _ (by omega) ⟨fun j a e => ?_, fun j => ?_, fr_I2 hs.2.2 rfl⟩
      · rw [hap] at e
        by_cases e1 : j = (cdR Cs os).flatten.length + i
        · rw [List.getElem?_append_right (by omega), hl, show j - ((cdR Cs os).flatten.length + i) = 0 by omega] at e
          cases e
          rw [e1]
          exact po_usI_at.trans (nar64 (a := 0) (by omega))
        · have h9 := (List.getElem?_eq_some_iff.mp e).1
          rw [List.length_append, hl] at h9
          have h9' : j < (cdR Cs os).flatten.length + i + 1 := h9
          rw [List.getElem?_append_left (by omega)] at e
          exact rd_ne e1 (hs.1 j a e)
      · by_cases e1 : j = (cdR Cs os).flatten.length + i
        · rw [e1, show (usI z (k + 1000 + 1) ((cdR Cs os).flatten.length + i) (vp_nar .byte 0)).2.1 (k + 1001) ((cdR Cs os).flatten.length + i) = vp_nar .byte 0 from po_usI_at]
          decide
        · rw [show (usI z (k + 1000 + 1) ((cdR Cs os).flatten.length + i) (vp_nar .byte 0)).2.1 (k + 1001) j = z.2.1 (k + 1001) j from rd_ne e1 rfl]
          exact hs.2.1 j
  have c1 : ∀ (d i : Nat) (z : ow_MS), i + d = os.length → S z ((cdR Cs os).take i).flatten → Tt (fun K t => c_X2_encode vl K t 1 (nI ((cdR Cs os).take i).flatten.length) (nI i) 0 0 k h z) Q := by
    intro d
    induction d with
    | zero =>
      intro i z hi hs
      have h5 : z.1 (k + 3000 + 5) = nI os.length := by
        rw [(hs.2.2 (k + 3000 + 5) (by omega)).1]
        exact hC.1
      have ha : (cdR Cs os).take i = cdR Cs os := List.take_of_length_le (by unfold cdR; rw [List.length_map]; omega)
      rw [ha] at hs ⊢
      refine u_X2_encode_1 ?_; unfold cm_X2_encode_1
      refine w_rdF h5 (w_leT (by omega) (by omega) ?_)
      have := c3 T.2.1 0 z (by omega) (by rw [List.replicate_zero, List.append_nil]; exact hs)
      rw [List.replicate_zero, List.append_nil] at this
      exact this
    | succ d ih =>
      intro i z hi hs
      have h5 : z.1 (k + 3000 + 5) = nI os.length := by
        rw [(hs.2.2 (k + 3000 + 5) (by omega)).1]
        exact hC.1
      obtain ⟨s, u1, u2, u3, u4⟩ := tab_at hC (show i < os.length by omega)
      have hs12 : s < 12 := by
        have := hC.2.1
        omega
      have e4 : z.2.1 (k + 3000 + 4) i = nI s := by
        rw [(hs.2.2 (k + 3000 + 4) (by omega)).2.1]
        exact u2
      have e2 : z.2.1 (k + 3000 + 2) s = nI (atC Cs os i).2.length := by
        rw [(hs.2.2 (k + 3000 + 2) (by omega)).2.1]
        exact u3.2.1
      have e1 : ∀ j a, (atC Cs os i).2[j]? = some a → z.2.1 (k + 3000 + 1) (30 * s + j) = nI a := by
        rw [(hs.2.2 (k + 3000 + 1) (by omega)).2.1]
        exact u3.2.2
      have hst := cdR_s (Cs := Cs) (os := os) (show i < os.length by omega)
      have htl := take_len (L := cdR Cs os) (i := i + 1)
      have hl30 := u4.2.1
      rw [hst, List.length_append] at htl
      refine u_X2_encode_1 ?_; unfold cm_X2_encode_1
      refine w_rdF h5 (w_leF (by omega) (by omega) (w_crI (kH_sort hk |> tH_4) rfl (show i < 12 by omega) e4 (w_crI (tH_2 (kH_sort hk)) rfl hs12 e2 ?_)))
      rw [show nI ((cdR Cs os).take i).flatten.length + nI (atC Cs os i).2.length = nI (((cdR Cs os).take i).flatten.length + (atC Cs os i).2.length) from nI_add _ _, mul30]
      refine w_ltF (a := 30) (by omega) (by omega) ?_
      have cpb : ∀ {E : ow_MS → Nat → Nat → Option ow_MS} {Q : ow_MS → Prop}, Tt (E (usR z (k + 1000 + 1) (va_cpy (z.2.1 (k + 3000 + 1)) (z.2.1 (k + 1000 + 1)) (30 * s) ((cdR Cs os).take i).flatten.length (atC Cs os i).2.length))) Q → Tt (fun K t => cpB (cX vl) z (k + 3000 + 1) (nI (30 * s)) (k + 1000 + 1) (nI ((cdR Cs os).take i).flatten.length) (nI (atC Cs os i).2.length) (fun v => E v K t)) Q := by
        intro E Q H
        unfold cpB
        refine w_ifT (fun j hj => ?_) (w_cpI (a := 30 * s) (b := ((cdR Cs os).take i).flatten.length) (n := (atC Cs os i).2.length) (tH_1 (kH_sort hk)) (tH_1 (kH_out hk)) rfl rfl rfl (by omega) (by omega) H)
        rw [nI_clamp (by omega)] at hj
        rw [nI_clamp (by omega), e1 j _ (List.getElem?_eq_getElem hj)]
        exact fits64 ⟨_, u4.2.2 _ (List.getElem_mem hj)⟩
      refine cpb ?_
      refine u_X2_encode_2 ?_; unfold cm_X2_encode_2
      rw [nI_1, ← List.length_append, ← hst]
      refine ih (i + 1) _ (by omega) ⟨fun j a e => ?_, fun j => ?_, fr_R2 hs.2.2 rfl⟩
      · rw [show k + 1001 = k + 1000 + 1 from rfl, usR_at]
        unfold va_cpy
        have hj := (List.getElem?_eq_some_iff.mp e).1
        rw [hst] at e hj
        rw [List.length_append] at hj
        by_cases e9 : j < ((cdR Cs os).take i).flatten.length
        · rw [if_neg (by omega)]
          rw [List.getElem?_append_left e9] at e
          exact hs.1 j a e
        · rw [if_pos (by omega)]
          rw [List.getElem?_append_right (by omega)] at e
          exact e1 _ a e
      · rw [show k + 1001 = k + 1000 + 1 from rfl, usR_at]
        unfold va_cpy
        split
        · rename_i h9
          have hj : j - ((cdR Cs os).take i).flatten.length < (atC Cs os i).2.length := by omega
          rw [e1 _ _ (List.getElem?_eq_getElem hj)]
          exact fits64 ⟨_, u4.2.2 _ (List.getElem_mem hj)⟩
        · exact hs.2.1 j
  refine c1 os.length 0 z1 (by omega) ⟨fun j a e => ?_, fun j => ?_, fr_rf⟩
  · rw [show ((cdR Cs os).take 0).flatten = [] from rfl, List.getElem?_nil] at e
    cases e
  · rw [(g4 (k + 1001) (by unfold cpP epP cV cQ; omega)).2.1]
    exact hb1 j
end CG
end
section
/-! 99zzzzzh.ciso -/
/-! a net of the class that shows a list of components: the code from a visit is the reference's row from it -/
def lbv (A : rn_L) (f : Nat → Nat) (v : Nat) : Nat := 2 * f (crs A v) + uns A v
def cirs (A : rn_L) : Nat := A.countP (fun B => B.isEmpty)
/-- T shows A: crossing x of A is f x there -/
def isoN (A : rn_L) (sg : Nat → Bool) (f : Nat → Nat) (T : ow_NT) : Prop := wkF A.flatten ∧ A.flatten.length = 2 * T.1 ∧ T.1 ≤ 12 ∧ (∀ v, v < A.flatten.length → f (crs A v) < T.1) ∧ (∀ v w, v < A.flatten.length → w < A.flatten.length → f (crs A v) = f (crs A w) → crs A v = crs A w) ∧ (∀ v, v < A.flatten.length → T.2.2.1.1 (lbv A f v) = lbv A f (rn_nx A v)) ∧ (∀ v, v < A.flatten.length → (T.2.2.2 (f (crs A v)) < 0 ↔ sg (crs A v) = true)) ∧ cirs A = T.2.1
section CI
variable {A : rn_L} {sg : Nat → Bool} {f : Nat → Nat} {T : ow_NT}
theorem uns_lt {v : Nat} (hF : wkF A.flatten) (hv : v < A.flatten.length) : uns A v < 2 := (hF.2 _ (List.mem_of_getElem? (vAt_of hv))).2.1
theorem lbv_lt {v : Nat} (h : isoN A sg f T) (hv : v < A.flatten.length) : lbv A f v < 2 * T.1 := by
  have := uns_lt h.1 hv
  have := h.2.2.2.1 v hv
  unfold lbv
  omega
theorem lbv_hf {v : Nat} (h : isoN A sg f T) (hv : v < A.flatten.length) : lbv A f v / 2 = f (crs A v) ∧ lbv A f v % 2 = uns A v := by
  have := uns_lt h.1 hv
  unfold lbv
  omega
theorem lbv_inj {v w : Nat} (h : isoN A sg f T) (hv : v < A.flatten.length) (hw : w < A.flatten.length) (e : lbv A f v = lbv A f w) : v = w := by
  have h1 := lbv_hf h hv
  have h2 := lbv_hf h hw
  have h3 : f (crs A v) = f (crs A w) := by omega
  have h4 := h.2.2.2.2.1 v w hv hw h3
  have h5 : uns A v = uns A w := by omega
  have h6 : vAt A v = vAt A w := Prod.ext h4 h5
  refine nodup_at h.1.1 (vAt_of hv) ?_
  rw [h6]
  exact vAt_of hw
theorem lbv_mt {v : Nat} (h : isoN A sg f T) (hv : v < A.flatten.length) : mtf A v < A.flatten.length ∧ crs A (mtf A v) = crs A v ∧ lbv A f (mtf A v) = mt (lbv A f v) ∧ mtf A v ≠ v := by
  have hm := mtf_mt (wkF_ok h.1) hv
  have hl := (rn_mt_lt hm).2
  obtain ⟨hne, p, q, e1, e2, e3⟩ := hm
  have c1 : crs A (mtf A v) = crs A v := by
    unfold crs
    rw [vAt_eq e1, vAt_eq e2]
    exact e3.symm
  have u1 := uns_lt h.1 hv
  have u2 := uns_lt h.1 hl
  have hu : uns A (mtf A v) ≠ uns A v := by
    intro e
    have h6 : vAt A (mtf A v) = vAt A v := Prod.ext c1 e
    refine hne (nodup_at h.1.1 (vAt_of hv) ?_)
    rw [← h6]
    exact vAt_of hl
  refine ⟨hl, c1, ?_, fun e => hne e.symm⟩
  have h1 := lbv_hf h hv
  unfold lbv
  rw [c1]
  unfold mt
  split <;> omega
theorem lbv_sur (h : isoN A sg f T) {k : Nat} (hk : k < 2 * T.1) : ∃ v, v < A.flatten.length ∧ lbv A f v = k := by
  apply Classical.byContradiction
  intro hn
  have h1 : ((List.range A.flatten.length).map (lbv A f)).Nodup := nodup_map List.nodup_range (fun a b ha hb e => lbv_inj h (List.mem_range.mp ha) (List.mem_range.mp hb) e)
  have h2 : (k :: (List.range A.flatten.length).map (lbv A f)).Nodup := by
    refine List.nodup_cons.mpr ⟨fun hm => ?_, h1⟩
    obtain ⟨v, hv, e⟩ := List.mem_map.mp hm
    exact hn ⟨v, List.mem_range.mp hv, e⟩
  have h3 := nodup_le _ (List.range (2 * T.1)) h2 (fun a ha => by
    rw [List.mem_range]
    rcases List.mem_cons.mp ha with e | e
    · omega
    · obtain ⟨v, hv, e9⟩ := List.mem_map.mp e
      rw [← e9]
      exact lbv_lt h (List.mem_range.mp hv))
  rw [List.length_cons, List.length_map, List.length_range, List.length_range, h.2.1] at h3
  omega
theorem gn_vs {S : List Nat} {w : Nat} (hS : tS A S) (hw : w < A.flatten.length) : gn A S (rn_c A w) = true ↔ w ∈ vsO A S := by
  unfold gn
  rw [decide_eq_true_iff]
  exact ⟨fun h => vsO_of hS hw h, fun h => (vsO_in hS h).2⟩
theorem tfL_vis {G : Nat → Int32} {P : tf_P} {v : Nat} : tfL (tf_vis G P v) = tfL P ++ [tf_cell G P v] := by
  show (List.range (P.len + 1)).map (nu P.T P.len (tf_cell G P v)) = (List.range P.len).map P.T ++ [tf_cell G P v]
  rw [List.range_succ, List.map_append]
  congr 1
  · apply List.map_congr_left
    intro j hj
    have := List.mem_range.mp hj
    exact nu_ne _ _ (by omega)
  · show [nu P.T P.len (tf_cell G P v) P.len] = _
    rw [nu_same]
theorem tfL_sep {P : tf_P} : tfL (tf_sep P) = tfL P ++ [0] := by
  show (List.range (P.len + 1)).map (nu P.T P.len 0) = (List.range P.len).map P.T ++ [0]
  rw [List.range_succ, List.map_append]
  congr 1
  · apply List.map_congr_left
    intro j hj
    have := List.mem_range.mp hj
    exact nu_ne _ _ (by omega)
  · show [nu P.T P.len 0 P.len] = _
    rw [nu_same]
/-- the machine has gone over the visits vs -/
def tJ (A : rn_L) (f : Nat → Nat) (vs cells : List Nat) (P : tf_P) : Prop := P.names = (fm A vs).length ∧ (∀ k w, (fm A vs)[k]? = some w → P.nam k = f (crs A w) ∧ P.num (f (crs A w)) = k + 1) ∧ (∀ v, v < A.flatten.length → crs A v ∉ vs.map (crs A) → P.num (f (crs A v)) = 0) ∧ (∀ v, v < A.flatten.length → (o_gn P.gone (lbv A f v) ↔ v ∈ vs)) ∧ tfL P = cells ∧ ∀ v, v ∈ vs → v < A.flatten.length
theorem tJ_num {vs cells : List Nat} {P : tf_P} {v : Nat} (h : tJ A f vs cells P) (hv : crs A v ∈ vs.map (crs A)) : P.num (f (crs A v)) = num A vs (crs A v) := by
  obtain ⟨w, e1, e2⟩ := num_at hv
  have h1 := (h.2.1 _ w e1).2
  have h2 := num_of e1
  rw [e2] at h1 h2
  omega
theorem tJ_vis {vs cells : List Nat} {P : tf_P} {v : Nat} (hi : isoN A sg f T) (h : tJ A f vs cells P) (hv : v < A.flatten.length) : tJ A f (vs ++ [v]) (cells ++ [tkn A sg (vs ++ [v]) v]) (tf_vis T.2.2.2 P (lbv A f v)) := by
  have hl := lbv_hf hi hv
  obtain ⟨a1, a2, a3, a4, a5, a6⟩ := id h
  have hgone : ∀ w, w < A.flatten.length → (o_gn (tf_vis T.2.2.2 P (lbv A f v)).gone (lbv A f w) ↔ w ∈ vs ++ [v]) := by
    intro w hw
    show o_gn (P.gone ||| 2 ^ lbv A f v) (lbv A f w) ↔ _
    rw [gn_or, a4 w hw, List.mem_append, List.mem_singleton]
    exact or_congr Iff.rfl ⟨fun e => lbv_inj hi hw hv e, fun e => by rw [e]⟩
  have hmem : ∀ w, w ∈ vs ++ [v] → w < A.flatten.length := by
    intro w hw
    rcases List.mem_append.mp hw with h9 | h9
    · exact a6 w h9
    · rw [List.mem_singleton.mp h9]
      exact hv
  have part : (tf_vis T.2.2.2 P (lbv A f v)).names = (fm A (vs ++ [v])).length ∧ (∀ k w, (fm A (vs ++ [v]))[k]? = some w → (tf_vis T.2.2.2 P (lbv A f v)).nam k = f (crs A w) ∧ (tf_vis T.2.2.2 P (lbv A f v)).num (f (crs A w)) = k + 1) ∧ (∀ w, w < A.flatten.length → crs A w ∉ (vs ++ [v]).map (crs A) → (tf_vis T.2.2.2 P (lbv A f v)).num (f (crs A w)) = 0) := by
    have e1 : (tf_vis T.2.2.2 P (lbv A f v)).num = (tf_name P (f (crs A v))).num := by
      rw [← hl.1]
      rfl
    have e2 : (tf_vis T.2.2.2 P (lbv A f v)).nam = (tf_name P (f (crs A v))).nam := by
      rw [← hl.1]
      rfl
    have e3 : (tf_vis T.2.2.2 P (lbv A f v)).names = (tf_name P (f (crs A v))).names := by
      rw [← hl.1]
      rfl
    rw [e1, e2, e3, fm_app]
    by_cases hc : crs A v ∈ (fm A vs).map (crs A)
    · have hc2 := (fm_cr vs).mp hc
      have hn : ¬ P.num (f (crs A v)) = 0 := by
        obtain ⟨w, q1, q2⟩ := num_at hc2
        have := (a2 _ w q1).2
        rw [q2] at this
        omega
      have e4 : tf_name P (f (crs A v)) = P := by
        unfold tf_name
        rw [if_neg hn]
      rw [e4, show fmA A (fm A vs) v = fm A vs from if_pos hc]
      refine ⟨a1, a2, fun w hw hx => a3 w hw (fun h9 => hx ?_)⟩
      rw [List.map_append]
      exact List.mem_append_left _ h9
    · have hc2 : crs A v ∉ vs.map (crs A) := fun h9 => hc ((fm_cr vs).mpr h9)
      have e4 : tf_name P (f (crs A v)) = ⟨nu P.num (f (crs A v)) (P.names + 1), nu P.nam P.names (f (crs A v)), P.names + 1, P.gone, P.T, P.len⟩ := by
        unfold tf_name
        rw [if_pos (a3 v hv hc2)]
      rw [e4, show fmA A (fm A vs) v = fm A vs ++ [v] from if_neg hc]
      refine ⟨?_, fun k w e => ?_, fun w hw hx => ?_⟩
      · show P.names + 1 = _
        rw [List.length_append, a1]
        rfl
      · show nu P.nam P.names (f (crs A v)) k = f (crs A w) ∧ nu P.num (f (crs A v)) (P.names + 1) (f (crs A w)) = k + 1
        by_cases hk : k < (fm A vs).length
        · rw [List.getElem?_append_left hk] at e
          have h9 := a2 k w e
          have hwm : w ∈ vs := fm_mem vs (List.mem_of_getElem? e)
          rw [nu_ne _ _ (by omega), nu_ne]
          · exact h9
          · intro e9
            have := hi.2.2.2.2.1 w v (a6 w hwm) hv e9
            exact hc2 (by rw [← this]; exact List.mem_map.mpr ⟨w, hwm, rfl⟩)
        · have h9 := (List.getElem?_eq_some_iff.mp e).1
          rw [List.length_append] at h9
          have h9' : k < (fm A vs).length + 1 := h9
          have ek : k = (fm A vs).length := by omega
          rw [ek, List.getElem?_append_right (Nat.le_refl _), Nat.sub_self] at e
          cases e
          rw [ek, ← a1, nu_same, nu_same]
          exact ⟨rfl, rfl⟩
      · show nu P.num (f (crs A v)) (P.names + 1) (f (crs A w)) = 0
        rw [List.map_append] at hx
        rw [nu_ne]
        · exact a3 w hw (fun h9 => hx (List.mem_append_left _ h9))
        · intro e9
          have := hi.2.2.2.2.1 w v hw hv e9
          exact hx (List.mem_append_right _ (by rw [this]; exact List.mem_singleton.mpr rfl))
  have hj0 : tJ A f (vs ++ [v]) (tfL (tf_vis T.2.2.2 P (lbv A f v))) (tf_vis T.2.2.2 P (lbv A f v)) := ⟨part.1, part.2.1, part.2.2, hgone, rfl, hmem⟩
  refine ⟨part.1, part.2.1, part.2.2, hgone, ?_, hmem⟩
  rw [tfL_vis, a5]
  congr 2
  have hnm := tJ_num (v := v) hj0 (by rw [List.map_append]; exact List.mem_append_right _ (List.mem_singleton.mpr rfl))
  have e1 : (tf_vis T.2.2.2 P (lbv A f v)).num = (tf_name P (f (crs A v))).num := by
    rw [← hl.1]
    rfl
  rw [e1] at hnm
  unfold tf_cell cd_first tkn
  rw [hl.1, hl.2, hnm]
  have h1 : 1 ≤ num A (vs ++ [v]) (crs A v) := by
    unfold num
    omega
  have h7 := hi.2.2.2.2.2.2.1 v hv
  by_cases h8 : sg (crs A v) = true
  · rw [if_pos (h7.mpr h8), if_pos h8]
    omega
  · rw [if_neg (fun h9 => h8 (h7.mp h9)), if_neg h8]
    omega
theorem tJ_sep {vs cells : List Nat} {P : tf_P} (h : tJ A f vs cells P) : tJ A f vs (cells ++ [0]) (tf_sep P) := by
  obtain ⟨a1, a2, a3, a4, a5, a6⟩ := h
  refine ⟨a1, a2, a3, a4, ?_, a6⟩
  rw [tfL_sep, a5]
/-- the visits of a ring up to j -/
def rgj (A : rn_L) (s j : Nat) : List Nat := (List.range j).map (rv A s)
theorem rgj_s {s j : Nat} : rgj A s (j + 1) = rgj A s j ++ [rv A s j] := by
  unfold rgj
  rw [List.range_succ, List.map_append]
  rfl
theorem rlen_le {s : Nat} (hs : s < A.flatten.length) : rlen A (rn_c A s) ≤ A.flatten.length := by
  have := rn_b_le A (rn_c A s + 1)
  unfold rlen
  omega
theorem tJ_ring {vs cells : List Nat} {s : Nat} (hi : isoN A sg f T) (hs : s < A.flatten.length) : ∀ (d j : Nat) (P : tf_P), j + d = rlen A (rn_c A s) → 0 < d → ∀ e, d ≤ e → tJ A f (vs ++ rgj A s j) (cells ++ (rgj A s j).map (tkn A sg (vs ++ rgj A s j))) P → tJ A f (vs ++ rgl A s) (cells ++ (rgl A s).map (tkn A sg (vs ++ rgl A s))) (tf_ring T.2.2.2 T.2.2.1.1 (lbv A f s) e (lbv A f (rv A s j)) P) := by
  intro d
  induction d with
  | zero => exact fun _ _ _ h => absurd h (Nat.lt_irrefl _)
  | succ d ih =>
    intro j P hj _ e he h
    obtain ⟨e1, rfl⟩ : ∃ e1, e = e1 + 1 := ⟨e - 1, by omega⟩
    have hjl : j < rlen A (rn_c A s) := by omega
    have hv := rv_lt hs hjl
    have hst := tJ_vis hi h hv
    have hN := hi.2.2.2.2.2.1 _ hv
    have hnx := rv_nx hs hjl
    have hcells : tJ A f (vs ++ rgj A s (j + 1)) (cells ++ (rgj A s (j + 1)).map (tkn A sg (vs ++ rgj A s (j + 1)))) (tf_vis T.2.2.2 P (lbv A f (rv A s j))) := by
      have e2 : vs ++ rgj A s (j + 1) = vs ++ rgj A s j ++ [rv A s j] := by rw [rgj_s, List.append_assoc]
      rw [e2]
      have e3 : cells ++ (rgj A s (j + 1)).map (tkn A sg (vs ++ rgj A s j ++ [rv A s j])) = cells ++ (rgj A s j).map (tkn A sg (vs ++ rgj A s j)) ++ [tkn A sg (vs ++ rgj A s j ++ [rv A s j]) (rv A s j)] := by
        have e9 : (rgj A s j).map (tkn A sg (vs ++ rgj A s j ++ [rv A s j])) = (rgj A s j).map (tkn A sg (vs ++ rgj A s j)) := by
          apply List.map_congr_left
          intro w hw
          exact tkn_st (List.mem_append_right _ hw)
        rw [rgj_s, List.map_append, e9, ← List.append_assoc]
        rfl
      rw [e3]
      exact hst
    rw [tf_ring]
    by_cases hjd : j + 1 = rlen A (rn_c A s)
    · rw [if_pos hjd] at hnx
      rw [if_pos (by rw [hN, hnx])]
      have e4 : rgj A s (j + 1) = rgl A s := by
        unfold rgj rgl
        rw [hjd]
      rw [e4] at hcells
      exact hcells
    · rw [if_neg hjd] at hnx
      have hne : ¬ T.2.2.1.1 (lbv A f (rv A s j)) = lbv A f s := by
        rw [hN, hnx]
        intro e5
        exact rv_ne hs (by omega) (by omega) (lbv_inj hi (rv_lt hs (by omega)) hs e5)
      rw [if_neg hne, hN, hnx]
      exact ih (j + 1) _ (by omega) (by omega) e1 (by omega) hcells
theorem tJ_comp {vs cells : List Nat} {P : tf_P} {s : Nat} (hi : isoN A sg f T) (hs : s < A.flatten.length) (h : tJ A f vs cells P) : tJ A f (vs ++ rgl A s) (cells ++ ((rgl A s).map (tkn A sg (vs ++ rgl A s)) ++ [0])) (tf_sep (tf_ring T.2.2.2 T.2.2.1.1 (lbv A f s) 24 (lbv A f s) P)) := by
  have h0 := rlen_pos hs
  have h1 := rlen_le hs
  have h2 := hi.2.1
  have h3 := hi.2.2.1
  have := tJ_ring (vs := vs) (cells := cells) hi hs (rlen A (rn_c A s)) 0 P (by omega) h0 24 (by omega) (by
    rw [show rgj A s 0 = [] from rfl, List.append_nil, List.map_nil, List.append_nil]
    exact h)
  rw [rv_0 hs] at this
  rw [← List.append_assoc]
  exact tJ_sep this
theorem tks_grow {S : List Nat} {s : Nat} : tks A sg (vsO A (S ++ [s])) (S ++ [s]) = tks A sg (vsO A S) S ++ ((rgl A s).map (tkn A sg (vsO A S ++ rgl A s)) ++ [0]) := by
  rw [tks_app, vsO_app, tks_st]
  exact fun t ht v hv => vsO_mem ht hv
theorem tJ_S {S : List Nat} {P : tf_P} {s : Nat} (hi : isoN A sg f T) (hs : s < A.flatten.length) (h : tJ A f (vsO A S) (tks A sg (vsO A S) S) P) : tJ A f (vsO A (S ++ [s])) (tks A sg (vsO A (S ++ [s])) (S ++ [s])) (tf_sep (tf_ring T.2.2.2 T.2.2.1.1 (lbv A f s) 24 (lbv A f s) P)) := by
  rw [tks_grow, vsO_app]
  exact tJ_comp hi hs h
/-- looking on from the names met -/
theorem tJ_look {S : List Nat} {cells : List Nat} {P : tf_P} (hi : isoN A sg f T) (hS : tS A S) (h : tJ A f (vsO A S) cells P) : ∀ d k, k + d = (fm A (vsO A S)).length → (∀ j w, j < k → (fm A (vsO A S))[j]? = some w → gn A S (rn_c A (mtf A w)) = true) → ((fm A (vsO A S)).drop k).find? (fun v => !gn A S (rn_c A (mtf A v))) = none ∧ (tf_look P d k).1 = none ∨ ∃ j v, (fm A (vsO A S))[j]? = some v ∧ ((fm A (vsO A S)).drop k).find? (fun v => !gn A S (rn_c A (mtf A v))) = some v ∧ tf_look P d k = (some (lbv A f (mtf A v)), j + 1) ∧ ∀ i w, i < j → (fm A (vsO A S))[i]? = some w → gn A S (rn_c A (mtf A w)) = true := by
  intro d
  induction d with
  | zero =>
    intro k hk hc
    refine Or.inl ⟨?_, rfl⟩
    rw [List.drop_of_length_le (by omega)]
    rfl
  | succ d ih =>
    intro k hk hc
    have hkl : k < (fm A (vsO A S)).length := by omega
    have e0 : (fm A (vsO A S))[k]? = some (fm A (vsO A S))[k] := List.getElem?_eq_getElem hkl
    have ed := List.drop_eq_getElem_cons hkl
    generalize hvv : (fm A (vsO A S))[k] = v at e0 ed
    have hvm : v ∈ vsO A S := fm_mem _ (List.mem_of_getElem? e0)
    have hv := h.2.2.2.2.2 v hvm
    have hnam := (h.2.1 k v e0).1
    have hg := (h.2.2.2.1 v hv).mpr hvm
    obtain ⟨m1, m2, m3, m4⟩ := lbv_mt hi hv
    have hgm := h.2.2.2.1 (mtf A v) m1
    have hgv := gn_vs hS m1
    have hl := lbv_hf hi hv
    have hu := uns_lt hi.1 hv
    have hlab : lbv A f v = 2 * P.nam k + uns A v := by rw [hnam]; rfl
    have hm0 : mt (2 * P.nam k) = 2 * P.nam k + 1 := by
      unfold mt
      rw [if_pos (by omega)]
    have hm1 : mt (2 * P.nam k + 1) = 2 * P.nam k := by
      unfold mt
      rw [if_neg (by omega)]
      rfl
    have hu2 : (lbv A f v = 2 * P.nam k ∧ lbv A f (mtf A v) = 2 * P.nam k + 1) ∨ (lbv A f v = 2 * P.nam k + 1 ∧ lbv A f (mtf A v) = 2 * P.nam k) := by
      rcases Nat.lt_or_ge (uns A v) 1 with h9 | h9
      · have e9 : uns A v = 0 := by omega
        rw [m3, hlab, e9, Nat.add_zero]
        exact Or.inl ⟨rfl, hm0⟩
      · have e9 : uns A v = 1 := by omega
        rw [m3, hlab, e9]
        exact Or.inr ⟨rfl, hm1⟩
    rw [ed, List.find?_cons, tf_look]
    unfold o_gn at hg hgm
    by_cases hp : gn A S (rn_c A (mtf A v)) = true
    · -- both visits gone
      have hgm2 := hgm.mpr (hgv.mp hp)
      have b1 : ¬ P.gone / 2 ^ (2 * P.nam k) % 2 = 0 ∧ ¬ P.gone / 2 ^ (2 * P.nam k + 1) % 2 = 0 := by
        rcases hu2 with ⟨q1, q2⟩ | ⟨q1, q2⟩
        · rw [q1] at hg
          rw [q2] at hgm2
          exact ⟨by omega, by omega⟩
        · rw [q1] at hg
          rw [q2] at hgm2
          exact ⟨by omega, by omega⟩
      rw [if_neg b1.1, if_neg b1.2, show (!gn A S (rn_c A (mtf A v))) = false from by rw [hp]; rfl]
      refine ih (k + 1) (by omega) (fun j w hj e => ?_)
      by_cases e9 : j = k
      · rw [e9, e0] at e
        cases e
        exact hp
      · exact hc j w (by omega) e
    · have hp2 : gn A S (rn_c A (mtf A v)) = false := by
        cases h9 : gn A S (rn_c A (mtf A v))
        · rfl
        · exact absurd h9 hp
      have hgm2 : P.gone / 2 ^ lbv A f (mtf A v) % 2 = 0 := by
        have : ¬ P.gone / 2 ^ lbv A f (mtf A v) % 2 = 1 := fun h9 => hp (hgv.mpr (hgm.mp h9))
        omega
      rw [show (!gn A S (rn_c A (mtf A v))) = true from by rw [hp2]; rfl]
      refine Or.inr ⟨k, v, e0, rfl, ?_, hc⟩
      rcases hu2 with ⟨q1, q2⟩ | ⟨q1, q2⟩
      · rw [q1] at hg
        rw [q2] at hgm2 ⊢
        rw [if_neg (by omega), if_pos hgm2]
      · rw [q2] at hgm2 ⊢
        rw [if_pos hgm2]
theorem tJ_out (hi : isoN A sg f T) : ∀ (d fu : Nat) (S : List Nat) (k : Nat) (P : tf_P), tS A S → tJ A f (vsO A S) (tks A sg (vsO A S) S) P → rem (gn A S) (fun _ => 1) A.length ≤ d → rem (gn A S) (fun _ => 1) A.length ≤ fu → k ≤ (fm A (vsO A S)).length → (∀ j w, j < k → (fm A (vsO A S))[j]? = some w → gn A S (rn_c A (mtf A w)) = true) → tJ A f (vsO A (trF A fu S)) (tks A sg (vsO A (trF A fu S)) (trF A fu S)) (tf_out T.2.2.2 T.2.2.1.1 d (tf_look P (P.names - k) k).1 (tf_look P (P.names - k) k).2 P) := by
  have hd := wkF_ok hi.1
  intro d
  induction d with
  | zero =>
    intro fu S k P hS hJ hr1 hr2 hk hc
    have hx : nxS A S = none := by
      cases hx : nxS A S with
      | none => rfl
      | some w =>
        obtain ⟨h1, h2, -⟩ := nxS_step hd hS hx
        have hw : w < A.flatten.length := h1.2 w (by simp)
        have h3 := rem_zero (g := gn A S) A.length (by omega) (rn_c A w) (rn_c_in A w hw).1
        rw [h2] at h3
        cases h3
    rw [trF_none hx]
    exact hJ
  | succ d ih =>
    intro fu S k P hS hJ hr1 hr2 hk hc
    have hfind : ((fm A (vsO A S)).drop k).find? (fun v => !gn A S (rn_c A (mtf A v))) = (fm A (vsO A S)).find? (fun v => !gn A S (rn_c A (mtf A v))) := by
      have : ((fm A (vsO A S)).take k ++ (fm A (vsO A S)).drop k).find? (fun v => !gn A S (rn_c A (mtf A v))) = ((fm A (vsO A S)).drop k).find? (fun v => !gn A S (rn_c A (mtf A v))) := by
        rw [List.find?_append]
        have h9 : ((fm A (vsO A S)).take k).find? (fun v => !gn A S (rn_c A (mtf A v))) = none := by
          rw [List.find?_eq_none]
          intro w hw h8
          obtain ⟨j, hj⟩ := List.getElem?_of_mem hw
          rw [List.getElem?_take] at hj
          by_cases h7 : j < k
          · rw [if_pos h7] at hj
            have := hc j w h7 hj
            rw [this] at h8
            cases h8
          · rw [if_neg h7] at hj
            cases hj
        rw [h9]
        rfl
      rw [List.take_append_drop] at this
      exact this.symm
    have hl := tJ_look hi hS hJ ((fm A (vsO A S)).length - k) k (by omega) hc
    rw [hJ.1]
    rcases hl with ⟨l1, l2⟩ | ⟨j, v, l1, l2, l3, l4⟩
    · rw [hfind] at l1
      have hx : nxS A S = none := by
        unfold nxS
        rw [l1]
        rfl
      rw [trF_none hx, l2]
      exact hJ
    · rw [hfind] at l2
      have hx : nxS A S = some (mtf A v) := by
        unfold nxS
        rw [l2]
        rfl
      obtain ⟨h1, h2, -⟩ := nxS_step hd hS hx
      have hw : mtf A v < A.flatten.length := h1.2 _ (by simp)
      have hrs := rem_st (f := fun _ => 1) h2 (fun b => gn_app (A := A) (S := S) (w := mtf A v) (b := b)) A.length (rn_c_in A _ hw).1
      obtain ⟨fu1, rfl⟩ : ∃ fu1, fu = fu1 + 1 := ⟨fu - 1, by omega⟩
      rw [trF_some hx, l3]
      have hJ2 := tJ_S hi hw hJ
      have hpre := fm_pre (A := A) (vsO A S) (rgl A (mtf A v))
      rw [← vsO_app] at hpre
      obtain ⟨us, hus⟩ := hpre
      have hjl := (List.getElem?_eq_some_iff.mp l1).1
      refine ih fu1 (S ++ [mtf A v]) (j + 1) _ h1 hJ2 (by omega) (by omega) ?_ (fun i w hij e => ?_)
      · rw [hus, List.length_append]
        omega
      · rw [hus, List.getElem?_append_left (by omega)] at e
        rw [gn_app]
        by_cases e9 : i = j
        · rw [e9, l1] at e
          cases e
          rw [decide_eq_true rfl, Bool.or_true]
        · rw [l4 i w (by omega) e]
          rfl
theorem iso_code {s : Nat} (hi : isoN A sg f T) (hA : A.length ≤ 23) (hs : s < A.flatten.length) : tfL (tf_code T.2.2.2 T.2.2.1.1 (lbv A f s)) = cdv A sg s := by
  have h0 : tJ A f (vsO A []) (tks A sg (vsO A []) []) tf_0 := by
    refine ⟨rfl, fun k w e => ?_, fun v hv _ => rfl, fun v hv => ?_, rfl, fun v hv => by cases hv⟩
    · rw [show fm A (vsO A []) = [] from rfl, List.getElem?_nil] at e
      cases e
    · refine ⟨fun h9 => ?_, fun h9 => by cases h9⟩
      have h8 : 0 / 2 ^ lbv A f v % 2 = 1 := h9
      rw [Nat.zero_div] at h8
      omega
  have h1 := tJ_S hi hs h0
  have hts : tS A [s] := ⟨List.nodup_cons.mpr ⟨fun h => (by cases h), List.nodup_nil⟩, fun t ht => by rw [List.mem_singleton.mp ht]; exact hs⟩
  have hrs := rem_st (g := gn A []) (f := fun _ => 1) (c := rn_c A s) rfl (fun b => gn_app (A := A) (S := []) (w := s) (b := b)) A.length (rn_c_in A _ hs).1
  have hr1 := rem_1 A.length
  have hr0 : rem (gn A []) (fun _ => 1) A.length = A.length := (rem_congr A.length (fun c _ => rfl)).trans hr1
  have h2 := tJ_out hi 23 A.length ([] ++ [s]) 0 _ hts h1 (by omega) (by omega) (Nat.zero_le _) (fun j w hj _ => absurd hj (Nat.not_lt_zero _))
  have h3 := h2.2.2.2.2.1
  exact h3
end CI
end
