/-! normal forms: the class, a braid -/
theorem lx_f {c : Nat} (hc : c < 4) : ¬ (lx9 (c, false) ≤ 0) ∧ (if 0 ≤ lx9 (c, false) then lx9 (c, false) else 0 - lx9 (c, false)) - 1 = nI c := by
  have : ∀ c : Fin 4, ¬ (lx9 (c.val, false) ≤ 0) ∧ (if 0 ≤ lx9 (c.val, false) then lx9 (c.val, false) else 0 - lx9 (c.val, false)) - 1 = nI c.val := by decide +kernel
  exact this ⟨c, hc⟩
theorem lx_t {c : Nat} (hc : c < 4) : lx9 (c, true) ≤ 0 ∧ (if 0 ≤ lx9 (c, true) then lx9 (c, true) else 0 - lx9 (c, true)) - 1 = nI c := by
  have : ∀ c : Fin 4, lx9 (c.val, true) ≤ 0 ∧ (if 0 ≤ lx9 (c.val, true) then lx9 (c.val, true) else 0 - lx9 (c.val, true)) - 1 = nI c.val := by decide +kernel
  exact this ⟨c, hc⟩
section NF10
variable {vl : Nat → Nat} {y : ow_MS} {h n : Nat}
theorem st_ok (h2 : 2 ≤ n) (h5 : n ≤ 5) {p : Nat × Bool} {T : List Nat × Int} (hp : p.1 + 1 < n) (hT : okT n T.1) : okT n (stB9 n p T).1 := by
  unfold stB9
  split
  · exact okT_a.mpr ⟨okT_ov h2 h5 hT, okT_c.mpr ⟨(f_one h2 h5 (lett h2 h5 hp)).2.1, okT_n⟩⟩
  · exact okT_a.mpr ⟨hT, okT_c.mpr ⟨lett h2 h5 hp, okT_n⟩⟩
theorem fo_ok (h2 : 2 ≤ n) (h5 : n ≤ 5) {w : Nat → Nat × Bool} : ∀ (i : Nat), (∀ j, j < i → (w j).1 + 1 < n) → okT n (foT n w i).1
  | 0, _ => okT_n
  | i + 1, hw => st_ok h2 h5 (hw i (Nat.lt_succ_self _)) (fo_ok h2 h5 i (fun j hj => hw j (by omega)))
theorem rp_ok {j : Nat} : okT n (List.replicate j (gNN n - 1)) := fun t ht => by
  rw [(List.mem_replicate.mp ht).2]
  exact dl_lt
/-- one more behind, deltas in front -/
theorem eq_beh (h2 : 2 ≤ n) (h5 : n ≤ 5) {T F F' : List Nat} {j d b : Nat} (hT : okT n T) (hF : okT n F) (hb : b < gNN n) (he : eqT n T (List.replicate j (gNN n - 1) ++ F)) (h1 : eqT n (F ++ [b]) (List.replicate d (gNN n - 1) ++ F')) : eqT n (T ++ [b]) (List.replicate (j + d) (gNN n - 1) ++ F') := by
  refine eqT_tr (eqT_app h2 h5 hb hT (okT_a.mpr ⟨rp_ok, hF⟩) he) ?_
  rw [List.append_assoc, ← List.replicate_append_replicate, List.append_assoc]
  exact fun V hV => eqT_pre h2 h5 V _ _ _ hV rp_ok h1
theorem xc_takeLetter {p : Nat × Bool} {T : List Nat × Int} {F : List Nat} {j : Nat} (hh : fO h) (h2 : 2 ≤ n) (h5 : n ≤ 5) (hp : p.1 + 1 < n) (hT : okT n T.1) (hF : nfL n F) (hl : F.length < 24) (he : eqT n T.1 (List.replicate j (gNN n - 1) ++ F)) (h0 : foA y h n (iI (T.2 + j)) (F.map (pkG n))) : Te (fun K => ce_X5_takeLetter vl K h (lx9 p) y) (fun y1 => ∃ F' j', foA y1 h n (iI ((stB9 n p T).2 + (j' : Nat))) (F'.map (pkG n)) ∧ nfL n F' ∧ F'.length ≤ F.length + 1 ∧ eqT n (stB9 n p T).1 (List.replicate j' (gNN n - 1) ++ F') ∧ fr (foP h) y y1) := by
  let Q : ow_MS → Prop := fun y1 => ∃ F' j', foA y1 h n (iI ((stB9 n p T).2 + (j' : Nat))) (F'.map (pkG n)) ∧ nfL n F' ∧ F'.length ≤ F.length + 1 ∧ eqT n (stB9 n p T).1 (List.replicate j' (gNN n - 1) ++ F') ∧ fr (foP h) y y1
  obtain ⟨h3, hl24⟩ := fo_len h0
  obtain ⟨c, sg⟩ := p
  have hp : c + 1 < n := hp
  have hle := lett h2 h5 hp
  have hah := (f_one h2 h5 hle).2.1
  have hFo := nf_ov h2 h5 hF
  have c1 : ∀ (d i : Nat) (z : ow_MS), sg = true → i + d = F.length → foA z h n (iI (T.2 + j)) (((F.map (ovG n)).take i ++ F.drop i).map (pkG n)) → fr (foP h) y z → Tt (fun K t => c_X5_takeLetter vl K t 1 (lx9 (c, sg)) (nI c) (nI i) h z) Q := by
    intro d
    induction d with
    | zero =>
      intro i z es hi hz hf
      subst es
      have e0 : (F.map (ovG n)).take i ++ F.drop i = F.map (ovG n) := by
        rw [List.drop_of_length_le (by omega), List.append_nil, List.take_of_length_le (by rw [List.length_map]; omega)]
      rw [e0] at hz
      obtain ⟨z3, -⟩ := fo_len hz
      rw [List.length_map] at z3
      refine u_X5_takeLetter_1 ?_; unfold cm_X5_takeLetter_1
      refine w_rdF z3 (w_leT (by omega) (by omega) (w_rdF hz.2.1 (w_wrF ?_)))
      rw [show (1 : Int32) = iI 1 from rfl, iI_sub]
      have hz' : foA (usF z (h + 2) (iI (T.2 + j - 1))) h n (iI (T.2 + j - 1)) ((F.map (ovG n)).map (pkG n)) := by
        obtain ⟨a1, a2, a3, a4, a5, a6, a7⟩ := hz
        exact ⟨rf_ot (by omega) a1, po_usF_at, rf_ot (by omega) a3, a4, a5, rf_ot (by omega) a6, rf_ot (by omega) a7⟩
      refine w_rdF hz'.2.2.2.2.2.2 (w_rdF hz'.1 (w_cs1 (tc_exchangedBehind h5) ?_))
      rintro v z1 ⟨e1, e2⟩
      dsimp only at e1 e2
      rw [e1, e2, (d_ql h2 h5 hp).2.1]
      refine w_cs0 (xc_putBehindF hh h2 h5 hFo hah (by rw [List.length_map]; exact hl) hz') ?_
      rintro z2 ⟨d2, F', g1, g2, g3, g4, g5⟩
      rw [List.length_map] at g3
      refine w_some ⟨F', j + d2, ?_, g2, g3, ?_, fr_tr (fr_F2 hf (by unfold foP; omega)) g5⟩
      · rw [nI_iI, iI_add] at g1
        have : T.2 + (j : Int) - 1 + (d2 : Int) = T.2 - 1 + ((j + d2 : Nat) : Int) := by omega
        rw [this] at g1
        exact g1
      · have k := eqT_ov h2 h5 hT (okT_a.mpr ⟨rp_ok, hF.1⟩) he
        rw [List.map_append, List.map_replicate, ov_D h2 h5] at k
        exact eq_beh h2 h5 (okT_ov h2 h5 hT) hFo.1 hah k g4
    | succ d ih =>
      intro i z es hi hz hf
      subst es
      have li : i < F.length := by omega
      have lt : ((F.map (ovG n)).take i).length = i := by
        rw [List.length_take, List.length_map]
        omega
      have ei : ((F.map (ovG n)).take i ++ F.drop i)[i]? = some F[i] := by
        rw [List.getElem?_append_right (by omega), lt, Nat.sub_self, List.drop_eq_getElem_cons li]
        rfl
      obtain ⟨z3, -⟩ := fo_len hz
      rw [List.length_append, lt, List.length_drop, show i + (F.length - i) = F.length by omega] at z3
      refine u_X5_takeLetter_1 ?_; unfold cm_X5_takeLetter_1
      refine w_rdF z3 (w_leF (by omega) (by omega) (w_crI (fO_4 hh) rfl (show i < 24 by omega) (fo_rd hz ei) (w_rdF hz.1 (w_cs1 (tc_turned h5) ?_))))
      rintro v z1 ⟨e1, e2⟩
      dsimp only at e1 e2
      rw [e1, e2, (d_qk h2 h5 (hF.1 _ (List.getElem_mem li))).2.1]
      refine w_ctI (fO_4 hh) rfl (show i < 24 by omega) ?_
      rw [nI_1]
      refine ih (i + 1) _ rfl (by omega) ?_ (fr_I2 hf (by unfold foP; omega))
      have k := fo_set (i := i) (p := ovG n F[i]) hz
      have e3 : ((F.map (ovG n)).take i ++ F.drop i).set i (ovG n F[i]) = (F.map (ovG n)).take (i + 1) ++ F.drop (i + 1) := by
        rw [List.set_append_right _ _ (by omega), lt, Nat.sub_self, List.drop_eq_getElem_cons li, List.set_cons_zero, List.take_succ, List.getElem?_map, List.getElem?_eq_getElem li, List.append_assoc]
        rfl
      rw [e3] at k
      exact k
  cases sg with
  | false =>
    obtain ⟨x1, x2⟩ := lx_f (c := c) (by omega)
    refine e_X5_takeLetter ?_
    refine u_X5_takeLetter_0 ?_; unfold cm_X5_takeLetter_0
    rw [x2]
    refine w_ifF x1 (w_rdF h0.2.2.2.2.2.1 (w_cs1 tc_exchanged ?_))
    rintro v z1 ⟨e1, e2⟩
    dsimp only at e1 e2
    rw [e1, e2, (d_ql h2 h5 hp).1]
    refine w_cs0 (xc_putBehindF hh h2 h5 hF hle hl h0) ?_
    rintro z2 ⟨d2, F', g1, g2, g3, g4, g5⟩
    refine w_some ⟨F', j + d2, ?_, g2, g3, eq_beh h2 h5 hT hF.1 hle he g4, g5⟩
    rw [nI_iI, iI_add] at g1
    have : T.2 + (j : Int) + (d2 : Int) = T.2 + ((j + d2 : Nat) : Int) := by omega
    rw [this] at g1
    exact g1
  | true =>
    obtain ⟨x1, x2⟩ := lx_t (c := c) (by omega)
    refine e_X5_takeLetter ?_
    refine u_X5_takeLetter_0 ?_; unfold cm_X5_takeLetter_0
    rw [x2]
    exact w_ifT x1 (c1 F.length 0 y rfl (by omega) h0 fr_rf)
theorem xc_writeF {b l : Nat} {w : Nat → Nat × Bool} (hh : fO h) (h2 : 2 ≤ n) (h5 : n ≤ 5) (hb : b < 20) (e15 : y.2.1 15 b = nI n) (hl : l ≤ 16) (e14 : y.2.1 14 b = nI l) (hw : ∀ i, i < l → (w i).1 + 1 < n ∧ y.2.1 13 (16 * b + i) = lx9 (w i)) : Te (fun K => ce_X11_write vl K 0 h (nI b) y) (fun y1 => ∃ F j, foA y1 h n (iI ((foT n w l).2 + (j : Nat))) (F.map (pkG n)) ∧ nfL n F ∧ F.length ≤ l ∧ eqT n (foT n w l).1 (List.replicate j (gNN n - 1) ++ F) ∧ fr (foP h) y y1) := by
  have hh6 : 46000 ≤ h := by
    rcases hh with rfl | rfl | rfl | rfl <;> omega
  let Q : ow_MS → Prop := fun y1 => ∃ F j, foA y1 h n (iI ((foT n w l).2 + (j : Nat))) (F.map (pkG n)) ∧ nfL n F ∧ F.length ≤ l ∧ eqT n (foT n w l).1 (List.replicate j (gNN n - 1) ++ F) ∧ fr (foP h) y y1
  have c1 : ∀ (d i : Nat) (z : ow_MS) (F : List Nat) (j : Nat), i + d = l → foA z h n (iI ((foT n w i).2 + (j : Nat))) (F.map (pkG n)) → nfL n F → F.length ≤ i → eqT n (foT n w i).1 (List.replicate j (gNN n - 1) ++ F) → fr (foP h) y z → Tt (fun K t => c_X11_write vl K t 1 (nI b) (nI i) 0 h z) Q := by
    intro d
    induction d with
    | zero =>
      intro i z F j hi q1 q2 q3 q4 q5
      have e : i = l := by omega
      subst e
      refine u_X11_write_1 ?_; unfold cm_X11_write_1
      exact w_crI ch_14 rfl hb ((congrFun (q5 14 (by unfold foP; omega)).2.1 b).trans e14) (w_leT (by omega) (by omega) (w_some ⟨F, j, q1, q2, q3, q4, q5⟩))
    | succ d ih =>
      intro i z F j hi q1 q2 q3 q4 q5
      obtain ⟨w1, w2⟩ := hw i (by omega)
      refine u_X11_write_1 ?_; unfold cm_X11_write_1
      rw [m16, nI_add]
      refine w_crI ch_14 rfl hb ((congrFun (q5 14 (by unfold foP; omega)).2.1 b).trans e14) (w_leF (by omega) (by omega) (w_crI ch_13 rfl (show 16 * b + i < 320 by omega) ((congrFun (q5 13 (by unfold foP; omega)).2.1 _).trans w2) (w_cs0 (xc_takeLetter hh h2 h5 w1 (fo_ok h2 h5 i (fun k hk => (hw k (by omega)).1)) q2 (by omega) q4 q1) ?_)))
      rintro z1 ⟨F', j', g1, g2, g3, g4, g5⟩
      rw [nI_1]
      exact ih (i + 1) z1 F' j' (by omega) g1 g2 (by omega) g4 (fr_tr q5 g5)
  refine e_X11_write ?_
  refine u_X11_write_0 ?_; unfold cm_X11_write_0
  refine w_crI ch_15 rfl hb e15 (w_cs0 (tc_begin h5) ?_)
  rintro z ⟨g1, g2⟩
  exact c1 l 0 z [] 0 (by omega) g1 ⟨okT_n, fun i g g' k1 _ => (by rw [List.getElem?_nil] at k1; cases k1), fun g hg => absurd hg List.not_mem_nil⟩ (Nat.le_refl _) (eqT_rf _) g2
end NF10
