/-! normal forms: the class, a braid -/
section NF10
variable {vl : Nat → Nat} {y : ow_MS} {h n : Nat}
theorem st_ok (h2 : 2 ≤ n) (h5 : n ≤ 5) {p : Nat × Bool} {T : List Nat × Int} (hp : p.1 + 1 < n) (hT : okT n T.1) : okT n (stB9 n p T).1 := by
  unfold stB9
  split
  · exact okT_a.mpr ⟨okT_ov h2 h5 hT, okT_c.mpr ⟨(f_one h2 h5 (lett h2 h5 hp)).2.1, okT_n⟩⟩
  · exact okT_a.mpr ⟨hT, okT_c.mpr ⟨lett h2 h5 hp, okT_n⟩⟩
theorem fo_ok (h2 : 2 ≤ n) (h5 : n ≤ 5) {w : Nat → Nat × Bool} : ∀ (i : Nat), (∀ j, j < i → (w j).1 + 1 < n) → okT n (foT n w i).1
  | 0, _ => okT_n
  | i + 1, hw => st_ok h2 h5 (hw i (Nat.lt_succ_self _)) (fo_ok h2 h5 i (fun j hj => hw j (by omega)))
theorem rp_ok {j : Nat} : okT n (List.replicate j (gNN n - 1)) := fun t ht => by
  rw [(List.mem_replicate.mp ht).2]
  exact dl_lt
/-- one more behind, deltas in front -/
theorem eq_beh (h2 : 2 ≤ n) (h5 : n ≤ 5) {T F F' : List Nat} {j d b : Nat} (hT : okT n T) (hF : okT n F) (hb : b < gNN n) (he : eqT n T (List.replicate j (gNN n - 1) ++ F)) (h1 : eqT n (F ++ [b]) (List.replicate d (gNN n - 1) ++ F')) : eqT n (T ++ [b]) (List.replicate (j + d) (gNN n - 1) ++ F') := by
  refine eqT_tr (eqT_app h2 h5 hb hT (okT_a.mpr ⟨rp_ok, hF⟩) he) ?_
  rw [List.append_assoc, ← List.replicate_append_replicate, List.append_assoc]
  exact fun V hV => eqT_pre h2 h5 V _ _ _ hV rp_ok h1
theorem xc_takeLetter {p : Nat × Bool} {T : List Nat × Int} {F : List Nat} {j : Nat} (hh : fO h) (h2 : 2 ≤ n) (h5 : n ≤ 5) (hp : p.1 + 1 < n) (hT : okT n T.1) (hF : nfL n F) (hl : F.length < 24) (he : eqT n T.1 (List.replicate j (gNN n - 1) ++ F)) (h0 : foA y h n (iI (T.2 + j)) (F.map (pkG n))) : Te (fun K => ce_X5_takeLetter vl K h (lx9 p) y) (fun y1 => ∃ F' j', foA y1 h n (iI ((stB9 n p T).2 + (j' : Nat))) (F'.map (pkG n)) ∧ nfL n F' ∧ F'.length ≤ F.length + 1 ∧ eqT n (stB9 n p T).1 (List.replicate j' (gNN n - 1) ++ F') ∧ fr (foP h) y y1) := by
  let Q : ow_MS → Prop := fun y1 => ∃ F' j', foA y1 h n (iI ((stB9 n p T).2 + (j' : Nat))) (F'.map (pkG n)) ∧ nfL n F' ∧ F'.length ≤ F.length + 1 ∧ eqT n (stB9 n p T).1 (List.replicate j' (gNN n - 1) ++ F') ∧ fr (foP h) y y1
  obtain ⟨h3, hl24⟩ := fo_len h0
  obtain ⟨c, sg⟩ := p
  have hp : c + 1 < n := hp
  have hle := lett h2 h5 hp
  have hah := (f_one h2 h5 hle).2.1
  have hFo := nf_ov h2 h5 hF
  have tk : ∀ i, ((F.map (ovG n)).take i ++ F.drop i).length = F.length := fun i => by
    rw [List.length_append, List.length_take, List.length_drop, List.length_map]
    omega
  cases sg with
  | false =>
    refine e_X5_takeLetter ?_
    refine u_X5_takeLetter_0 ?_; unfold cm_X5_takeLetter_0
    sorry
  | true =>
    refine e_X5_takeLetter ?_
    refine u_X5_takeLetter_0 ?_; unfold cm_X5_takeLetter_0
    sorry
end NF10
