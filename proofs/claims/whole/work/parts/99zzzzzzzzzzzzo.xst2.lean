/-! the law's loop: what is left of the whole -/
section XLP
theorem te_if {O : Type} {c : Prop} [Decidable c] {f g : Nat → Option O} {Q : O → Prop} (h1 : c → Te f Q) (h2 : ¬ c → Te g Q) : Te (fun K => if c then f K else g K) Q := by
  by_cases h : c
  · obtain ⟨r, ⟨b, hb⟩, hQ⟩ := h1 h
    exact ⟨r, ⟨b, fun K hK => (if_pos h).trans (hb K hK)⟩, hQ⟩
  · obtain ⟨r, ⟨b, hb⟩, hQ⟩ := h2 h
    exact ⟨r, ⟨b, fun K hK => (if_neg h).trans (hb K hK)⟩, hQ⟩
theorem rel_phi {S : ow_LwS} (h : REL S) : dPhi S.1 ≤ 2800000 := by
  obtain ⟨-, ⟨-, -, -, -, -, -, -, W, C, hv⟩, -⟩ := h
  have := vI_phi hv
  obtain ⟨-, -, -, -, -, -, h1, h2, h3, h4⟩ := hv
  omega
/-- any run of calls -/
theorem run_rel (H : ∀ (S : ow_LwS) (x0 x1 x2 x3 x4 x5 : Int32), REL S → Te (fun K => lstep K x0 x1 x2 x3 x4 x5 S) (fun S1 => REL S1 ∧ dPhi S.1 ≤ dPhi S1.1)) (xs : Nat → Int32) : ∀ (k n : Nat) (S : ow_LwS), REL S → ∃ SE b, ∀ K, b ≤ K → lrun K xs k n S = some SE
  | 0, n, S, _ => ⟨S, 0, fun K _ => rfl⟩
  | k + 1, n, S, h => by
    obtain ⟨S1, ⟨b1, hb1⟩, h1, h2⟩ := H S (xs (6 * n)) (xs (6 * n + 1)) (xs (6 * n + 2)) (xs (6 * n + 3)) (xs (6 * n + 4)) (xs (6 * n + 5)) h
    obtain ⟨SE, b2, hb2⟩ := run_rel H xs k (n + 1) S1 h1
    refine ⟨SE, b1 + b2, fun K hK => ?_⟩
    have e : lstep K (xs (6 * n)) (xs (6 * n + 1)) (xs (6 * n + 2)) (xs (6 * n + 3)) (xs (6 * n + 4)) (xs (6 * n + 5)) S = some S1 := hb1 K (by omega)
    show (match lstep K (xs (6 * n)) (xs (6 * n + 1)) (xs (6 * n + 2)) (xs (6 * n + 3)) (xs (6 * n + 4)) (xs (6 * n + 5)) S with
      | none => none
      | some S1 => if dPhi S.1 ≤ dPhi S1.1 ∧ dPhi S1.1 ≤ 2800000 then lrun K xs k (n + 1) S1 else none) = some SE
    rw [e]
    show (if dPhi S.1 ≤ dPhi S1.1 ∧ dPhi S1.1 ≤ 2800000 then lrun K xs k (n + 1) S1 else none) = some SE
    rw [if_pos ⟨h2, rel_phi h1⟩]
    exact hb2 K (by omega)
theorem x63 {x : Int32} (h : ¬ (x.toInt < 0 ∨ 38 < x.toInt)) : ∃ i, i < 39 ∧ x = nI i := by
  refine ⟨x.toInt.toNat, by omega, ?_⟩
  refine Int32.toInt_inj.mp ?_
  rw [nI_toInt (by omega)]
  omega
/-- one call -/
theorem step_all (h_way : stp lst_way) (h_summands : stp lst_summands) (h_conway : stp lst_conway) (h_signature : stp lst_signature) (h_cover : stp lst_cover) (h_colours : stp lst_colours) (h_maps : stp lst_maps) (h_chain : stp lst_chain) (h_rank : stp lst_rank) (h_normal : stp lst_normal) (h_factor : stp lst_factor) (h_equal : stp lst_equal) (h_summit : stp lst_summit) (h_conjugate : stp lst_conjugate) (h_two : stp lst_two) (S : ow_LwS) (x0 x1 x2 x3 x4 x5 : Int32) (h : REL S) : Te (fun K => lstep K x0 x1 x2 x3 x4 x5 S) (fun S1 => REL S1 ∧ dPhi S.1 ≤ dPhi S1.1) := by
  unfold lstep
  refine te_if (fun _ => ⟨S, ⟨0, fun K _ => rfl⟩, h, Nat.le_refl _⟩) (fun hx => ?_)
  refine te_if (fun _ => st_feed S x1 x2 x3 x4 x5 h) (fun n_feed => ?_)
  refine te_if (fun _ => st_end S x1 x2 x3 x4 x5 h) (fun n_end => ?_)
  refine te_if (fun _ => st_diagram S x1 x2 x3 x4 x5 h) (fun n_diagram => ?_)
  refine te_if (fun _ => st_braid S x1 x2 x3 x4 x5 h) (fun n_braid => ?_)
  refine te_if (fun _ => st_drop S x1 x2 x3 x4 x5 h) (fun n_drop => ?_)
  refine te_if (fun _ => st_dropBraid S x1 x2 x3 x4 x5 h) (fun n_dropBraid => ?_)
  refine te_if (fun _ => st_figure S x1 x2 x3 x4 x5 h) (fun n_figure => ?_)
  refine te_if (fun _ => st_visit S x1 x2 x3 x4 x5 h) (fun n_visit => ?_)
  refine te_if (fun _ => st_linking S x1 x2 x3 x4 x5 h) (fun n_linking => ?_)
  refine te_if (fun _ => st_alike S x1 x2 x3 x4 x5 h) (fun n_alike => ?_)
  refine te_if (fun _ => st_mirror S x1 x2 x3 x4 x5 h) (fun n_mirror => ?_)
  refine te_if (fun _ => st_reverse S x1 x2 x3 x4 x5 h) (fun n_reverse => ?_)
  refine te_if (fun _ => st_change S x1 x2 x3 x4 x5 h) (fun n_change => ?_)
  refine te_if (fun _ => st_smooth S x1 x2 x3 x4 x5 h) (fun n_smooth => ?_)
  refine te_if (fun _ => st_apart S x1 x2 x3 x4 x5 h) (fun n_apart => ?_)
  refine te_if (fun _ => st_join S x1 x2 x3 x4 x5 h) (fun n_join => ?_)
  refine te_if (fun _ => st_moves S x1 x2 x3 x4 x5 h) (fun n_moves => ?_)
  refine te_if (fun _ => st_moved S x1 x2 x3 x4 x5 h) (fun n_moved => ?_)
  refine te_if (fun _ => st_simplify S x1 x2 x3 x4 x5 h) (fun n_simplify => ?_)
  refine te_if (fun _ => h_way S x1 x2 x3 x4 x5 h) (fun n_way => ?_)
  refine te_if (fun _ => h_summands S x1 x2 x3 x4 x5 h) (fun n_summands => ?_)
  refine te_if (fun _ => st_summand S x1 x2 x3 x4 x5 h) (fun n_summand => ?_)
  refine te_if (fun _ => h_conway S x1 x2 x3 x4 x5 h) (fun n_conway => ?_)
  refine te_if (fun _ => st_jones S x1 x2 x3 x4 x5 h) (fun n_jones => ?_)
  refine te_if (fun _ => h_signature S x1 x2 x3 x4 x5 h) (fun n_signature => ?_)
  refine te_if (fun _ => h_cover S x1 x2 x3 x4 x5 h) (fun n_cover => ?_)
  refine te_if (fun _ => h_colours S x1 x2 x3 x4 x5 h) (fun n_colours => ?_)
  refine te_if (fun _ => h_maps S x1 x2 x3 x4 x5 h) (fun n_maps => ?_)
  refine te_if (fun _ => h_chain S x1 x2 x3 x4 x5 h) (fun n_chain => ?_)
  refine te_if (fun _ => h_rank S x1 x2 x3 x4 x5 h) (fun n_rank => ?_)
  refine te_if (fun _ => st_closure S x1 x2 x3 x4 x5 h) (fun n_closure => ?_)
  refine te_if (fun _ => st_product S x1 x2 x3 x4 x5 h) (fun n_product => ?_)
  refine te_if (fun _ => st_inverse S x1 x2 x3 x4 x5 h) (fun n_inverse => ?_)
  refine te_if (fun _ => h_normal S x1 x2 x3 x4 x5 h) (fun n_normal => ?_)
  refine te_if (fun _ => h_factor S x1 x2 x3 x4 x5 h) (fun n_factor => ?_)
  refine te_if (fun _ => h_equal S x1 x2 x3 x4 x5 h) (fun n_equal => ?_)
  refine te_if (fun _ => h_summit S x1 x2 x3 x4 x5 h) (fun n_summit => ?_)
  refine te_if (fun _ => h_conjugate S x1 x2 x3 x4 x5 h) (fun n_conjugate => ?_)
  refine te_if (fun _ => h_two S x1 x2 x3 x4 x5 h) (fun n_two => ?_)
  exfalso
  obtain ⟨i, hi, e⟩ := x63 hx
  rw [e] at n_feed n_end n_diagram n_braid n_drop n_dropBraid n_figure n_visit n_linking n_alike n_mirror n_reverse n_change n_smooth n_apart n_join n_moves n_moved n_simplify n_way n_summands n_summand n_conway n_jones n_signature n_cover n_colours n_maps n_chain n_rank n_closure n_product n_inverse n_normal n_factor n_equal n_summit n_conjugate n_two
  have key : ∀ i : Fin 39, ¬ (¬ nI i.val = 0 ∧ ¬ nI i.val = 1 ∧ ¬ nI i.val = 2 ∧ ¬ nI i.val = 3 ∧ ¬ nI i.val = 4 ∧ ¬ nI i.val = 5 ∧ ¬ nI i.val = 6 ∧ ¬ nI i.val = 7 ∧ ¬ nI i.val = 8 ∧ ¬ nI i.val = 9 ∧ ¬ nI i.val = 10 ∧ ¬ nI i.val = 11 ∧ ¬ nI i.val = 12 ∧ ¬ nI i.val = 13 ∧ ¬ nI i.val = 14 ∧ ¬ nI i.val = 15 ∧ ¬ nI i.val = 16 ∧ ¬ nI i.val = 17 ∧ ¬ nI i.val = 18 ∧ ¬ nI i.val = 19 ∧ ¬ nI i.val = 20 ∧ ¬ nI i.val = 21 ∧ ¬ nI i.val = 22 ∧ ¬ nI i.val = 23 ∧ ¬ nI i.val = 24 ∧ ¬ nI i.val = 25 ∧ ¬ nI i.val = 26 ∧ ¬ nI i.val = 27 ∧ ¬ nI i.val = 28 ∧ ¬ nI i.val = 29 ∧ ¬ nI i.val = 30 ∧ ¬ nI i.val = 31 ∧ ¬ nI i.val = 32 ∧ ¬ nI i.val = 33 ∧ ¬ nI i.val = 34 ∧ ¬ nI i.val = 35 ∧ ¬ nI i.val = 36 ∧ ¬ nI i.val = 37 ∧ ¬ nI i.val = 38) := by decide +kernel
  exact key ⟨i, hi⟩ ⟨n_feed, n_end, n_diagram, n_braid, n_drop, n_dropBraid, n_figure, n_visit, n_linking, n_alike, n_mirror, n_reverse, n_change, n_smooth, n_apart, n_join, n_moves, n_moved, n_simplify, n_way, n_summands, n_summand, n_conway, n_jones, n_signature, n_cover, n_colours, n_maps, n_chain, n_rank, n_closure, n_product, n_inverse, n_normal, n_factor, n_equal, n_summit, n_conjugate, n_two⟩
/-- the whole, when the cases that are left keep the relation -/
theorem pure_of (h_way : stp lst_way) (h_summands : stp lst_summands) (h_conway : stp lst_conway) (h_signature : stp lst_signature) (h_cover : stp lst_cover) (h_colours : stp lst_colours) (h_maps : stp lst_maps) (h_chain : stp lst_chain) (h_rank : stp lst_rank) (h_normal : stp lst_normal) (h_factor : stp lst_factor) (h_equal : stp lst_equal) (h_summit : stp lst_summit) (h_conjugate : stp lst_conjugate) (h_two : stp lst_two) : PureAll := by
  intro L xs hL
  obtain ⟨z8, z0, zA, z1, m1, m2, b, hb, hR⟩ := both_init
  obtain ⟨SE, b2, hb2⟩ := run_rel (step_all h_way h_summands h_conway h_signature h_cover h_colours h_maps h_chain h_rank h_normal h_factor h_equal h_summit h_conjugate h_two) xs (L / 6) 0 _ hR
  obtain ⟨q1, q2, q3, q4, q5, q6⟩ := hb (b + b2) (by omega)
  exact ⟨b + b2, z8, z0, zA, z1, m1, m2, SE, q1, q2, q3, q4, q5, q6, hb2 (b + b2) (by omega)⟩
end XLP
