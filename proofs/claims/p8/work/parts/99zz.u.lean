def lst_feed (vl : Nat → Nat) (K : Nat) (x1 : Int32) (x2 : Int32) (x3 : Int32) (x4 : Int32) (x5 : Int32) (zc zm : ow_MS) : Option ow_LwS :=
 cs1 (le_L_feed vl K 0 x1 x2 x3 x4 x5 zc) fun v2 zc1 => cs1 (qe_X13_feed K x1 x2 x3 x4 x5 zm) fun v4 zm3 => cs1 (qe_X13_thrown K zm3) fun v6 zm5 => (if v6 = v2 then (if v2 = 0 then crJ (cX vl) zc1 52001 0 fun v7 => (if (lg_cmp v7 v4.toInt64) = 0 then some (vl, zc1, zm5)
 else none)
 else some (vl, zc1, zm5))
 else none)
def lst_end (vl : Nat → Nat) (K : Nat) (x1 : Int32) (x2 : Int32) (x3 : Int32) (x4 : Int32) (x5 : Int32) (zc zm : ow_MS) : Option ow_LwS :=
 cs1 (le_L_end vl K 0 x1 zc) fun v2 zc1 => cs0 (qe_X13_end K x1 zm) fun zm3 => cs1 (qe_X13_thrown K zm3) fun v5 zm4 => (if v5 = v2 then some (vl, zc1, zm4)
 else none)
def lst_diagram (vl : Nat → Nat) (K : Nat) (x1 : Int32) (x2 : Int32) (x3 : Int32) (x4 : Int32) (x5 : Int32) (zc zm : ow_MS) : Option ow_LwS :=
 cs1 (le_L_diagram vl K 0  zc) fun v2 zc1 => cs1 (qe_X13_diagram K zm) fun v4 zm3 => cs1 (qe_X13_thrown K zm3) fun v6 zm5 => (if v6 = v2 then (if v2 = 0 then crJ (cX vl) zc1 52001 0 fun v7 => (if (lg_cmp v7 v4.toInt64) = 0 then some (vl, zc1, zm5)
 else none)
 else some (vl, zc1, zm5))
 else none)
def lst_braid (vl : Nat → Nat) (K : Nat) (x1 : Int32) (x2 : Int32) (x3 : Int32) (x4 : Int32) (x5 : Int32) (zc zm : ow_MS) : Option ow_LwS :=
 cs1 (le_L_braid vl K 0 x1 zc) fun v2 zc1 => cs1 (qe_X13_braid K x1 zm) fun v4 zm3 => cs1 (qe_X13_thrown K zm3) fun v6 zm5 => (if v6 = v2 then (if v2 = 0 then crJ (cX vl) zc1 52001 0 fun v7 => (if (lg_cmp v7 v4.toInt64) = 0 then some (vl, zc1, zm5)
 else none)
 else some (vl, zc1, zm5))
 else none)
def lst_drop (vl : Nat → Nat) (K : Nat) (x1 : Int32) (x2 : Int32) (x3 : Int32) (x4 : Int32) (x5 : Int32) (zc zm : ow_MS) : Option ow_LwS :=
 cs1 (ce_X11_drop vl K 0 x1 zc) fun v2 zc1 => cs1 (qe_X13_drop K x1 zm) fun v4 zm3 => (if v2 = v4 then some (vl, zc1, zm3)
 else none)
def lst_dropBraid (vl : Nat → Nat) (K : Nat) (x1 : Int32) (x2 : Int32) (x3 : Int32) (x4 : Int32) (x5 : Int32) (zc zm : ow_MS) : Option ow_LwS :=
 cs1 (ce_X11_dropBraid vl K 0 x1 zc) fun v2 zc1 => cs1 (qe_X13_dropBraid K x1 zm) fun v4 zm3 => (if v2 = v4 then some (vl, zc1, zm3)
 else none)
def lst_figure (vl : Nat → Nat) (K : Nat) (x1 : Int32) (x2 : Int32) (x3 : Int32) (x4 : Int32) (x5 : Int32) (zc zm : ow_MS) : Option ow_LwS :=
 cs1 (le_L_figure vl K 0 x1 x2 zc) fun v2 zc1 => cs1 (qe_X13_figure K x1 x2 zm) fun v4 zm3 => cs1 (qe_X13_thrown K zm3) fun v6 zm5 => (if v6 = v2 then (if v2 = 0 then crJ (cX vl) zc1 52001 0 fun v7 => (if (lg_cmp v7 v4.toInt64) = 0 then some (vl, zc1, zm5)
 else none)
 else some (vl, zc1, zm5))
 else none)
def lst_visit (vl : Nat → Nat) (K : Nat) (x1 : Int32) (x2 : Int32) (x3 : Int32) (x4 : Int32) (x5 : Int32) (zc zm : ow_MS) : Option ow_LwS :=
 cs1 (le_L_visit vl K 0 x1 x2 x3 zc) fun v2 zc1 => cs1 (qe_X13_visit K x1 x2 x3 zm) fun v4 zm3 => cs1 (qe_X13_thrown K zm3) fun v6 zm5 => (if v6 = v2 then (if v2 = 0 then crJ (cX vl) zc1 52001 0 fun v7 => (if (lg_cmp v7 v4.toInt64) = 0 then some (vl, zc1, zm5)
 else none)
 else some (vl, zc1, zm5))
 else none)
def lst_linking (vl : Nat → Nat) (K : Nat) (x1 : Int32) (x2 : Int32) (x3 : Int32) (x4 : Int32) (x5 : Int32) (zc zm : ow_MS) : Option ow_LwS :=
 cs1 (le_L_linking vl K 0 x1 x2 x3 zc) fun v2 zc1 => cs1 (qe_X13_linking K x1 x2 x3 zm) fun v4 zm3 => cs1 (qe_X13_thrown K zm3) fun v6 zm5 => (if v6 = v2 then (if v2 = 0 then crJ (cX vl) zc1 52001 0 fun v7 => (if (lg_cmp v7 v4.toInt64) = 0 then some (vl, zc1, zm5)
 else none)
 else some (vl, zc1, zm5))
 else none)
def lst_alike (vl : Nat → Nat) (K : Nat) (x1 : Int32) (x2 : Int32) (x3 : Int32) (x4 : Int32) (x5 : Int32) (zc zm : ow_MS) : Option ow_LwS :=
 cs1 (ce_X11_alike vl K 0 x1 x2 zc) fun v2 zc1 => cs1 (qe_X13_alike K x1 x2 zm) fun v4 zm3 => (if v2 = v4 then some (vl, zc1, zm3)
 else none)
def lst_mirror (vl : Nat → Nat) (K : Nat) (x1 : Int32) (x2 : Int32) (x3 : Int32) (x4 : Int32) (x5 : Int32) (zc zm : ow_MS) : Option ow_LwS :=
 cs1 (le_L_mirror vl K 0 x1 zc) fun v2 zc1 => cs1 (qe_X13_mirror K x1 zm) fun v4 zm3 => cs1 (qe_X13_thrown K zm3) fun v6 zm5 => (if v6 = v2 then (if v2 = 0 then crJ (cX vl) zc1 52001 0 fun v7 => (if (lg_cmp v7 v4.toInt64) = 0 then some (vl, zc1, zm5)
 else none)
 else some (vl, zc1, zm5))
 else none)
def lst_reverse (vl : Nat → Nat) (K : Nat) (x1 : Int32) (x2 : Int32) (x3 : Int32) (x4 : Int32) (x5 : Int32) (zc zm : ow_MS) : Option ow_LwS :=
 cs1 (le_L_reverse vl K 0 x1 x2 zc) fun v2 zc1 => cs1 (qe_X13_reverse K x1 x2 zm) fun v4 zm3 => cs1 (qe_X13_thrown K zm3) fun v6 zm5 => (if v6 = v2 then (if v2 = 0 then crJ (cX vl) zc1 52001 0 fun v7 => (if (lg_cmp v7 v4.toInt64) = 0 then some (vl, zc1, zm5)
 else none)
 else some (vl, zc1, zm5))
 else none)
def lst_change (vl : Nat → Nat) (K : Nat) (x1 : Int32) (x2 : Int32) (x3 : Int32) (x4 : Int32) (x5 : Int32) (zc zm : ow_MS) : Option ow_LwS :=
 cs1 (le_L_change vl K 0 x1 x2 zc) fun v2 zc1 => cs1 (qe_X13_change K x1 x2 zm) fun v4 zm3 => cs1 (qe_X13_thrown K zm3) fun v6 zm5 => (if v6 = v2 then (if v2 = 0 then crJ (cX vl) zc1 52001 0 fun v7 => (if (lg_cmp v7 v4.toInt64) = 0 then some (vl, zc1, zm5)
 else none)
 else some (vl, zc1, zm5))
 else none)
def lst_smooth (vl : Nat → Nat) (K : Nat) (x1 : Int32) (x2 : Int32) (x3 : Int32) (x4 : Int32) (x5 : Int32) (zc zm : ow_MS) : Option ow_LwS :=
 cs1 (le_L_smooth vl K 0 x1 x2 zc) fun v2 zc1 => cs1 (qe_X13_smooth K x1 x2 zm) fun v4 zm3 => cs1 (qe_X13_thrown K zm3) fun v6 zm5 => (if v6 = v2 then (if v2 = 0 then crJ (cX vl) zc1 52001 0 fun v7 => (if (lg_cmp v7 v4.toInt64) = 0 then some (vl, zc1, zm5)
 else none)
 else some (vl, zc1, zm5))
 else none)
def lst_apart (vl : Nat → Nat) (K : Nat) (x1 : Int32) (x2 : Int32) (x3 : Int32) (x4 : Int32) (x5 : Int32) (zc zm : ow_MS) : Option ow_LwS :=
 cs1 (le_L_apart vl K 0 x1 x2 zc) fun v2 zc1 => cs1 (qe_X13_apart K x1 x2 zm) fun v4 zm3 => cs1 (qe_X13_thrown K zm3) fun v6 zm5 => (if v6 = v2 then (if v2 = 0 then crJ (cX vl) zc1 52001 0 fun v7 => (if (lg_cmp v7 v4.toInt64) = 0 then some (vl, zc1, zm5)
 else none)
 else some (vl, zc1, zm5))
 else none)
def lst_join (vl : Nat → Nat) (K : Nat) (x1 : Int32) (x2 : Int32) (x3 : Int32) (x4 : Int32) (x5 : Int32) (zc zm : ow_MS) : Option ow_LwS :=
 cs1 (le_L_join vl K 0 x1 x2 x3 x4 zc) fun v2 zc1 => cs1 (qe_X13_join K x1 x2 x3 x4 zm) fun v4 zm3 => cs1 (qe_X13_thrown K zm3) fun v6 zm5 => (if v6 = v2 then (if v2 = 0 then crJ (cX vl) zc1 52001 0 fun v7 => (if (lg_cmp v7 v4.toInt64) = 0 then some (vl, zc1, zm5)
 else none)
 else some (vl, zc1, zm5))
 else none)
def lst_moves (vl : Nat → Nat) (K : Nat) (x1 : Int32) (x2 : Int32) (x3 : Int32) (x4 : Int32) (x5 : Int32) (zc zm : ow_MS) : Option ow_LwS :=
 cs1 (le_L_moves vl K 0 x1 x2 zc) fun v2 zc1 => cs1 (qe_X13_moves K x1 x2 zm) fun v4 zm3 => cs1 (qe_X13_thrown K zm3) fun v6 zm5 => (if v6 = v2 then (if v2 = 0 then crJ (cX vl) zc1 52001 0 fun v7 => (if (lg_cmp v7 v4.toInt64) = 0 then some (vl, zc1, zm5)
 else none)
 else some (vl, zc1, zm5))
 else none)
def lst_moved (vl : Nat → Nat) (K : Nat) (x1 : Int32) (x2 : Int32) (x3 : Int32) (x4 : Int32) (x5 : Int32) (zc zm : ow_MS) : Option ow_LwS :=
 cs1 (le_L_moved vl K 0 x1 zc) fun v2 zc1 => cs1 (qe_X13_moved K x1 zm) fun v4 zm3 => cs1 (qe_X13_thrown K zm3) fun v6 zm5 => (if v6 = v2 then (if v2 = 0 then crJ (cX vl) zc1 52001 0 fun v7 => (if (lg_cmp v7 v4.toInt64) = 0 then some (vl, zc1, zm5)
 else none)
 else some (vl, zc1, zm5))
 else none)
def lst_simplify (vl : Nat → Nat) (K : Nat) (x1 : Int32) (x2 : Int32) (x3 : Int32) (x4 : Int32) (x5 : Int32) (zc zm : ow_MS) : Option ow_LwS :=
 cs1 (le_L_simplify vl K 0 x1 zc) fun v2 zc1 => cs1 (qe_X13_simplify K x1 zm) fun v4 zm3 => cs1 (qe_X13_thrown K zm3) fun v6 zm5 => (if v6 = v2 then (if v2 = 0 then crJ (cX vl) zc1 52001 0 fun v7 => (if (lg_cmp v7 v4.toInt64) = 0 then some (vl, zc1, zm5)
 else none)
 else some (vl, zc1, zm5))
 else none)
def lst_way (vl : Nat → Nat) (K : Nat) (x1 : Int32) (x2 : Int32) (x3 : Int32) (x4 : Int32) (x5 : Int32) (zc zm : ow_MS) : Option ow_LwS :=
 cs1 (le_L_way vl K 0 x1 x2 zc) fun v2 zc1 => cs1 (qe_X13_way K x1 x2 zm) fun v4 zm3 => cs1 (qe_X13_thrown K zm3) fun v6 zm5 => (if v6 = v2 then (if v2 = 0 then crJ (cX vl) zc1 52001 0 fun v7 => (if (lg_cmp v7 v4.toInt64) = 0 then some (vl, zc1, zm5)
 else none)
 else some (vl, zc1, zm5))
 else none)
def lst_summands (vl : Nat → Nat) (K : Nat) (x1 : Int32) (x2 : Int32) (x3 : Int32) (x4 : Int32) (x5 : Int32) (zc zm : ow_MS) : Option ow_LwS :=
 cs1 (le_L_summands vl K 0 x1 zc) fun v2 zc1 => cs1 (qe_X13_summands K x1 zm) fun v4 zm3 => cs1 (qe_X13_thrown K zm3) fun v6 zm5 => (if v6 = v2 then (if v2 = 0 then crJ (cX vl) zc1 52001 0 fun v7 => (if (lg_cmp v7 v4.toInt64) = 0 then some (vl, zc1, zm5)
 else none)
 else some (vl, zc1, zm5))
 else none)
def lst_summand (vl : Nat → Nat) (K : Nat) (x1 : Int32) (x2 : Int32) (x3 : Int32) (x4 : Int32) (x5 : Int32) (zc zm : ow_MS) : Option ow_LwS :=
 cs1 (le_L_summand vl K 0 x1 zc) fun v2 zc1 => cs1 (qe_X13_summand K x1 zm) fun v4 zm3 => cs1 (qe_X13_thrown K zm3) fun v6 zm5 => (if v6 = v2 then (if v2 = 0 then crJ (cX vl) zc1 52001 0 fun v7 => (if (lg_cmp v7 v4.toInt64) = 0 then some (vl, zc1, zm5)
 else none)
 else some (vl, zc1, zm5))
 else none)
def lst_conway (vl : Nat → Nat) (K : Nat) (x1 : Int32) (x2 : Int32) (x3 : Int32) (x4 : Int32) (x5 : Int32) (zc zm : ow_MS) : Option ow_LwS :=
 cs1 (le_L_conway vl K 0 x1 x2 zc) fun v2 zc1 => cs1 (qe_X13_conway K x1 x2 zm) fun v4 zm3 => cs1 (qe_X13_thrown K zm3) fun v6 zm5 => (if v6 = v2 then (if v2 = 0 then crJ (cX vl) zc1 52001 0 fun v7 => (if (lg_cmp v7 v4.toInt64) = 0 then some (vl, zc1, zm5)
 else none)
 else some (vl, zc1, zm5))
 else none)
def lst_jones (vl : Nat → Nat) (K : Nat) (x1 : Int32) (x2 : Int32) (x3 : Int32) (x4 : Int32) (x5 : Int32) (zc zm : ow_MS) : Option ow_LwS :=
 cs1 (le_L_jones vl K 0 x1 x2 zc) fun v2 zc1 => cs1 (qe_X13_jones K x1 x2 zm) fun v4 zm3 => cs1 (qe_X13_thrown K zm3) fun v6 zm5 => (if v6 = v2 then (if v2 = 0 then crJ (cX vl) zc1 52001 0 fun v7 => (if (lg_cmp v7 v4.toInt64) = 0 then some (vl, zc1, zm5)
 else none)
 else some (vl, zc1, zm5))
 else none)
def lst_signature (vl : Nat → Nat) (K : Nat) (x1 : Int32) (x2 : Int32) (x3 : Int32) (x4 : Int32) (x5 : Int32) (zc zm : ow_MS) : Option ow_LwS :=
 cs1 (le_L_signature vl K 0 x1 zc) fun v2 zc1 => cs1 (qe_X13_signature K x1 zm) fun v4 zm3 => cs1 (qe_X13_thrown K zm3) fun v6 zm5 => (if v6 = v2 then (if v2 = 0 then crJ (cX vl) zc1 52001 0 fun v7 => (if (lg_cmp v7 v4.toInt64) = 0 then some (vl, zc1, zm5)
 else none)
 else some (vl, zc1, zm5))
 else none)
def lst_cover (vl : Nat → Nat) (K : Nat) (x1 : Int32) (x2 : Int32) (x3 : Int32) (x4 : Int32) (x5 : Int32) (zc zm : ow_MS) : Option ow_LwS :=
 cs1 (le_L_cover vl K 0 x1 x2 zc) fun v2 zc1 => cs1 (qe_X13_cover K x1 x2 zm) fun v4 zm3 => cs1 (qe_X13_thrown K zm3) fun v6 zm5 => (if v6 = v2 then (if v2 = 0 then crJ (cX vl) zc1 52001 0 fun v7 => (if (lg_cmp v7 v4.toInt64) = 0 then some (vl, zc1, zm5)
 else none)
 else some (vl, zc1, zm5))
 else none)
def lst_colours (vl : Nat → Nat) (K : Nat) (x1 : Int32) (x2 : Int32) (x3 : Int32) (x4 : Int32) (x5 : Int32) (zc zm : ow_MS) : Option ow_LwS :=
 cs1 (le_L_colours vl K 0 x1 x2 zc) fun v2 zc1 => cs1 (qe_X13_colours K x1 x2 zm) fun v4 zm3 => cs1 (qe_X13_thrown K zm3) fun v6 zm5 => (if v6 = v2 then (if v2 = 0 then crJ (cX vl) zc1 52001 0 fun v7 => (if (lg_cmp v7 v4) = 0 then some (vl, zc1, zm5)
 else none)
 else some (vl, zc1, zm5))
 else none)
def lst_maps (vl : Nat → Nat) (K : Nat) (x1 : Int32) (x2 : Int32) (x3 : Int32) (x4 : Int32) (x5 : Int32) (zc zm : ow_MS) : Option ow_LwS :=
 cs1 (le_L_maps vl K 0 x1 x2 zc) fun v2 zc1 => cs1 (qe_X13_maps K x1 x2 zm) fun v4 zm3 => cs1 (qe_X13_thrown K zm3) fun v6 zm5 => (if v6 = v2 then (if v2 = 0 then crJ (cX vl) zc1 52001 0 fun v7 => (if (lg_cmp v7 v4.toInt64) = 0 then some (vl, zc1, zm5)
 else none)
 else some (vl, zc1, zm5))
 else none)
def lst_chain (vl : Nat → Nat) (K : Nat) (x1 : Int32) (x2 : Int32) (x3 : Int32) (x4 : Int32) (x5 : Int32) (zc zm : ow_MS) : Option ow_LwS :=
 dc1 (le_L_chain vl K 0 x1 x2 zc) fun v2 vm3 zc1 => cs1 (qe_X13_chain K x1 x2 zm) fun v5 zm4 => cs1 (qe_X13_thrown K zm4) fun v7 zm6 => (if v7 = v2 then (if v2 = 0 then crJ (cX vm3) zc1 52001 0 fun v8 => (if (lg_cmp v8 v5.toInt64) = 0 then some (vm3, zc1, zm6)
 else none)
 else some (vm3, zc1, zm6))
 else none)
def lst_rank (vl : Nat → Nat) (K : Nat) (x1 : Int32) (x2 : Int32) (x3 : Int32) (x4 : Int32) (x5 : Int32) (zc zm : ow_MS) : Option ow_LwS :=
 cs1 (ce_X11_rank vl K 0 x1 x2 zc) fun v2 zc1 => cs1 (qe_X13_rank K x1 x2 zm) fun v4 zm3 => (if v2 = v4 then some (vl, zc1, zm3)
 else none)
def lst_closure (vl : Nat → Nat) (K : Nat) (x1 : Int32) (x2 : Int32) (x3 : Int32) (x4 : Int32) (x5 : Int32) (zc zm : ow_MS) : Option ow_LwS :=
 cs1 (le_L_closure vl K 0 x1 zc) fun v2 zc1 => cs1 (qe_X13_closure K x1 zm) fun v4 zm3 => cs1 (qe_X13_thrown K zm3) fun v6 zm5 => (if v6 = v2 then (if v2 = 0 then crJ (cX vl) zc1 52001 0 fun v7 => (if (lg_cmp v7 v4.toInt64) = 0 then some (vl, zc1, zm5)
 else none)
 else some (vl, zc1, zm5))
 else none)
def lst_product (vl : Nat → Nat) (K : Nat) (x1 : Int32) (x2 : Int32) (x3 : Int32) (x4 : Int32) (x5 : Int32) (zc zm : ow_MS) : Option ow_LwS :=
 cs1 (le_L_product vl K 0 x1 x2 zc) fun v2 zc1 => cs1 (qe_X13_product K x1 x2 zm) fun v4 zm3 => cs1 (qe_X13_thrown K zm3) fun v6 zm5 => (if v6 = v2 then (if v2 = 0 then crJ (cX vl) zc1 52001 0 fun v7 => (if (lg_cmp v7 v4.toInt64) = 0 then some (vl, zc1, zm5)
 else none)
 else some (vl, zc1, zm5))
 else none)
def lst_inverse (vl : Nat → Nat) (K : Nat) (x1 : Int32) (x2 : Int32) (x3 : Int32) (x4 : Int32) (x5 : Int32) (zc zm : ow_MS) : Option ow_LwS :=
 cs1 (le_L_inverse vl K 0 x1 zc) fun v2 zc1 => cs1 (qe_X13_inverse K x1 zm) fun v4 zm3 => cs1 (qe_X13_thrown K zm3) fun v6 zm5 => (if v6 = v2 then (if v2 = 0 then crJ (cX vl) zc1 52001 0 fun v7 => (if (lg_cmp v7 v4.toInt64) = 0 then some (vl, zc1, zm5)
 else none)
 else some (vl, zc1, zm5))
 else none)
def lst_normal (vl : Nat → Nat) (K : Nat) (x1 : Int32) (x2 : Int32) (x3 : Int32) (x4 : Int32) (x5 : Int32) (zc zm : ow_MS) : Option ow_LwS :=
 cs1 (le_L_normal vl K 0 x1 x2 zc) fun v2 zc1 => cs1 (qe_X13_normal K x1 x2 zm) fun v4 zm3 => cs1 (qe_X13_thrown K zm3) fun v6 zm5 => (if v6 = v2 then (if v2 = 0 then crJ (cX vl) zc1 52001 0 fun v7 => (if (lg_cmp v7 v4.toInt64) = 0 then some (vl, zc1, zm5)
 else none)
 else some (vl, zc1, zm5))
 else none)
def lst_factor (vl : Nat → Nat) (K : Nat) (x1 : Int32) (x2 : Int32) (x3 : Int32) (x4 : Int32) (x5 : Int32) (zc zm : ow_MS) : Option ow_LwS :=
 cs1 (le_L_factor vl K 0 x1 x2 x3 zc) fun v2 zc1 => cs1 (qe_X13_factor K x1 x2 x3 zm) fun v4 zm3 => cs1 (qe_X13_thrown K zm3) fun v6 zm5 => (if v6 = v2 then (if v2 = 0 then crJ (cX vl) zc1 52001 0 fun v7 => (if (lg_cmp v7 v4.toInt64) = 0 then some (vl, zc1, zm5)
 else none)
 else some (vl, zc1, zm5))
 else none)
def lst_equal (vl : Nat → Nat) (K : Nat) (x1 : Int32) (x2 : Int32) (x3 : Int32) (x4 : Int32) (x5 : Int32) (zc zm : ow_MS) : Option ow_LwS :=
 cs1 (ce_X11_equal vl K 0 x1 x2 zc) fun v2 zc1 => cs1 (qe_X13_equal K x1 x2 zm) fun v4 zm3 => (if v2 = v4 then some (vl, zc1, zm3)
 else none)
def lst_summit (vl : Nat → Nat) (K : Nat) (x1 : Int32) (x2 : Int32) (x3 : Int32) (x4 : Int32) (x5 : Int32) (zc zm : ow_MS) : Option ow_LwS :=
 cs1 (le_L_summit vl K 0 x1 zc) fun v2 zc1 => cs1 (qe_X13_summit K x1 zm) fun v4 zm3 => cs1 (qe_X13_thrown K zm3) fun v6 zm5 => (if v6 = v2 then (if v2 = 0 then crJ (cX vl) zc1 52001 0 fun v7 => (if (lg_cmp v7 v4.toInt64) = 0 then some (vl, zc1, zm5)
 else none)
 else some (vl, zc1, zm5))
 else none)
def lst_conjugate (vl : Nat → Nat) (K : Nat) (x1 : Int32) (x2 : Int32) (x3 : Int32) (x4 : Int32) (x5 : Int32) (zc zm : ow_MS) : Option ow_LwS :=
 cs1 (le_L_conjugate vl K 0 x1 x2 zc) fun v2 zc1 => cs1 (qe_X13_conjugate K x1 x2 zm) fun v4 zm3 => cs1 (qe_X13_thrown K zm3) fun v6 zm5 => (if v6 = v2 then (if v2 = 0 then crJ (cX vl) zc1 52001 0 fun v7 => (if (lg_cmp v7 v4.toInt64) = 0 then some (vl, zc1, zm5)
 else none)
 else some (vl, zc1, zm5))
 else none)
def lst_two (vl : Nat → Nat) (K : Nat) (x1 : Int32) (x2 : Int32) (x3 : Int32) (x4 : Int32) (x5 : Int32) (zc zm : ow_MS) : Option ow_LwS :=
 cs1 (le_L_two vl K 0 x1 x2 x3 zc) fun v2 zc1 => cs1 (qe_X13_two K x1 x2 x3 zm) fun v4 zm3 => cs1 (qe_X13_thrown K zm3) fun v6 zm5 => (if v6 = v2 then (if v2 = 0 then crJ (cX vl) zc1 52001 0 fun v7 => (if (lg_cmp v7 v4.toInt64) = 0 then some (vl, zc1, zm5)
 else none)
 else some (vl, zc1, zm5))
 else none)
def lstep (K : Nat) (x0 x1 x2 x3 x4 x5 : Int32) (S : ow_LwS) : Option ow_LwS := if (x0 &&& 63).toInt < 0 ∨ 38 < (x0 &&& 63).toInt then some S
 else if x0 &&& 63 = 0 then lst_feed S.1 K x1 x2 x3 x4 x5 S.2.1 S.2.2
 else if x0 &&& 63 = 1 then lst_end S.1 K x1 x2 x3 x4 x5 S.2.1 S.2.2
 else if x0 &&& 63 = 2 then lst_diagram S.1 K x1 x2 x3 x4 x5 S.2.1 S.2.2
 else if x0 &&& 63 = 3 then lst_braid S.1 K x1 x2 x3 x4 x5 S.2.1 S.2.2
 else if x0 &&& 63 = 4 then lst_drop S.1 K x1 x2 x3 x4 x5 S.2.1 S.2.2
 else if x0 &&& 63 = 5 then lst_dropBraid S.1 K x1 x2 x3 x4 x5 S.2.1 S.2.2
 else if x0 &&& 63 = 6 then lst_figure S.1 K x1 x2 x3 x4 x5 S.2.1 S.2.2
 else if x0 &&& 63 = 7 then lst_visit S.1 K x1 x2 x3 x4 x5 S.2.1 S.2.2
 else if x0 &&& 63 = 8 then lst_linking S.1 K x1 x2 x3 x4 x5 S.2.1 S.2.2
 else if x0 &&& 63 = 9 then lst_alike S.1 K x1 x2 x3 x4 x5 S.2.1 S.2.2
 else if x0 &&& 63 = 10 then lst_mirror S.1 K x1 x2 x3 x4 x5 S.2.1 S.2.2
 else if x0 &&& 63 = 11 then lst_reverse S.1 K x1 x2 x3 x4 x5 S.2.1 S.2.2
 else if x0 &&& 63 = 12 then lst_change S.1 K x1 x2 x3 x4 x5 S.2.1 S.2.2
 else if x0 &&& 63 = 13 then lst_smooth S.1 K x1 x2 x3 x4 x5 S.2.1 S.2.2
 else if x0 &&& 63 = 14 then lst_apart S.1 K x1 x2 x3 x4 x5 S.2.1 S.2.2
 else if x0 &&& 63 = 15 then lst_join S.1 K x1 x2 x3 x4 x5 S.2.1 S.2.2
 else if x0 &&& 63 = 16 then lst_moves S.1 K x1 x2 x3 x4 x5 S.2.1 S.2.2
 else if x0 &&& 63 = 17 then lst_moved S.1 K x1 x2 x3 x4 x5 S.2.1 S.2.2
 else if x0 &&& 63 = 18 then lst_simplify S.1 K x1 x2 x3 x4 x5 S.2.1 S.2.2
 else if x0 &&& 63 = 19 then lst_way S.1 K x1 x2 x3 x4 x5 S.2.1 S.2.2
 else if x0 &&& 63 = 20 then lst_summands S.1 K x1 x2 x3 x4 x5 S.2.1 S.2.2
 else if x0 &&& 63 = 21 then lst_summand S.1 K x1 x2 x3 x4 x5 S.2.1 S.2.2
 else if x0 &&& 63 = 22 then lst_conway S.1 K x1 x2 x3 x4 x5 S.2.1 S.2.2
 else if x0 &&& 63 = 23 then lst_jones S.1 K x1 x2 x3 x4 x5 S.2.1 S.2.2
 else if x0 &&& 63 = 24 then lst_signature S.1 K x1 x2 x3 x4 x5 S.2.1 S.2.2
 else if x0 &&& 63 = 25 then lst_cover S.1 K x1 x2 x3 x4 x5 S.2.1 S.2.2
 else if x0 &&& 63 = 26 then lst_colours S.1 K x1 x2 x3 x4 x5 S.2.1 S.2.2
 else if x0 &&& 63 = 27 then lst_maps S.1 K x1 x2 x3 x4 x5 S.2.1 S.2.2
 else if x0 &&& 63 = 28 then lst_chain S.1 K x1 x2 x3 x4 x5 S.2.1 S.2.2
 else if x0 &&& 63 = 29 then lst_rank S.1 K x1 x2 x3 x4 x5 S.2.1 S.2.2
 else if x0 &&& 63 = 30 then lst_closure S.1 K x1 x2 x3 x4 x5 S.2.1 S.2.2
 else if x0 &&& 63 = 31 then lst_product S.1 K x1 x2 x3 x4 x5 S.2.1 S.2.2
 else if x0 &&& 63 = 32 then lst_inverse S.1 K x1 x2 x3 x4 x5 S.2.1 S.2.2
 else if x0 &&& 63 = 33 then lst_normal S.1 K x1 x2 x3 x4 x5 S.2.1 S.2.2
 else if x0 &&& 63 = 34 then lst_factor S.1 K x1 x2 x3 x4 x5 S.2.1 S.2.2
 else if x0 &&& 63 = 35 then lst_equal S.1 K x1 x2 x3 x4 x5 S.2.1 S.2.2
 else if x0 &&& 63 = 36 then lst_summit S.1 K x1 x2 x3 x4 x5 S.2.1 S.2.2
 else if x0 &&& 63 = 37 then lst_conjugate S.1 K x1 x2 x3 x4 x5 S.2.1 S.2.2
 else if x0 &&& 63 = 38 then lst_two S.1 K x1 x2 x3 x4 x5 S.2.1 S.2.2
 else none
def lrun (K : Nat) (xs : Nat → Int32) : Nat → Nat → ow_LwS → Option ow_LwS
  | 0, _, S => some S
  | k + 1, n, S => match lstep K (xs (6 * n)) (xs (6 * n + 1)) (xs (6 * n + 2)) (xs (6 * n + 3)) (xs (6 * n + 4)) (xs (6 * n + 5)) S with
    | none => none
    | some S1 => if dPhi S.1 ≤ dPhi S1.1 ∧ dPhi S1.1 ≤ 2800000 then lrun K xs k (n + 1) S1 else none
def PureAll : Prop := ∀ (L : Nat) (xs : Nat → Int32), L ≤ 3072 → ∃ (K : Nat) (z8 z0 zA z1 m1 m2 : ow_MS) (SE : ow_LwS), ce_X8i_b8 K 24000 zeroS = some z8 ∧ ce_X0i_b0 K 41000 53001 zeroS = some z0 ∧ ce_X1i_b1 K 43000 zeroS = some zA ∧ ce_X1j_b1b K 43000 53001 (usZ zA [53]) = some z1 ∧ qe_X13_makeSimples_a K Z13 = some m1 ∧ qe_X13_makePermutations_a K m1 = some m2 ∧ lrun K xs (L / 6) 0 (vl0, Zc z8 z0 z1, usZ m2 blM) = some SE
